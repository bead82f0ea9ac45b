theorem dX12_copy_0 : decode cX12_copy 0 = .ok (.iconst 0, 1) := by decide +kernel
theorem dX12_copy_1 : decode cX12_copy 1 = .ok (.istore_n 3, 1) := by decide +kernel
theorem dX12_copy_2 : decode cX12_copy 2 = .ok (.iload_n 3, 1) := by decide +kernel
theorem dX12_copy_3 : decode cX12_copy 3 = .ok (.bipush 6, 2) := by decide +kernel
theorem dX12_copy_5 : decode cX12_copy 5 = .ok (.if_icmp .ge 31, 3) := by decide +kernel
theorem dX12_copy_8 : decode cX12_copy 8 = .ok (.aload_n 0, 1) := by decide +kernel
theorem dX12_copy_9 : decode cX12_copy 9 = .ok (.getfield 73, 3) := by decide +kernel
theorem dX12_copy_12 : decode cX12_copy 12 = .ok (.bipush 6, 2) := by decide +kernel
theorem dX12_copy_14 : decode cX12_copy 14 = .ok (.iload_n 2, 1) := by decide +kernel
theorem dX12_copy_15 : decode cX12_copy 15 = .ok (.imul, 1) := by decide +kernel
theorem dX12_copy_16 : decode cX12_copy 16 = .ok (.iload_n 3, 1) := by decide +kernel
theorem dX12_copy_17 : decode cX12_copy 17 = .ok (.iadd, 1) := by decide +kernel
theorem dX12_copy_18 : decode cX12_copy 18 = .ok (.aload_n 0, 1) := by decide +kernel
theorem dX12_copy_19 : decode cX12_copy 19 = .ok (.getfield 73, 3) := by decide +kernel
theorem dX12_copy_22 : decode cX12_copy 22 = .ok (.bipush 6, 2) := by decide +kernel
theorem dX12_copy_24 : decode cX12_copy 24 = .ok (.iload_n 1, 1) := by decide +kernel
theorem dX12_copy_25 : decode cX12_copy 25 = .ok (.imul, 1) := by decide +kernel
theorem dX12_copy_26 : decode cX12_copy 26 = .ok (.iload_n 3, 1) := by decide +kernel
theorem dX12_copy_27 : decode cX12_copy 27 = .ok (.iadd, 1) := by decide +kernel
theorem dX12_copy_28 : decode cX12_copy 28 = .ok (.laload, 1) := by decide +kernel
theorem dX12_copy_29 : decode cX12_copy 29 = .ok (.lastore, 1) := by decide +kernel
theorem dX12_copy_30 : decode cX12_copy 30 = .ok (.iinc 3 1, 3) := by decide +kernel
theorem dX12_copy_33 : decode cX12_copy 33 = .ok (.goto (-31), 3) := by decide +kernel
theorem dX12_copy_36 : decode cX12_copy 36 = .ok (.return_, 1) := by decide +kernel
theorem dX12_settle_0 : decode cX12_settle 0 = .ok (.iconst 0, 1) := by decide +kernel
theorem dX12_settle_1 : decode cX12_settle 1 = .ok (.istore_n 2, 1) := by decide +kernel
theorem dX12_settle_2 : decode cX12_settle 2 = .ok (.iload_n 2, 1) := by decide +kernel
theorem dX12_settle_3 : decode cX12_settle 3 = .ok (.iconst 5, 1) := by decide +kernel
theorem dX12_settle_4 : decode cX12_settle 4 = .ok (.if_icmp .ge 56, 3) := by decide +kernel
theorem dX12_settle_7 : decode cX12_settle 7 = .ok (.aload_n 0, 1) := by decide +kernel
theorem dX12_settle_8 : decode cX12_settle 8 = .ok (.getfield 73, 3) := by decide +kernel
theorem dX12_settle_11 : decode cX12_settle 11 = .ok (.bipush 6, 2) := by decide +kernel
theorem dX12_settle_13 : decode cX12_settle 13 = .ok (.iload_n 1, 1) := by decide +kernel
theorem dX12_settle_14 : decode cX12_settle 14 = .ok (.imul, 1) := by decide +kernel
theorem dX12_settle_15 : decode cX12_settle 15 = .ok (.iload_n 2, 1) := by decide +kernel
theorem dX12_settle_16 : decode cX12_settle 16 = .ok (.iadd, 1) := by decide +kernel
theorem dX12_settle_17 : decode cX12_settle 17 = .ok (.iconst 1, 1) := by decide +kernel
theorem dX12_settle_18 : decode cX12_settle 18 = .ok (.iadd, 1) := by decide +kernel
theorem dX12_settle_19 : decode cX12_settle 19 = .ok (.dup2, 1) := by decide +kernel
theorem dX12_settle_20 : decode cX12_settle 20 = .ok (.laload, 1) := by decide +kernel
theorem dX12_settle_21 : decode cX12_settle 21 = .ok (.aload_n 0, 1) := by decide +kernel
theorem dX12_settle_22 : decode cX12_settle 22 = .ok (.getfield 73, 3) := by decide +kernel
theorem dX12_settle_25 : decode cX12_settle 25 = .ok (.bipush 6, 2) := by decide +kernel
theorem dX12_settle_27 : decode cX12_settle 27 = .ok (.iload_n 1, 1) := by decide +kernel
theorem dX12_settle_28 : decode cX12_settle 28 = .ok (.imul, 1) := by decide +kernel
theorem dX12_settle_29 : decode cX12_settle 29 = .ok (.iload_n 2, 1) := by decide +kernel
theorem dX12_settle_30 : decode cX12_settle 30 = .ok (.iadd, 1) := by decide +kernel
theorem dX12_settle_31 : decode cX12_settle 31 = .ok (.laload, 1) := by decide +kernel
theorem dX12_settle_32 : decode cX12_settle 32 = .ok (.bipush 31, 2) := by decide +kernel
theorem dX12_settle_34 : decode cX12_settle 34 = .ok (.lshr, 1) := by decide +kernel
theorem dX12_settle_35 : decode cX12_settle 35 = .ok (.ladd, 1) := by decide +kernel
theorem dX12_settle_36 : decode cX12_settle 36 = .ok (.lastore, 1) := by decide +kernel
theorem dX12_settle_37 : decode cX12_settle 37 = .ok (.aload_n 0, 1) := by decide +kernel
theorem dX12_settle_38 : decode cX12_settle 38 = .ok (.getfield 73, 3) := by decide +kernel
theorem dX12_settle_41 : decode cX12_settle 41 = .ok (.bipush 6, 2) := by decide +kernel
theorem dX12_settle_43 : decode cX12_settle 43 = .ok (.iload_n 1, 1) := by decide +kernel
theorem dX12_settle_44 : decode cX12_settle 44 = .ok (.imul, 1) := by decide +kernel
theorem dX12_settle_45 : decode cX12_settle 45 = .ok (.iload_n 2, 1) := by decide +kernel
theorem dX12_settle_46 : decode cX12_settle 46 = .ok (.iadd, 1) := by decide +kernel
theorem dX12_settle_47 : decode cX12_settle 47 = .ok (.dup2, 1) := by decide +kernel
theorem dX12_settle_48 : decode cX12_settle 48 = .ok (.laload, 1) := by decide +kernel
theorem dX12_settle_49 : decode cX12_settle 49 = .ok (.ldc2_w 303, 3) := by decide +kernel
theorem dX12_settle_52 : decode cX12_settle 52 = .ok (.land, 1) := by decide +kernel
theorem dX12_settle_53 : decode cX12_settle 53 = .ok (.lastore, 1) := by decide +kernel
theorem dX12_settle_54 : decode cX12_settle 54 = .ok (.iinc 2 1, 3) := by decide +kernel
theorem dX12_settle_57 : decode cX12_settle 57 = .ok (.goto (-55), 3) := by decide +kernel
theorem dX12_settle_60 : decode cX12_settle 60 = .ok (.return_, 1) := by decide +kernel
theorem dX12_add_0 : decode cX12_add 0 = .ok (.iconst 0, 1) := by decide +kernel
theorem dX12_add_1 : decode cX12_add 1 = .ok (.istore 5, 2) := by decide +kernel
theorem dX12_add_3 : decode cX12_add 3 = .ok (.iload 5, 2) := by decide +kernel
theorem dX12_add_5 : decode cX12_add 5 = .ok (.bipush 6, 2) := by decide +kernel
theorem dX12_add_7 : decode cX12_add 7 = .ok (.if_icmp .ge 38, 3) := by decide +kernel
theorem dX12_add_10 : decode cX12_add 10 = .ok (.aload_n 0, 1) := by decide +kernel
theorem dX12_add_11 : decode cX12_add 11 = .ok (.getfield 73, 3) := by decide +kernel
theorem dX12_add_14 : decode cX12_add 14 = .ok (.bipush 6, 2) := by decide +kernel
theorem dX12_add_16 : decode cX12_add 16 = .ok (.iload_n 1, 1) := by decide +kernel
theorem dX12_add_17 : decode cX12_add 17 = .ok (.imul, 1) := by decide +kernel
theorem dX12_add_18 : decode cX12_add 18 = .ok (.iload 5, 2) := by decide +kernel
theorem dX12_add_20 : decode cX12_add 20 = .ok (.iadd, 1) := by decide +kernel
theorem dX12_add_21 : decode cX12_add 21 = .ok (.dup2, 1) := by decide +kernel
theorem dX12_add_22 : decode cX12_add 22 = .ok (.laload, 1) := by decide +kernel
theorem dX12_add_23 : decode cX12_add 23 = .ok (.lload_n 3, 1) := by decide +kernel
theorem dX12_add_24 : decode cX12_add 24 = .ok (.aload_n 0, 1) := by decide +kernel
theorem dX12_add_25 : decode cX12_add 25 = .ok (.getfield 73, 3) := by decide +kernel
theorem dX12_add_28 : decode cX12_add 28 = .ok (.bipush 6, 2) := by decide +kernel
theorem dX12_add_30 : decode cX12_add 30 = .ok (.iload_n 2, 1) := by decide +kernel
theorem dX12_add_31 : decode cX12_add 31 = .ok (.imul, 1) := by decide +kernel
theorem dX12_add_32 : decode cX12_add 32 = .ok (.iload 5, 2) := by decide +kernel
theorem dX12_add_34 : decode cX12_add 34 = .ok (.iadd, 1) := by decide +kernel
theorem dX12_add_35 : decode cX12_add 35 = .ok (.laload, 1) := by decide +kernel
theorem dX12_add_36 : decode cX12_add 36 = .ok (.lmul, 1) := by decide +kernel
theorem dX12_add_37 : decode cX12_add 37 = .ok (.ladd, 1) := by decide +kernel
theorem dX12_add_38 : decode cX12_add 38 = .ok (.lastore, 1) := by decide +kernel
theorem dX12_add_39 : decode cX12_add 39 = .ok (.iinc 5 1, 3) := by decide +kernel
theorem dX12_add_42 : decode cX12_add 42 = .ok (.goto (-39), 3) := by decide +kernel
theorem dX12_add_45 : decode cX12_add 45 = .ok (.aload_n 0, 1) := by decide +kernel
theorem dX12_add_46 : decode cX12_add 46 = .ok (.iload_n 1, 1) := by decide +kernel
theorem dX12_add_47 : decode cX12_add 47 = .ok (.invokevirtual 305, 3) := by decide +kernel
theorem dX12_add_50 : decode cX12_add 50 = .ok (.return_, 1) := by decide +kernel
theorem dX12_put_0 : decode cX12_put 0 = .ok (.iconst 0, 1) := by decide +kernel
theorem dX12_put_1 : decode cX12_put 1 = .ok (.istore 4, 2) := by decide +kernel
theorem dX12_put_3 : decode cX12_put 3 = .ok (.iload 4, 2) := by decide +kernel
theorem dX12_put_5 : decode cX12_put 5 = .ok (.bipush 6, 2) := by decide +kernel
theorem dX12_put_7 : decode cX12_put 7 = .ok (.if_icmp .ge 31, 3) := by decide +kernel
theorem dX12_put_10 : decode cX12_put 10 = .ok (.aload_n 0, 1) := by decide +kernel
theorem dX12_put_11 : decode cX12_put 11 = .ok (.getfield 73, 3) := by decide +kernel
theorem dX12_put_14 : decode cX12_put 14 = .ok (.bipush 6, 2) := by decide +kernel
theorem dX12_put_16 : decode cX12_put 16 = .ok (.iload_n 1, 1) := by decide +kernel
theorem dX12_put_17 : decode cX12_put 17 = .ok (.imul, 1) := by decide +kernel
theorem dX12_put_18 : decode cX12_put 18 = .ok (.iload 4, 2) := by decide +kernel
theorem dX12_put_20 : decode cX12_put 20 = .ok (.iadd, 1) := by decide +kernel
theorem dX12_put_21 : decode cX12_put 21 = .ok (.iload 4, 2) := by decide +kernel
theorem dX12_put_23 : decode cX12_put 23 = .ok (.ifCond .ne 7, 3) := by decide +kernel
theorem dX12_put_26 : decode cX12_put 26 = .ok (.lload_n 2, 1) := by decide +kernel
theorem dX12_put_27 : decode cX12_put 27 = .ok (.goto 4, 3) := by decide +kernel
theorem dX12_put_30 : decode cX12_put 30 = .ok (.lconst 0, 1) := by decide +kernel
theorem dX12_put_31 : decode cX12_put 31 = .ok (.lastore, 1) := by decide +kernel
theorem dX12_put_32 : decode cX12_put 32 = .ok (.iinc 4 1, 3) := by decide +kernel
theorem dX12_put_35 : decode cX12_put 35 = .ok (.goto (-32), 3) := by decide +kernel
theorem dX12_put_38 : decode cX12_put 38 = .ok (.return_, 1) := by decide +kernel
theorem dX12_multiplyParts_0 : decode cX12_multiplyParts 0 = .ok (.iconst 0, 1) := by decide +kernel
theorem dX12_multiplyParts_1 : decode cX12_multiplyParts 1 = .ok (.istore_n 2, 1) := by decide +kernel
theorem dX12_multiplyParts_2 : decode cX12_multiplyParts 2 = .ok (.iload_n 2, 1) := by decide +kernel
theorem dX12_multiplyParts_3 : decode cX12_multiplyParts 3 = .ok (.sipush 145, 3) := by decide +kernel
theorem dX12_multiplyParts_6 : decode cX12_multiplyParts 6 = .ok (.if_icmp .ge 25, 3) := by decide +kernel
theorem dX12_multiplyParts_9 : decode cX12_multiplyParts 9 = .ok (.aload_n 0, 1) := by decide +kernel
theorem dX12_multiplyParts_10 : decode cX12_multiplyParts 10 = .ok (.iconst 0, 1) := by decide +kernel
theorem dX12_multiplyParts_11 : decode cX12_multiplyParts 11 = .ok (.iload_n 2, 1) := by decide +kernel
theorem dX12_multiplyParts_12 : decode cX12_multiplyParts 12 = .ok (.iadd, 1) := by decide +kernel
theorem dX12_multiplyParts_13 : decode cX12_multiplyParts 13 = .ok (.iload_n 2, 1) := by decide +kernel
theorem dX12_multiplyParts_14 : decode cX12_multiplyParts 14 = .ok (.ifCond .ne 7, 3) := by decide +kernel
theorem dX12_multiplyParts_17 : decode cX12_multiplyParts 17 = .ok (.lconst 1, 1) := by decide +kernel
theorem dX12_multiplyParts_18 : decode cX12_multiplyParts 18 = .ok (.goto 4, 3) := by decide +kernel
theorem dX12_multiplyParts_21 : decode cX12_multiplyParts 21 = .ok (.lconst 0, 1) := by decide +kernel
theorem dX12_multiplyParts_22 : decode cX12_multiplyParts 22 = .ok (.invokevirtual 310, 3) := by decide +kernel
theorem dX12_multiplyParts_25 : decode cX12_multiplyParts 25 = .ok (.iinc 2 1, 3) := by decide +kernel
theorem dX12_multiplyParts_28 : decode cX12_multiplyParts 28 = .ok (.goto (-26), 3) := by decide +kernel
theorem dX12_multiplyParts_31 : decode cX12_multiplyParts 31 = .ok (.iconst 0, 1) := by decide +kernel
theorem dX12_multiplyParts_32 : decode cX12_multiplyParts 32 = .ok (.istore_n 2, 1) := by decide +kernel
theorem dX12_multiplyParts_33 : decode cX12_multiplyParts 33 = .ok (.iload_n 2, 1) := by decide +kernel
theorem dX12_multiplyParts_34 : decode cX12_multiplyParts 34 = .ok (.aload_n 0, 1) := by decide +kernel
theorem dX12_multiplyParts_35 : decode cX12_multiplyParts 35 = .ok (.getfield 246, 3) := by decide +kernel
theorem dX12_multiplyParts_38 : decode cX12_multiplyParts 38 = .ok (.if_icmp .ge 186, 3) := by decide +kernel
theorem dX12_multiplyParts_41 : decode cX12_multiplyParts 41 = .ok (.iconst 0, 1) := by decide +kernel
theorem dX12_multiplyParts_42 : decode cX12_multiplyParts 42 = .ok (.istore_n 3, 1) := by decide +kernel
theorem dX12_multiplyParts_43 : decode cX12_multiplyParts 43 = .ok (.iload_n 3, 1) := by decide +kernel
theorem dX12_multiplyParts_44 : decode cX12_multiplyParts 44 = .ok (.sipush 145, 3) := by decide +kernel
theorem dX12_multiplyParts_47 : decode cX12_multiplyParts 47 = .ok (.if_icmp .ge 19, 3) := by decide +kernel
theorem dX12_multiplyParts_50 : decode cX12_multiplyParts 50 = .ok (.aload_n 0, 1) := by decide +kernel
theorem dX12_multiplyParts_51 : decode cX12_multiplyParts 51 = .ok (.sipush 145, 3) := by decide +kernel
theorem dX12_multiplyParts_54 : decode cX12_multiplyParts 54 = .ok (.iload_n 3, 1) := by decide +kernel
theorem dX12_multiplyParts_55 : decode cX12_multiplyParts 55 = .ok (.iadd, 1) := by decide +kernel
theorem dX12_multiplyParts_56 : decode cX12_multiplyParts 56 = .ok (.lconst 0, 1) := by decide +kernel
theorem dX12_multiplyParts_57 : decode cX12_multiplyParts 57 = .ok (.invokevirtual 310, 3) := by decide +kernel
theorem dX12_multiplyParts_60 : decode cX12_multiplyParts 60 = .ok (.iinc 3 1, 3) := by decide +kernel
theorem dX12_multiplyParts_63 : decode cX12_multiplyParts 63 = .ok (.goto (-20), 3) := by decide +kernel
theorem dX12_multiplyParts_66 : decode cX12_multiplyParts 66 = .ok (.iconst 0, 1) := by decide +kernel
theorem dX12_multiplyParts_67 : decode cX12_multiplyParts 67 = .ok (.istore_n 3, 1) := by decide +kernel
theorem dX12_multiplyParts_68 : decode cX12_multiplyParts 68 = .ok (.iload_n 3, 1) := by decide +kernel
theorem dX12_multiplyParts_69 : decode cX12_multiplyParts 69 = .ok (.sipush 145, 3) := by decide +kernel
theorem dX12_multiplyParts_72 : decode cX12_multiplyParts 72 = .ok (.if_icmp .ge 119, 3) := by decide +kernel
theorem dX12_multiplyParts_75 : decode cX12_multiplyParts 75 = .ok (.iconst 0, 1) := by decide +kernel
theorem dX12_multiplyParts_76 : decode cX12_multiplyParts 76 = .ok (.istore 4, 2) := by decide +kernel
theorem dX12_multiplyParts_78 : decode cX12_multiplyParts 78 = .ok (.iload 4, 2) := by decide +kernel
theorem dX12_multiplyParts_80 : decode cX12_multiplyParts 80 = .ok (.aload_n 0, 1) := by decide +kernel
theorem dX12_multiplyParts_81 : decode cX12_multiplyParts 81 = .ok (.getfield 45, 3) := by decide +kernel
theorem dX12_multiplyParts_84 : decode cX12_multiplyParts 84 = .ok (.iload_n 2, 1) := by decide +kernel
theorem dX12_multiplyParts_85 : decode cX12_multiplyParts 85 = .ok (.iaload, 1) := by decide +kernel
theorem dX12_multiplyParts_86 : decode cX12_multiplyParts 86 = .ok (.if_icmp .gt 99, 3) := by decide +kernel
theorem dX12_multiplyParts_89 : decode cX12_multiplyParts 89 = .ok (.iload_n 3, 1) := by decide +kernel
theorem dX12_multiplyParts_90 : decode cX12_multiplyParts 90 = .ok (.iload 4, 2) := by decide +kernel
theorem dX12_multiplyParts_92 : decode cX12_multiplyParts 92 = .ok (.iadd, 1) := by decide +kernel
theorem dX12_multiplyParts_93 : decode cX12_multiplyParts 93 = .ok (.sipush 145, 3) := by decide +kernel
theorem dX12_multiplyParts_96 : decode cX12_multiplyParts 96 = .ok (.if_icmp .ge 89, 3) := by decide +kernel
theorem dX12_multiplyParts_99 : decode cX12_multiplyParts 99 = .ok (.iload_n 1, 1) := by decide +kernel
theorem dX12_multiplyParts_100 : decode cX12_multiplyParts 100 = .ok (.ifCond .lt 40, 3) := by decide +kernel
theorem dX12_multiplyParts_103 : decode cX12_multiplyParts 103 = .ok (.aload_n 0, 1) := by decide +kernel
theorem dX12_multiplyParts_104 : decode cX12_multiplyParts 104 = .ok (.getfield 39, 3) := by decide +kernel
theorem dX12_multiplyParts_107 : decode cX12_multiplyParts 107 = .ok (.iload_n 1, 1) := by decide +kernel
theorem dX12_multiplyParts_108 : decode cX12_multiplyParts 108 = .ok (.iaload, 1) := by decide +kernel
theorem dX12_multiplyParts_109 : decode cX12_multiplyParts 109 = .ok (.iload_n 2, 1) := by decide +kernel
theorem dX12_multiplyParts_110 : decode cX12_multiplyParts 110 = .ok (.if_icmp .ne 30, 3) := by decide +kernel
theorem dX12_multiplyParts_113 : decode cX12_multiplyParts 113 = .ok (.aload_n 0, 1) := by decide +kernel
theorem dX12_multiplyParts_114 : decode cX12_multiplyParts 114 = .ok (.getfield 51, 3) := by decide +kernel
theorem dX12_multiplyParts_117 : decode cX12_multiplyParts 117 = .ok (.sipush 272, 3) := by decide +kernel
theorem dX12_multiplyParts_120 : decode cX12_multiplyParts 120 = .ok (.iload_n 2, 1) := by decide +kernel
theorem dX12_multiplyParts_121 : decode cX12_multiplyParts 121 = .ok (.imul, 1) := by decide +kernel
theorem dX12_multiplyParts_122 : decode cX12_multiplyParts 122 = .ok (.bipush 17, 2) := by decide +kernel
theorem dX12_multiplyParts_124 : decode cX12_multiplyParts 124 = .ok (.aload_n 0, 1) := by decide +kernel
theorem dX12_multiplyParts_125 : decode cX12_multiplyParts 125 = .ok (.getfield 42, 3) := by decide +kernel
theorem dX12_multiplyParts_128 : decode cX12_multiplyParts 128 = .ok (.iload_n 1, 1) := by decide +kernel
theorem dX12_multiplyParts_129 : decode cX12_multiplyParts 129 = .ok (.iaload, 1) := by decide +kernel
theorem dX12_multiplyParts_130 : decode cX12_multiplyParts 130 = .ok (.imul, 1) := by decide +kernel
theorem dX12_multiplyParts_131 : decode cX12_multiplyParts 131 = .ok (.iadd, 1) := by decide +kernel
theorem dX12_multiplyParts_132 : decode cX12_multiplyParts 132 = .ok (.iload 4, 2) := by decide +kernel
theorem dX12_multiplyParts_134 : decode cX12_multiplyParts 134 = .ok (.iadd, 1) := by decide +kernel
theorem dX12_multiplyParts_135 : decode cX12_multiplyParts 135 = .ok (.iaload, 1) := by decide +kernel
theorem dX12_multiplyParts_136 : decode cX12_multiplyParts 136 = .ok (.i2l, 1) := by decide +kernel
theorem dX12_multiplyParts_137 : decode cX12_multiplyParts 137 = .ok (.goto 16, 3) := by decide +kernel
theorem dX12_multiplyParts_140 : decode cX12_multiplyParts 140 = .ok (.aload_n 0, 1) := by decide +kernel
theorem dX12_multiplyParts_141 : decode cX12_multiplyParts 141 = .ok (.getfield 48, 3) := by decide +kernel
theorem dX12_multiplyParts_144 : decode cX12_multiplyParts 144 = .ok (.bipush 17, 2) := by decide +kernel
theorem dX12_multiplyParts_146 : decode cX12_multiplyParts 146 = .ok (.iload_n 2, 1) := by decide +kernel
theorem dX12_multiplyParts_147 : decode cX12_multiplyParts 147 = .ok (.imul, 1) := by decide +kernel
theorem dX12_multiplyParts_148 : decode cX12_multiplyParts 148 = .ok (.iload 4, 2) := by decide +kernel
theorem dX12_multiplyParts_150 : decode cX12_multiplyParts 150 = .ok (.iadd, 1) := by decide +kernel
theorem dX12_multiplyParts_151 : decode cX12_multiplyParts 151 = .ok (.iaload, 1) := by decide +kernel
theorem dX12_multiplyParts_152 : decode cX12_multiplyParts 152 = .ok (.i2l, 1) := by decide +kernel
theorem dX12_multiplyParts_153 : decode cX12_multiplyParts 153 = .ok (.lstore 5, 2) := by decide +kernel
theorem dX12_multiplyParts_155 : decode cX12_multiplyParts 155 = .ok (.lload 5, 2) := by decide +kernel
theorem dX12_multiplyParts_157 : decode cX12_multiplyParts 157 = .ok (.lconst 0, 1) := by decide +kernel
theorem dX12_multiplyParts_158 : decode cX12_multiplyParts 158 = .ok (.lcmp, 1) := by decide +kernel
theorem dX12_multiplyParts_159 : decode cX12_multiplyParts 159 = .ok (.ifCond .le 20, 3) := by decide +kernel
theorem dX12_multiplyParts_162 : decode cX12_multiplyParts 162 = .ok (.aload_n 0, 1) := by decide +kernel
theorem dX12_multiplyParts_163 : decode cX12_multiplyParts 163 = .ok (.sipush 145, 3) := by decide +kernel
theorem dX12_multiplyParts_166 : decode cX12_multiplyParts 166 = .ok (.iload_n 3, 1) := by decide +kernel
theorem dX12_multiplyParts_167 : decode cX12_multiplyParts 167 = .ok (.iadd, 1) := by decide +kernel
theorem dX12_multiplyParts_168 : decode cX12_multiplyParts 168 = .ok (.iload 4, 2) := by decide +kernel
theorem dX12_multiplyParts_170 : decode cX12_multiplyParts 170 = .ok (.iadd, 1) := by decide +kernel
theorem dX12_multiplyParts_171 : decode cX12_multiplyParts 171 = .ok (.iconst 0, 1) := by decide +kernel
theorem dX12_multiplyParts_172 : decode cX12_multiplyParts 172 = .ok (.iload_n 3, 1) := by decide +kernel
theorem dX12_multiplyParts_173 : decode cX12_multiplyParts 173 = .ok (.iadd, 1) := by decide +kernel
theorem dX12_multiplyParts_174 : decode cX12_multiplyParts 174 = .ok (.lload 5, 2) := by decide +kernel
theorem dX12_multiplyParts_176 : decode cX12_multiplyParts 176 = .ok (.invokevirtual 326, 3) := by decide +kernel
theorem dX12_multiplyParts_179 : decode cX12_multiplyParts 179 = .ok (.iinc 4 1, 3) := by decide +kernel
theorem dX12_multiplyParts_182 : decode cX12_multiplyParts 182 = .ok (.goto (-104), 3) := by decide +kernel
theorem dX12_multiplyParts_185 : decode cX12_multiplyParts 185 = .ok (.iinc 3 1, 3) := by decide +kernel
theorem dX12_multiplyParts_188 : decode cX12_multiplyParts 188 = .ok (.goto (-120), 3) := by decide +kernel
theorem dX12_multiplyParts_191 : decode cX12_multiplyParts 191 = .ok (.iconst 0, 1) := by decide +kernel
theorem dX12_multiplyParts_192 : decode cX12_multiplyParts 192 = .ok (.istore_n 3, 1) := by decide +kernel
theorem dX12_multiplyParts_193 : decode cX12_multiplyParts 193 = .ok (.iload_n 3, 1) := by decide +kernel
theorem dX12_multiplyParts_194 : decode cX12_multiplyParts 194 = .ok (.sipush 145, 3) := by decide +kernel
theorem dX12_multiplyParts_197 : decode cX12_multiplyParts 197 = .ok (.if_icmp .ge 21, 3) := by decide +kernel
theorem dX12_multiplyParts_200 : decode cX12_multiplyParts 200 = .ok (.aload_n 0, 1) := by decide +kernel
theorem dX12_multiplyParts_201 : decode cX12_multiplyParts 201 = .ok (.sipush 145, 3) := by decide +kernel
theorem dX12_multiplyParts_204 : decode cX12_multiplyParts 204 = .ok (.iload_n 3, 1) := by decide +kernel
theorem dX12_multiplyParts_205 : decode cX12_multiplyParts 205 = .ok (.iadd, 1) := by decide +kernel
theorem dX12_multiplyParts_206 : decode cX12_multiplyParts 206 = .ok (.iconst 0, 1) := by decide +kernel
theorem dX12_multiplyParts_207 : decode cX12_multiplyParts 207 = .ok (.iload_n 3, 1) := by decide +kernel
theorem dX12_multiplyParts_208 : decode cX12_multiplyParts 208 = .ok (.iadd, 1) := by decide +kernel
theorem dX12_multiplyParts_209 : decode cX12_multiplyParts 209 = .ok (.invokevirtual 330, 3) := by decide +kernel
theorem dX12_multiplyParts_212 : decode cX12_multiplyParts 212 = .ok (.iinc 3 1, 3) := by decide +kernel
theorem dX12_multiplyParts_215 : decode cX12_multiplyParts 215 = .ok (.goto (-22), 3) := by decide +kernel
theorem dX12_multiplyParts_218 : decode cX12_multiplyParts 218 = .ok (.iinc 2 1, 3) := by decide +kernel
theorem dX12_multiplyParts_221 : decode cX12_multiplyParts 221 = .ok (.goto (-188), 3) := by decide +kernel
theorem dX12_multiplyParts_224 : decode cX12_multiplyParts 224 = .ok (.return_, 1) := by decide +kernel
theorem dX12_choose_0 : decode cX12_choose 0 = .ok (.iconst 0, 1) := by decide +kernel
theorem dX12_choose_1 : decode cX12_choose 1 = .ok (.istore_n 2, 1) := by decide +kernel
theorem dX12_choose_2 : decode cX12_choose 2 = .ok (.iload_n 2, 1) := by decide +kernel
theorem dX12_choose_3 : decode cX12_choose 3 = .ok (.sipush 145, 3) := by decide +kernel
theorem dX12_choose_6 : decode cX12_choose 6 = .ok (.if_icmp .ge 27, 3) := by decide +kernel
theorem dX12_choose_9 : decode cX12_choose 9 = .ok (.aload_n 0, 1) := by decide +kernel
theorem dX12_choose_10 : decode cX12_choose 10 = .ok (.sipush 290, 3) := by decide +kernel
theorem dX12_choose_13 : decode cX12_choose 13 = .ok (.iload_n 2, 1) := by decide +kernel
theorem dX12_choose_14 : decode cX12_choose 14 = .ok (.iadd, 1) := by decide +kernel
theorem dX12_choose_15 : decode cX12_choose 15 = .ok (.iload_n 2, 1) := by decide +kernel
theorem dX12_choose_16 : decode cX12_choose 16 = .ok (.ifCond .ne 7, 3) := by decide +kernel
theorem dX12_choose_19 : decode cX12_choose 19 = .ok (.lconst 1, 1) := by decide +kernel
theorem dX12_choose_20 : decode cX12_choose 20 = .ok (.goto 4, 3) := by decide +kernel
theorem dX12_choose_23 : decode cX12_choose 23 = .ok (.lconst 0, 1) := by decide +kernel
theorem dX12_choose_24 : decode cX12_choose 24 = .ok (.invokevirtual 310, 3) := by decide +kernel
theorem dX12_choose_27 : decode cX12_choose 27 = .ok (.iinc 2 1, 3) := by decide +kernel
theorem dX12_choose_30 : decode cX12_choose 30 = .ok (.goto (-28), 3) := by decide +kernel
theorem dX12_choose_33 : decode cX12_choose 33 = .ok (.iconst 0, 1) := by decide +kernel
theorem dX12_choose_34 : decode cX12_choose 34 = .ok (.istore_n 2, 1) := by decide +kernel
theorem dX12_choose_35 : decode cX12_choose 35 = .ok (.iload_n 2, 1) := by decide +kernel
theorem dX12_choose_36 : decode cX12_choose 36 = .ok (.iload_n 1, 1) := by decide +kernel
theorem dX12_choose_37 : decode cX12_choose 37 = .ok (.if_icmp .ge 40, 3) := by decide +kernel
theorem dX12_choose_40 : decode cX12_choose 40 = .ok (.sipush 144, 3) := by decide +kernel
theorem dX12_choose_43 : decode cX12_choose 43 = .ok (.istore_n 3, 1) := by decide +kernel
theorem dX12_choose_44 : decode cX12_choose 44 = .ok (.iload_n 3, 1) := by decide +kernel
theorem dX12_choose_45 : decode cX12_choose 45 = .ok (.ifCond .le 26, 3) := by decide +kernel
theorem dX12_choose_48 : decode cX12_choose 48 = .ok (.aload_n 0, 1) := by decide +kernel
theorem dX12_choose_49 : decode cX12_choose 49 = .ok (.sipush 290, 3) := by decide +kernel
theorem dX12_choose_52 : decode cX12_choose 52 = .ok (.iload_n 3, 1) := by decide +kernel
theorem dX12_choose_53 : decode cX12_choose 53 = .ok (.iadd, 1) := by decide +kernel
theorem dX12_choose_54 : decode cX12_choose 54 = .ok (.sipush 290, 3) := by decide +kernel
theorem dX12_choose_57 : decode cX12_choose 57 = .ok (.iload_n 3, 1) := by decide +kernel
theorem dX12_choose_58 : decode cX12_choose 58 = .ok (.iadd, 1) := by decide +kernel
theorem dX12_choose_59 : decode cX12_choose 59 = .ok (.iconst 1, 1) := by decide +kernel
theorem dX12_choose_60 : decode cX12_choose 60 = .ok (.isub, 1) := by decide +kernel
theorem dX12_choose_61 : decode cX12_choose 61 = .ok (.lconst 1, 1) := by decide +kernel
theorem dX12_choose_62 : decode cX12_choose 62 = .ok (.invokevirtual 326, 3) := by decide +kernel
theorem dX12_choose_65 : decode cX12_choose 65 = .ok (.iinc 3 (-1), 3) := by decide +kernel
theorem dX12_choose_68 : decode cX12_choose 68 = .ok (.goto (-24), 3) := by decide +kernel
theorem dX12_choose_71 : decode cX12_choose 71 = .ok (.iinc 2 1, 3) := by decide +kernel
theorem dX12_choose_74 : decode cX12_choose 74 = .ok (.goto (-39), 3) := by decide +kernel
theorem dX12_choose_77 : decode cX12_choose 77 = .ok (.return_, 1) := by decide +kernel
theorem dX12_addProduct_0 : decode cX12_addProduct 0 = .ok (.iconst 0, 1) := by decide +kernel
theorem dX12_addProduct_1 : decode cX12_addProduct 1 = .ok (.istore 4, 2) := by decide +kernel
theorem dX12_addProduct_3 : decode cX12_addProduct 3 = .ok (.iload 4, 2) := by decide +kernel
theorem dX12_addProduct_5 : decode cX12_addProduct 5 = .ok (.bipush 6, 2) := by decide +kernel
theorem dX12_addProduct_7 : decode cX12_addProduct 7 = .ok (.if_icmp .ge 93, 3) := by decide +kernel
theorem dX12_addProduct_10 : decode cX12_addProduct 10 = .ok (.iconst 0, 1) := by decide +kernel
theorem dX12_addProduct_11 : decode cX12_addProduct 11 = .ok (.istore 5, 2) := by decide +kernel
theorem dX12_addProduct_13 : decode cX12_addProduct 13 = .ok (.iload 5, 2) := by decide +kernel
theorem dX12_addProduct_15 : decode cX12_addProduct 15 = .ok (.iload 4, 2) := by decide +kernel
theorem dX12_addProduct_17 : decode cX12_addProduct 17 = .ok (.iadd, 1) := by decide +kernel
theorem dX12_addProduct_18 : decode cX12_addProduct 18 = .ok (.bipush 6, 2) := by decide +kernel
theorem dX12_addProduct_20 : decode cX12_addProduct 20 = .ok (.if_icmp .ge 74, 3) := by decide +kernel
theorem dX12_addProduct_23 : decode cX12_addProduct 23 = .ok (.aload_n 0, 1) := by decide +kernel
theorem dX12_addProduct_24 : decode cX12_addProduct 24 = .ok (.getfield 73, 3) := by decide +kernel
theorem dX12_addProduct_27 : decode cX12_addProduct 27 = .ok (.bipush 6, 2) := by decide +kernel
theorem dX12_addProduct_29 : decode cX12_addProduct 29 = .ok (.iload_n 2, 1) := by decide +kernel
theorem dX12_addProduct_30 : decode cX12_addProduct 30 = .ok (.imul, 1) := by decide +kernel
theorem dX12_addProduct_31 : decode cX12_addProduct 31 = .ok (.iload 4, 2) := by decide +kernel
theorem dX12_addProduct_33 : decode cX12_addProduct 33 = .ok (.iadd, 1) := by decide +kernel
theorem dX12_addProduct_34 : decode cX12_addProduct 34 = .ok (.laload, 1) := by decide +kernel
theorem dX12_addProduct_35 : decode cX12_addProduct 35 = .ok (.lconst 0, 1) := by decide +kernel
theorem dX12_addProduct_36 : decode cX12_addProduct 36 = .ok (.lcmp, 1) := by decide +kernel
theorem dX12_addProduct_37 : decode cX12_addProduct 37 = .ok (.ifCond .le 57, 3) := by decide +kernel
theorem dX12_addProduct_40 : decode cX12_addProduct 40 = .ok (.aload_n 0, 1) := by decide +kernel
theorem dX12_addProduct_41 : decode cX12_addProduct 41 = .ok (.getfield 73, 3) := by decide +kernel
theorem dX12_addProduct_44 : decode cX12_addProduct 44 = .ok (.bipush 6, 2) := by decide +kernel
theorem dX12_addProduct_46 : decode cX12_addProduct 46 = .ok (.iload_n 1, 1) := by decide +kernel
theorem dX12_addProduct_47 : decode cX12_addProduct 47 = .ok (.imul, 1) := by decide +kernel
theorem dX12_addProduct_48 : decode cX12_addProduct 48 = .ok (.iload 4, 2) := by decide +kernel
theorem dX12_addProduct_50 : decode cX12_addProduct 50 = .ok (.iadd, 1) := by decide +kernel
theorem dX12_addProduct_51 : decode cX12_addProduct 51 = .ok (.iload 5, 2) := by decide +kernel
theorem dX12_addProduct_53 : decode cX12_addProduct 53 = .ok (.iadd, 1) := by decide +kernel
theorem dX12_addProduct_54 : decode cX12_addProduct 54 = .ok (.dup2, 1) := by decide +kernel
theorem dX12_addProduct_55 : decode cX12_addProduct 55 = .ok (.laload, 1) := by decide +kernel
theorem dX12_addProduct_56 : decode cX12_addProduct 56 = .ok (.aload_n 0, 1) := by decide +kernel
theorem dX12_addProduct_57 : decode cX12_addProduct 57 = .ok (.getfield 73, 3) := by decide +kernel
theorem dX12_addProduct_60 : decode cX12_addProduct 60 = .ok (.bipush 6, 2) := by decide +kernel
theorem dX12_addProduct_62 : decode cX12_addProduct 62 = .ok (.iload_n 2, 1) := by decide +kernel
theorem dX12_addProduct_63 : decode cX12_addProduct 63 = .ok (.imul, 1) := by decide +kernel
theorem dX12_addProduct_64 : decode cX12_addProduct 64 = .ok (.iload 4, 2) := by decide +kernel
theorem dX12_addProduct_66 : decode cX12_addProduct 66 = .ok (.iadd, 1) := by decide +kernel
theorem dX12_addProduct_67 : decode cX12_addProduct 67 = .ok (.laload, 1) := by decide +kernel
theorem dX12_addProduct_68 : decode cX12_addProduct 68 = .ok (.aload_n 0, 1) := by decide +kernel
theorem dX12_addProduct_69 : decode cX12_addProduct 69 = .ok (.getfield 73, 3) := by decide +kernel
theorem dX12_addProduct_72 : decode cX12_addProduct 72 = .ok (.bipush 6, 2) := by decide +kernel
theorem dX12_addProduct_74 : decode cX12_addProduct 74 = .ok (.iload_n 3, 1) := by decide +kernel
theorem dX12_addProduct_75 : decode cX12_addProduct 75 = .ok (.imul, 1) := by decide +kernel
theorem dX12_addProduct_76 : decode cX12_addProduct 76 = .ok (.iload 5, 2) := by decide +kernel
theorem dX12_addProduct_78 : decode cX12_addProduct 78 = .ok (.iadd, 1) := by decide +kernel
theorem dX12_addProduct_79 : decode cX12_addProduct 79 = .ok (.laload, 1) := by decide +kernel
theorem dX12_addProduct_80 : decode cX12_addProduct 80 = .ok (.lmul, 1) := by decide +kernel
theorem dX12_addProduct_81 : decode cX12_addProduct 81 = .ok (.ladd, 1) := by decide +kernel
theorem dX12_addProduct_82 : decode cX12_addProduct 82 = .ok (.lastore, 1) := by decide +kernel
theorem dX12_addProduct_83 : decode cX12_addProduct 83 = .ok (.aload_n 0, 1) := by decide +kernel
theorem dX12_addProduct_84 : decode cX12_addProduct 84 = .ok (.iload_n 1, 1) := by decide +kernel
theorem dX12_addProduct_85 : decode cX12_addProduct 85 = .ok (.invokevirtual 305, 3) := by decide +kernel
theorem dX12_addProduct_88 : decode cX12_addProduct 88 = .ok (.iinc 5 1, 3) := by decide +kernel
theorem dX12_addProduct_91 : decode cX12_addProduct 91 = .ok (.goto (-78), 3) := by decide +kernel
theorem dX12_addProduct_94 : decode cX12_addProduct 94 = .ok (.iinc 4 1, 3) := by decide +kernel
theorem dX12_addProduct_97 : decode cX12_addProduct 97 = .ok (.goto (-94), 3) := by decide +kernel
theorem dX12_addProduct_100 : decode cX12_addProduct 100 = .ok (.return_, 1) := by decide +kernel
theorem dX12_sumUp_0 : decode cX12_sumUp 0 = .ok (.aload_n 0, 1) := by decide +kernel
theorem dX12_sumUp_1 : decode cX12_sumUp 1 = .ok (.iload_n 3, 1) := by decide +kernel
theorem dX12_sumUp_2 : decode cX12_sumUp 2 = .ok (.invokevirtual 333, 3) := by decide +kernel
theorem dX12_sumUp_5 : decode cX12_sumUp 5 = .ok (.aload_n 0, 1) := by decide +kernel
theorem dX12_sumUp_6 : decode cX12_sumUp 6 = .ok (.iload_n 1, 1) := by decide +kernel
theorem dX12_sumUp_7 : decode cX12_sumUp 7 = .ok (.lconst 0, 1) := by decide +kernel
theorem dX12_sumUp_8 : decode cX12_sumUp 8 = .ok (.invokevirtual 310, 3) := by decide +kernel
theorem dX12_sumUp_11 : decode cX12_sumUp 11 = .ok (.iconst 0, 1) := by decide +kernel
theorem dX12_sumUp_12 : decode cX12_sumUp 12 = .ok (.istore 4, 2) := by decide +kernel
theorem dX12_sumUp_14 : decode cX12_sumUp 14 = .ok (.iload 4, 2) := by decide +kernel
theorem dX12_sumUp_16 : decode cX12_sumUp 16 = .ok (.sipush 145, 3) := by decide +kernel
theorem dX12_sumUp_19 : decode cX12_sumUp 19 = .ok (.if_icmp .ge 38, 3) := by decide +kernel
theorem dX12_sumUp_22 : decode cX12_sumUp 22 = .ok (.iload_n 2, 1) := by decide +kernel
theorem dX12_sumUp_23 : decode cX12_sumUp 23 = .ok (.iload 4, 2) := by decide +kernel
theorem dX12_sumUp_25 : decode cX12_sumUp 25 = .ok (.isub, 1) := by decide +kernel
theorem dX12_sumUp_26 : decode cX12_sumUp 26 = .ok (.iconst 0, 1) := by decide +kernel
theorem dX12_sumUp_27 : decode cX12_sumUp 27 = .ok (.iload_n 3, 1) := by decide +kernel
theorem dX12_sumUp_28 : decode cX12_sumUp 28 = .ok (.invokestatic 83, 3) := by decide +kernel
theorem dX12_sumUp_31 : decode cX12_sumUp 31 = .ok (.ifCond .eq 20, 3) := by decide +kernel
theorem dX12_sumUp_34 : decode cX12_sumUp 34 = .ok (.aload_n 0, 1) := by decide +kernel
theorem dX12_sumUp_35 : decode cX12_sumUp 35 = .ok (.iload_n 1, 1) := by decide +kernel
theorem dX12_sumUp_36 : decode cX12_sumUp 36 = .ok (.iconst 0, 1) := by decide +kernel
theorem dX12_sumUp_37 : decode cX12_sumUp 37 = .ok (.iload 4, 2) := by decide +kernel
theorem dX12_sumUp_39 : decode cX12_sumUp 39 = .ok (.iadd, 1) := by decide +kernel
theorem dX12_sumUp_40 : decode cX12_sumUp 40 = .ok (.sipush 290, 3) := by decide +kernel
theorem dX12_sumUp_43 : decode cX12_sumUp 43 = .ok (.iload_n 2, 1) := by decide +kernel
theorem dX12_sumUp_44 : decode cX12_sumUp 44 = .ok (.iadd, 1) := by decide +kernel
theorem dX12_sumUp_45 : decode cX12_sumUp 45 = .ok (.iload 4, 2) := by decide +kernel
theorem dX12_sumUp_47 : decode cX12_sumUp 47 = .ok (.isub, 1) := by decide +kernel
theorem dX12_sumUp_48 : decode cX12_sumUp 48 = .ok (.invokevirtual 336, 3) := by decide +kernel
theorem dX12_sumUp_51 : decode cX12_sumUp 51 = .ok (.iinc 4 1, 3) := by decide +kernel
theorem dX12_sumUp_54 : decode cX12_sumUp 54 = .ok (.goto (-40), 3) := by decide +kernel
theorem dX12_sumUp_57 : decode cX12_sumUp 57 = .ok (.return_, 1) := by decide +kernel
theorem dX12_countAll_0 : decode cX12_countAll 0 = .ok (.aload_n 0, 1) := by decide +kernel
theorem dX12_countAll_1 : decode cX12_countAll 1 = .ok (.invokevirtual 280, 3) := by decide +kernel
theorem dX12_countAll_4 : decode cX12_countAll 4 = .ok (.aload_n 0, 1) := by decide +kernel
theorem dX12_countAll_5 : decode cX12_countAll 5 = .ok (.invokevirtual 283, 3) := by decide +kernel
theorem dX12_countAll_8 : decode cX12_countAll 8 = .ok (.ifCond .ne 5, 3) := by decide +kernel
theorem dX12_countAll_11 : decode cX12_countAll 11 = .ok (.iconst 0, 1) := by decide +kernel
theorem dX12_countAll_12 : decode cX12_countAll 12 = .ok (.ireturn, 1) := by decide +kernel
theorem dX12_countAll_13 : decode cX12_countAll 13 = .ok (.aload_n 0, 1) := by decide +kernel
theorem dX12_countAll_14 : decode cX12_countAll 14 = .ok (.iconst (-1), 1) := by decide +kernel
theorem dX12_countAll_15 : decode cX12_countAll 15 = .ok (.invokevirtual 339, 3) := by decide +kernel
theorem dX12_countAll_18 : decode cX12_countAll 18 = .ok (.aload_n 0, 1) := by decide +kernel
theorem dX12_countAll_19 : decode cX12_countAll 19 = .ok (.sipush 435, 3) := by decide +kernel
theorem dX12_countAll_22 : decode cX12_countAll 22 = .ok (.aload_n 0, 1) := by decide +kernel
theorem dX12_countAll_23 : decode cX12_countAll 23 = .ok (.invokevirtual 271, 3) := by decide +kernel
theorem dX12_countAll_26 : decode cX12_countAll 26 = .ok (.aload_n 0, 1) := by decide +kernel
theorem dX12_countAll_27 : decode cX12_countAll 27 = .ok (.invokevirtual 274, 3) := by decide +kernel
theorem dX12_countAll_30 : decode cX12_countAll 30 = .ok (.invokevirtual 342, 3) := by decide +kernel
theorem dX12_countAll_33 : decode cX12_countAll 33 = .ok (.iconst 1, 1) := by decide +kernel
theorem dX12_countAll_34 : decode cX12_countAll 34 = .ok (.ireturn, 1) := by decide +kernel
theorem dX12_ways_0 : decode cX12_ways 0 = .ok (.aload_n 0, 1) := by decide +kernel
theorem dX12_ways_1 : decode cX12_ways 1 = .ok (.iconst 0, 1) := by decide +kernel
theorem dX12_ways_2 : decode cX12_ways 2 = .ok (.putfield 79, 3) := by decide +kernel
theorem dX12_ways_5 : decode cX12_ways 5 = .ok (.aload_n 0, 1) := by decide +kernel
theorem dX12_ways_6 : decode cX12_ways 6 = .ok (.getfield 119, 3) := by decide +kernel
theorem dX12_ways_9 : decode cX12_ways 9 = .ok (.ifCond .ne 9, 3) := by decide +kernel
theorem dX12_ways_12 : decode cX12_ways 12 = .ok (.aload_n 0, 1) := by decide +kernel
theorem dX12_ways_13 : decode cX12_ways 13 = .ok (.iconst 1, 1) := by decide +kernel
theorem dX12_ways_14 : decode cX12_ways 14 = .ok (.invokevirtual 187, 3) := by decide +kernel
theorem dX12_ways_17 : decode cX12_ways 17 = .ok (.ireturn, 1) := by decide +kernel
theorem dX12_ways_18 : decode cX12_ways 18 = .ok (.aload_n 0, 1) := by decide +kernel
theorem dX12_ways_19 : decode cX12_ways 19 = .ok (.invokevirtual 345, 3) := by decide +kernel
theorem dX12_ways_22 : decode cX12_ways 22 = .ok (.ifCond .ne 5, 3) := by decide +kernel
theorem dX12_ways_25 : decode cX12_ways 25 = .ok (.iconst (-1), 1) := by decide +kernel
theorem dX12_ways_26 : decode cX12_ways 26 = .ok (.ireturn, 1) := by decide +kernel
theorem dX12_ways_27 : decode cX12_ways 27 = .ok (.lconst 0, 1) := by decide +kernel
theorem dX12_ways_28 : decode cX12_ways 28 = .ok (.lstore_n 1, 1) := by decide +kernel
theorem dX12_ways_29 : decode cX12_ways 29 = .ok (.iconst 5, 1) := by decide +kernel
theorem dX12_ways_30 : decode cX12_ways 30 = .ok (.istore_n 3, 1) := by decide +kernel
theorem dX12_ways_31 : decode cX12_ways 31 = .ok (.iload_n 3, 1) := by decide +kernel
theorem dX12_ways_32 : decode cX12_ways 32 = .ok (.ifCond .lt 30, 3) := by decide +kernel
theorem dX12_ways_35 : decode cX12_ways 35 = .ok (.lload_n 1, 1) := by decide +kernel
theorem dX12_ways_36 : decode cX12_ways 36 = .ok (.ldc2_w 348, 3) := by decide +kernel
theorem dX12_ways_39 : decode cX12_ways 39 = .ok (.lmul, 1) := by decide +kernel
theorem dX12_ways_40 : decode cX12_ways 40 = .ok (.aload_n 0, 1) := by decide +kernel
theorem dX12_ways_41 : decode cX12_ways 41 = .ok (.getfield 73, 3) := by decide +kernel
theorem dX12_ways_44 : decode cX12_ways 44 = .ok (.sipush 2610, 3) := by decide +kernel
theorem dX12_ways_47 : decode cX12_ways 47 = .ok (.iload_n 3, 1) := by decide +kernel
theorem dX12_ways_48 : decode cX12_ways 48 = .ok (.iadd, 1) := by decide +kernel
theorem dX12_ways_49 : decode cX12_ways 49 = .ok (.laload, 1) := by decide +kernel
theorem dX12_ways_50 : decode cX12_ways 50 = .ok (.ladd, 1) := by decide +kernel
theorem dX12_ways_51 : decode cX12_ways 51 = .ok (.ldc2_w 350, 3) := by decide +kernel
theorem dX12_ways_54 : decode cX12_ways 54 = .ok (.lrem, 1) := by decide +kernel
theorem dX12_ways_55 : decode cX12_ways 55 = .ok (.lstore_n 1, 1) := by decide +kernel
theorem dX12_ways_56 : decode cX12_ways 56 = .ok (.iinc 3 (-1), 3) := by decide +kernel
theorem dX12_ways_59 : decode cX12_ways 59 = .ok (.goto (-28), 3) := by decide +kernel
theorem dX12_ways_62 : decode cX12_ways 62 = .ok (.lload_n 1, 1) := by decide +kernel
theorem dX12_ways_63 : decode cX12_ways 63 = .ok (.l2i, 1) := by decide +kernel
theorem dX12_ways_64 : decode cX12_ways 64 = .ok (.ireturn, 1) := by decide +kernel
theorem dX12_isNothing_0 : decode cX12_isNothing 0 = .ok (.iconst 1, 1) := by decide +kernel
theorem dX12_isNothing_1 : decode cX12_isNothing 1 = .ok (.istore_n 2, 1) := by decide +kernel
theorem dX12_isNothing_2 : decode cX12_isNothing 2 = .ok (.iconst 0, 1) := by decide +kernel
theorem dX12_isNothing_3 : decode cX12_isNothing 3 = .ok (.istore_n 3, 1) := by decide +kernel
theorem dX12_isNothing_4 : decode cX12_isNothing 4 = .ok (.iload_n 3, 1) := by decide +kernel
theorem dX12_isNothing_5 : decode cX12_isNothing 5 = .ok (.bipush 6, 2) := by decide +kernel
theorem dX12_isNothing_7 : decode cX12_isNothing 7 = .ok (.if_icmp .ge 35, 3) := by decide +kernel
theorem dX12_isNothing_10 : decode cX12_isNothing 10 = .ok (.iload_n 2, 1) := by decide +kernel
theorem dX12_isNothing_11 : decode cX12_isNothing 11 = .ok (.ifCond .eq 23, 3) := by decide +kernel
theorem dX12_isNothing_14 : decode cX12_isNothing 14 = .ok (.aload_n 0, 1) := by decide +kernel
theorem dX12_isNothing_15 : decode cX12_isNothing 15 = .ok (.getfield 73, 3) := by decide +kernel
theorem dX12_isNothing_18 : decode cX12_isNothing 18 = .ok (.bipush 6, 2) := by decide +kernel
theorem dX12_isNothing_20 : decode cX12_isNothing 20 = .ok (.iload_n 1, 1) := by decide +kernel
theorem dX12_isNothing_21 : decode cX12_isNothing 21 = .ok (.imul, 1) := by decide +kernel
theorem dX12_isNothing_22 : decode cX12_isNothing 22 = .ok (.iload_n 3, 1) := by decide +kernel
theorem dX12_isNothing_23 : decode cX12_isNothing 23 = .ok (.iadd, 1) := by decide +kernel
theorem dX12_isNothing_24 : decode cX12_isNothing 24 = .ok (.laload, 1) := by decide +kernel
theorem dX12_isNothing_25 : decode cX12_isNothing 25 = .ok (.lconst 0, 1) := by decide +kernel
theorem dX12_isNothing_26 : decode cX12_isNothing 26 = .ok (.lcmp, 1) := by decide +kernel
theorem dX12_isNothing_27 : decode cX12_isNothing 27 = .ok (.ifCond .ne 7, 3) := by decide +kernel
theorem dX12_isNothing_30 : decode cX12_isNothing 30 = .ok (.iconst 1, 1) := by decide +kernel
theorem dX12_isNothing_31 : decode cX12_isNothing 31 = .ok (.goto 4, 3) := by decide +kernel
theorem dX12_isNothing_34 : decode cX12_isNothing 34 = .ok (.iconst 0, 1) := by decide +kernel
theorem dX12_isNothing_35 : decode cX12_isNothing 35 = .ok (.istore_n 2, 1) := by decide +kernel
theorem dX12_isNothing_36 : decode cX12_isNothing 36 = .ok (.iinc 3 1, 3) := by decide +kernel
theorem dX12_isNothing_39 : decode cX12_isNothing 39 = .ok (.goto (-35), 3) := by decide +kernel
theorem dX12_isNothing_42 : decode cX12_isNothing 42 = .ok (.iload_n 2, 1) := by decide +kernel
theorem dX12_isNothing_43 : decode cX12_isNothing 43 = .ok (.ireturn, 1) := by decide +kernel
theorem dX12_hasShare_0 : decode cX12_hasShare 0 = .ok (.aload_n 0, 1) := by decide +kernel
theorem dX12_hasShare_1 : decode cX12_hasShare 1 = .ok (.iload_n 1, 1) := by decide +kernel
theorem dX12_hasShare_2 : decode cX12_hasShare 2 = .ok (.invokevirtual 143, 3) := by decide +kernel
theorem dX12_hasShare_5 : decode cX12_hasShare 5 = .ok (.ifCond .eq 20, 3) := by decide +kernel
theorem dX12_hasShare_8 : decode cX12_hasShare 8 = .ok (.aload_n 0, 1) := by decide +kernel
theorem dX12_hasShare_9 : decode cX12_hasShare 9 = .ok (.invokevirtual 345, 3) := by decide +kernel
theorem dX12_hasShare_12 : decode cX12_hasShare 12 = .ok (.ifCond .eq 13, 3) := by decide +kernel
theorem dX12_hasShare_15 : decode cX12_hasShare 15 = .ok (.aload_n 0, 1) := by decide +kernel
theorem dX12_hasShare_16 : decode cX12_hasShare 16 = .ok (.sipush 435, 3) := by decide +kernel
theorem dX12_hasShare_19 : decode cX12_hasShare 19 = .ok (.invokevirtual 352, 3) := by decide +kernel
theorem dX12_hasShare_22 : decode cX12_hasShare 22 = .ok (.ifCond .eq 5, 3) := by decide +kernel
theorem dX12_hasShare_25 : decode cX12_hasShare 25 = .ok (.iconst 0, 1) := by decide +kernel
theorem dX12_hasShare_26 : decode cX12_hasShare 26 = .ok (.ireturn, 1) := by decide +kernel
theorem dX12_hasShare_27 : decode cX12_hasShare 27 = .ok (.aload_n 0, 1) := by decide +kernel
theorem dX12_hasShare_28 : decode cX12_hasShare 28 = .ok (.sipush 435, 3) := by decide +kernel
theorem dX12_hasShare_31 : decode cX12_hasShare 31 = .ok (.sipush 440, 3) := by decide +kernel
theorem dX12_hasShare_34 : decode cX12_hasShare 34 = .ok (.invokevirtual 330, 3) := by decide +kernel
theorem dX12_hasShare_37 : decode cX12_hasShare 37 = .ok (.aload_n 0, 1) := by decide +kernel
theorem dX12_hasShare_38 : decode cX12_hasShare 38 = .ok (.getfield 39, 3) := by decide +kernel
theorem dX12_hasShare_41 : decode cX12_hasShare 41 = .ok (.iload_n 1, 1) := by decide +kernel
theorem dX12_hasShare_42 : decode cX12_hasShare 42 = .ok (.iaload, 1) := by decide +kernel
theorem dX12_hasShare_43 : decode cX12_hasShare 43 = .ok (.ifCond .lt 26, 3) := by decide +kernel
theorem dX12_hasShare_46 : decode cX12_hasShare 46 = .ok (.aload_n 0, 1) := by decide +kernel
theorem dX12_hasShare_47 : decode cX12_hasShare 47 = .ok (.iload_n 1, 1) := by decide +kernel
theorem dX12_hasShare_48 : decode cX12_hasShare 48 = .ok (.invokevirtual 339, 3) := by decide +kernel
theorem dX12_hasShare_51 : decode cX12_hasShare 51 = .ok (.aload_n 0, 1) := by decide +kernel
theorem dX12_hasShare_52 : decode cX12_hasShare 52 = .ok (.sipush 436, 3) := by decide +kernel
theorem dX12_hasShare_55 : decode cX12_hasShare 55 = .ok (.aload_n 0, 1) := by decide +kernel
theorem dX12_hasShare_56 : decode cX12_hasShare 56 = .ok (.invokevirtual 271, 3) := by decide +kernel
theorem dX12_hasShare_59 : decode cX12_hasShare 59 = .ok (.aload_n 0, 1) := by decide +kernel
theorem dX12_hasShare_60 : decode cX12_hasShare 60 = .ok (.invokevirtual 274, 3) := by decide +kernel
theorem dX12_hasShare_63 : decode cX12_hasShare 63 = .ok (.invokevirtual 342, 3) := by decide +kernel
theorem dX12_hasShare_66 : decode cX12_hasShare 66 = .ok (.goto 22, 3) := by decide +kernel
theorem dX12_hasShare_69 : decode cX12_hasShare 69 = .ok (.aload_n 0, 1) := by decide +kernel
theorem dX12_hasShare_70 : decode cX12_hasShare 70 = .ok (.sipush 436, 3) := by decide +kernel
theorem dX12_hasShare_73 : decode cX12_hasShare 73 = .ok (.aload_n 0, 1) := by decide +kernel
theorem dX12_hasShare_74 : decode cX12_hasShare 74 = .ok (.invokevirtual 271, 3) := by decide +kernel
theorem dX12_hasShare_77 : decode cX12_hasShare 77 = .ok (.iconst 1, 1) := by decide +kernel
theorem dX12_hasShare_78 : decode cX12_hasShare 78 = .ok (.isub, 1) := by decide +kernel
theorem dX12_hasShare_79 : decode cX12_hasShare 79 = .ok (.aload_n 0, 1) := by decide +kernel
theorem dX12_hasShare_80 : decode cX12_hasShare 80 = .ok (.invokevirtual 274, 3) := by decide +kernel
theorem dX12_hasShare_83 : decode cX12_hasShare 83 = .ok (.iconst 1, 1) := by decide +kernel
theorem dX12_hasShare_84 : decode cX12_hasShare 84 = .ok (.isub, 1) := by decide +kernel
theorem dX12_hasShare_85 : decode cX12_hasShare 85 = .ok (.invokevirtual 342, 3) := by decide +kernel
theorem dX12_hasShare_88 : decode cX12_hasShare 88 = .ok (.iconst 1, 1) := by decide +kernel
theorem dX12_hasShare_89 : decode cX12_hasShare 89 = .ok (.ireturn, 1) := by decide +kernel
theorem dX12_twice_0 : decode cX12_twice 0 = .ok (.iconst 0, 1) := by decide +kernel
theorem dX12_twice_1 : decode cX12_twice 1 = .ok (.istore_n 2, 1) := by decide +kernel
theorem dX12_twice_2 : decode cX12_twice 2 = .ok (.iload_n 2, 1) := by decide +kernel
theorem dX12_twice_3 : decode cX12_twice 3 = .ok (.bipush 6, 2) := by decide +kernel
theorem dX12_twice_5 : decode cX12_twice 5 = .ok (.if_icmp .ge 26, 3) := by decide +kernel
theorem dX12_twice_8 : decode cX12_twice 8 = .ok (.aload_n 0, 1) := by decide +kernel
theorem dX12_twice_9 : decode cX12_twice 9 = .ok (.getfield 73, 3) := by decide +kernel
theorem dX12_twice_12 : decode cX12_twice 12 = .ok (.bipush 6, 2) := by decide +kernel
theorem dX12_twice_14 : decode cX12_twice 14 = .ok (.iload_n 1, 1) := by decide +kernel
theorem dX12_twice_15 : decode cX12_twice 15 = .ok (.imul, 1) := by decide +kernel
theorem dX12_twice_16 : decode cX12_twice 16 = .ok (.iload_n 2, 1) := by decide +kernel
theorem dX12_twice_17 : decode cX12_twice 17 = .ok (.iadd, 1) := by decide +kernel
theorem dX12_twice_18 : decode cX12_twice 18 = .ok (.dup2, 1) := by decide +kernel
theorem dX12_twice_19 : decode cX12_twice 19 = .ok (.laload, 1) := by decide +kernel
theorem dX12_twice_20 : decode cX12_twice 20 = .ok (.ldc2_w 308, 3) := by decide +kernel
theorem dX12_twice_23 : decode cX12_twice 23 = .ok (.lmul, 1) := by decide +kernel
theorem dX12_twice_24 : decode cX12_twice 24 = .ok (.lastore, 1) := by decide +kernel
theorem dX12_twice_25 : decode cX12_twice 25 = .ok (.iinc 2 1, 3) := by decide +kernel
theorem dX12_twice_28 : decode cX12_twice 28 = .ok (.goto (-26), 3) := by decide +kernel
theorem dX12_twice_31 : decode cX12_twice 31 = .ok (.aload_n 0, 1) := by decide +kernel
theorem dX12_twice_32 : decode cX12_twice 32 = .ok (.iload_n 1, 1) := by decide +kernel
theorem dX12_twice_33 : decode cX12_twice 33 = .ok (.invokevirtual 305, 3) := by decide +kernel
theorem dX12_twice_36 : decode cX12_twice 36 = .ok (.return_, 1) := by decide +kernel
theorem dX12_compare_0 : decode cX12_compare 0 = .ok (.iconst 0, 1) := by decide +kernel
theorem dX12_compare_1 : decode cX12_compare 1 = .ok (.istore_n 3, 1) := by decide +kernel
theorem dX12_compare_2 : decode cX12_compare 2 = .ok (.iconst 0, 1) := by decide +kernel
theorem dX12_compare_3 : decode cX12_compare 3 = .ok (.istore 4, 2) := by decide +kernel
theorem dX12_compare_5 : decode cX12_compare 5 = .ok (.iload 4, 2) := by decide +kernel
theorem dX12_compare_7 : decode cX12_compare 7 = .ok (.bipush 6, 2) := by decide +kernel
theorem dX12_compare_9 : decode cX12_compare 9 = .ok (.if_icmp .ge 60, 3) := by decide +kernel
theorem dX12_compare_12 : decode cX12_compare 12 = .ok (.aload_n 0, 1) := by decide +kernel
theorem dX12_compare_13 : decode cX12_compare 13 = .ok (.getfield 73, 3) := by decide +kernel
theorem dX12_compare_16 : decode cX12_compare 16 = .ok (.bipush 6, 2) := by decide +kernel
theorem dX12_compare_18 : decode cX12_compare 18 = .ok (.iload_n 1, 1) := by decide +kernel
theorem dX12_compare_19 : decode cX12_compare 19 = .ok (.imul, 1) := by decide +kernel
theorem dX12_compare_20 : decode cX12_compare 20 = .ok (.iload 4, 2) := by decide +kernel
theorem dX12_compare_22 : decode cX12_compare 22 = .ok (.iadd, 1) := by decide +kernel
theorem dX12_compare_23 : decode cX12_compare 23 = .ok (.laload, 1) := by decide +kernel
theorem dX12_compare_24 : decode cX12_compare 24 = .ok (.aload_n 0, 1) := by decide +kernel
theorem dX12_compare_25 : decode cX12_compare 25 = .ok (.getfield 73, 3) := by decide +kernel
theorem dX12_compare_28 : decode cX12_compare 28 = .ok (.bipush 6, 2) := by decide +kernel
theorem dX12_compare_30 : decode cX12_compare 30 = .ok (.iload_n 2, 1) := by decide +kernel
theorem dX12_compare_31 : decode cX12_compare 31 = .ok (.imul, 1) := by decide +kernel
theorem dX12_compare_32 : decode cX12_compare 32 = .ok (.iload 4, 2) := by decide +kernel
theorem dX12_compare_34 : decode cX12_compare 34 = .ok (.iadd, 1) := by decide +kernel
theorem dX12_compare_35 : decode cX12_compare 35 = .ok (.laload, 1) := by decide +kernel
theorem dX12_compare_36 : decode cX12_compare 36 = .ok (.lsub, 1) := by decide +kernel
theorem dX12_compare_37 : decode cX12_compare 37 = .ok (.lstore 5, 2) := by decide +kernel
theorem dX12_compare_39 : decode cX12_compare 39 = .ok (.lload 5, 2) := by decide +kernel
theorem dX12_compare_41 : decode cX12_compare 41 = .ok (.lconst 0, 1) := by decide +kernel
theorem dX12_compare_42 : decode cX12_compare 42 = .ok (.lcmp, 1) := by decide +kernel
theorem dX12_compare_43 : decode cX12_compare 43 = .ok (.ifCond .ge 7, 3) := by decide +kernel
theorem dX12_compare_46 : decode cX12_compare 46 = .ok (.iconst (-1), 1) := by decide +kernel
theorem dX12_compare_47 : decode cX12_compare 47 = .ok (.goto 15, 3) := by decide +kernel
theorem dX12_compare_50 : decode cX12_compare 50 = .ok (.lload 5, 2) := by decide +kernel
theorem dX12_compare_52 : decode cX12_compare 52 = .ok (.lconst 0, 1) := by decide +kernel
theorem dX12_compare_53 : decode cX12_compare 53 = .ok (.lcmp, 1) := by decide +kernel
theorem dX12_compare_54 : decode cX12_compare 54 = .ok (.ifCond .le 7, 3) := by decide +kernel
theorem dX12_compare_57 : decode cX12_compare 57 = .ok (.iconst 1, 1) := by decide +kernel
theorem dX12_compare_58 : decode cX12_compare 58 = .ok (.goto 4, 3) := by decide +kernel
theorem dX12_compare_61 : decode cX12_compare 61 = .ok (.iload_n 3, 1) := by decide +kernel
theorem dX12_compare_62 : decode cX12_compare 62 = .ok (.istore_n 3, 1) := by decide +kernel
theorem dX12_compare_63 : decode cX12_compare 63 = .ok (.iinc 4 1, 3) := by decide +kernel
theorem dX12_compare_66 : decode cX12_compare 66 = .ok (.goto (-61), 3) := by decide +kernel
theorem dX12_compare_69 : decode cX12_compare 69 = .ok (.iload_n 3, 1) := by decide +kernel
theorem dX12_compare_70 : decode cX12_compare 70 = .ok (.ireturn, 1) := by decide +kernel
theorem dX12_take_0 : decode cX12_take 0 = .ok (.iconst 0, 1) := by decide +kernel
theorem dX12_take_1 : decode cX12_take 1 = .ok (.istore_n 3, 1) := by decide +kernel
theorem dX12_take_2 : decode cX12_take 2 = .ok (.iload_n 3, 1) := by decide +kernel
theorem dX12_take_3 : decode cX12_take 3 = .ok (.bipush 6, 2) := by decide +kernel
theorem dX12_take_5 : decode cX12_take 5 = .ok (.if_icmp .ge 34, 3) := by decide +kernel
theorem dX12_take_8 : decode cX12_take 8 = .ok (.aload_n 0, 1) := by decide +kernel
theorem dX12_take_9 : decode cX12_take 9 = .ok (.getfield 73, 3) := by decide +kernel
theorem dX12_take_12 : decode cX12_take 12 = .ok (.bipush 6, 2) := by decide +kernel
theorem dX12_take_14 : decode cX12_take 14 = .ok (.iload_n 1, 1) := by decide +kernel
theorem dX12_take_15 : decode cX12_take 15 = .ok (.imul, 1) := by decide +kernel
theorem dX12_take_16 : decode cX12_take 16 = .ok (.iload_n 3, 1) := by decide +kernel
theorem dX12_take_17 : decode cX12_take 17 = .ok (.iadd, 1) := by decide +kernel
theorem dX12_take_18 : decode cX12_take 18 = .ok (.dup2, 1) := by decide +kernel
theorem dX12_take_19 : decode cX12_take 19 = .ok (.laload, 1) := by decide +kernel
theorem dX12_take_20 : decode cX12_take 20 = .ok (.aload_n 0, 1) := by decide +kernel
theorem dX12_take_21 : decode cX12_take 21 = .ok (.getfield 73, 3) := by decide +kernel
theorem dX12_take_24 : decode cX12_take 24 = .ok (.bipush 6, 2) := by decide +kernel
theorem dX12_take_26 : decode cX12_take 26 = .ok (.iload_n 2, 1) := by decide +kernel
theorem dX12_take_27 : decode cX12_take 27 = .ok (.imul, 1) := by decide +kernel
theorem dX12_take_28 : decode cX12_take 28 = .ok (.iload_n 3, 1) := by decide +kernel
theorem dX12_take_29 : decode cX12_take 29 = .ok (.iadd, 1) := by decide +kernel
theorem dX12_take_30 : decode cX12_take 30 = .ok (.laload, 1) := by decide +kernel
theorem dX12_take_31 : decode cX12_take 31 = .ok (.lsub, 1) := by decide +kernel
theorem dX12_take_32 : decode cX12_take 32 = .ok (.lastore, 1) := by decide +kernel
theorem dX12_take_33 : decode cX12_take 33 = .ok (.iinc 3 1, 3) := by decide +kernel
theorem dX12_take_36 : decode cX12_take 36 = .ok (.goto (-34), 3) := by decide +kernel
theorem dX12_take_39 : decode cX12_take 39 = .ok (.aload_n 0, 1) := by decide +kernel
theorem dX12_take_40 : decode cX12_take 40 = .ok (.iload_n 1, 1) := by decide +kernel
theorem dX12_take_41 : decode cX12_take 41 = .ok (.invokevirtual 305, 3) := by decide +kernel
theorem dX12_take_44 : decode cX12_take 44 = .ok (.return_, 1) := by decide +kernel
theorem dX12_divideBy_0 : decode cX12_divideBy 0 = .ok (.aload_n 0, 1) := by decide +kernel
theorem dX12_divideBy_1 : decode cX12_divideBy 1 = .ok (.sipush 439, 3) := by decide +kernel
theorem dX12_divideBy_4 : decode cX12_divideBy 4 = .ok (.lconst 0, 1) := by decide +kernel
theorem dX12_divideBy_5 : decode cX12_divideBy 5 = .ok (.invokevirtual 310, 3) := by decide +kernel
theorem dX12_divideBy_8 : decode cX12_divideBy 8 = .ok (.sipush 185, 3) := by decide +kernel
theorem dX12_divideBy_11 : decode cX12_divideBy 11 = .ok (.istore_n 3, 1) := by decide +kernel
theorem dX12_divideBy_12 : decode cX12_divideBy 12 = .ok (.iload_n 3, 1) := by decide +kernel
theorem dX12_divideBy_13 : decode cX12_divideBy 13 = .ok (.ifCond .lt 147, 3) := by decide +kernel
theorem dX12_divideBy_16 : decode cX12_divideBy 16 = .ok (.aload_n 0, 1) := by decide +kernel
theorem dX12_divideBy_17 : decode cX12_divideBy 17 = .ok (.sipush 439, 3) := by decide +kernel
theorem dX12_divideBy_20 : decode cX12_divideBy 20 = .ok (.invokevirtual 314, 3) := by decide +kernel
theorem dX12_divideBy_23 : decode cX12_divideBy 23 = .ok (.aload_n 0, 1) := by decide +kernel
theorem dX12_divideBy_24 : decode cX12_divideBy 24 = .ok (.getfield 73, 3) := by decide +kernel
theorem dX12_divideBy_27 : decode cX12_divideBy 27 = .ok (.sipush 2634, 3) := by decide +kernel
theorem dX12_divideBy_30 : decode cX12_divideBy 30 = .ok (.dup2, 1) := by decide +kernel
theorem dX12_divideBy_31 : decode cX12_divideBy 31 = .ok (.laload, 1) := by decide +kernel
theorem dX12_divideBy_32 : decode cX12_divideBy 32 = .ok (.aload_n 0, 1) := by decide +kernel
theorem dX12_divideBy_33 : decode cX12_divideBy 33 = .ok (.getfield 73, 3) := by decide +kernel
theorem dX12_divideBy_36 : decode cX12_divideBy 36 = .ok (.bipush 6, 2) := by decide +kernel
theorem dX12_divideBy_38 : decode cX12_divideBy 38 = .ok (.iload_n 1, 1) := by decide +kernel
theorem dX12_divideBy_39 : decode cX12_divideBy 39 = .ok (.imul, 1) := by decide +kernel
theorem dX12_divideBy_40 : decode cX12_divideBy 40 = .ok (.iload_n 3, 1) := by decide +kernel
theorem dX12_divideBy_41 : decode cX12_divideBy 41 = .ok (.bipush 31, 2) := by decide +kernel
theorem dX12_divideBy_43 : decode cX12_divideBy 43 = .ok (.idiv, 1) := by decide +kernel
theorem dX12_divideBy_44 : decode cX12_divideBy 44 = .ok (.iadd, 1) := by decide +kernel
theorem dX12_divideBy_45 : decode cX12_divideBy 45 = .ok (.laload, 1) := by decide +kernel
theorem dX12_divideBy_46 : decode cX12_divideBy 46 = .ok (.iload_n 3, 1) := by decide +kernel
theorem dX12_divideBy_47 : decode cX12_divideBy 47 = .ok (.bipush 31, 2) := by decide +kernel
theorem dX12_divideBy_49 : decode cX12_divideBy 49 = .ok (.irem, 1) := by decide +kernel
theorem dX12_divideBy_50 : decode cX12_divideBy 50 = .ok (.lshr, 1) := by decide +kernel
theorem dX12_divideBy_51 : decode cX12_divideBy 51 = .ok (.lconst 1, 1) := by decide +kernel
theorem dX12_divideBy_52 : decode cX12_divideBy 52 = .ok (.land, 1) := by decide +kernel
theorem dX12_divideBy_53 : decode cX12_divideBy 53 = .ok (.ladd, 1) := by decide +kernel
theorem dX12_divideBy_54 : decode cX12_divideBy 54 = .ok (.lastore, 1) := by decide +kernel
theorem dX12_divideBy_55 : decode cX12_divideBy 55 = .ok (.aload_n 0, 1) := by decide +kernel
theorem dX12_divideBy_56 : decode cX12_divideBy 56 = .ok (.sipush 439, 3) := by decide +kernel
theorem dX12_divideBy_59 : decode cX12_divideBy 59 = .ok (.iload_n 2, 1) := by decide +kernel
theorem dX12_divideBy_60 : decode cX12_divideBy 60 = .ok (.invokevirtual 317, 3) := by decide +kernel
theorem dX12_divideBy_63 : decode cX12_divideBy 63 = .ok (.ifCond .lt 7, 3) := by decide +kernel
theorem dX12_divideBy_66 : decode cX12_divideBy 66 = .ok (.iconst 1, 1) := by decide +kernel
theorem dX12_divideBy_67 : decode cX12_divideBy 67 = .ok (.goto 4, 3) := by decide +kernel
theorem dX12_divideBy_70 : decode cX12_divideBy 70 = .ok (.iconst 0, 1) := by decide +kernel
theorem dX12_divideBy_71 : decode cX12_divideBy 71 = .ok (.istore 4, 2) := by decide +kernel
theorem dX12_divideBy_73 : decode cX12_divideBy 73 = .ok (.iload 4, 2) := by decide +kernel
theorem dX12_divideBy_75 : decode cX12_divideBy 75 = .ok (.ifCond .eq 11, 3) := by decide +kernel
theorem dX12_divideBy_78 : decode cX12_divideBy 78 = .ok (.aload_n 0, 1) := by decide +kernel
theorem dX12_divideBy_79 : decode cX12_divideBy 79 = .ok (.sipush 439, 3) := by decide +kernel
theorem dX12_divideBy_82 : decode cX12_divideBy 82 = .ok (.iload_n 2, 1) := by decide +kernel
theorem dX12_divideBy_83 : decode cX12_divideBy 83 = .ok (.invokevirtual 320, 3) := by decide +kernel
theorem dX12_divideBy_86 : decode cX12_divideBy 86 = .ok (.lconst 1, 1) := by decide +kernel
theorem dX12_divideBy_87 : decode cX12_divideBy 87 = .ok (.iload_n 3, 1) := by decide +kernel
theorem dX12_divideBy_88 : decode cX12_divideBy 88 = .ok (.bipush 31, 2) := by decide +kernel
theorem dX12_divideBy_90 : decode cX12_divideBy 90 = .ok (.irem, 1) := by decide +kernel
theorem dX12_divideBy_91 : decode cX12_divideBy 91 = .ok (.lshl, 1) := by decide +kernel
theorem dX12_divideBy_92 : decode cX12_divideBy 92 = .ok (.lstore 5, 2) := by decide +kernel
theorem dX12_divideBy_94 : decode cX12_divideBy 94 = .ok (.aload_n 0, 1) := by decide +kernel
theorem dX12_divideBy_95 : decode cX12_divideBy 95 = .ok (.getfield 73, 3) := by decide +kernel
theorem dX12_divideBy_98 : decode cX12_divideBy 98 = .ok (.bipush 6, 2) := by decide +kernel
theorem dX12_divideBy_100 : decode cX12_divideBy 100 = .ok (.iload_n 1, 1) := by decide +kernel
theorem dX12_divideBy_101 : decode cX12_divideBy 101 = .ok (.imul, 1) := by decide +kernel
theorem dX12_divideBy_102 : decode cX12_divideBy 102 = .ok (.iload_n 3, 1) := by decide +kernel
theorem dX12_divideBy_103 : decode cX12_divideBy 103 = .ok (.bipush 31, 2) := by decide +kernel
theorem dX12_divideBy_105 : decode cX12_divideBy 105 = .ok (.idiv, 1) := by decide +kernel
theorem dX12_divideBy_106 : decode cX12_divideBy 106 = .ok (.iadd, 1) := by decide +kernel
theorem dX12_divideBy_107 : decode cX12_divideBy 107 = .ok (.iload 4, 2) := by decide +kernel
theorem dX12_divideBy_109 : decode cX12_divideBy 109 = .ok (.ifCond .eq 23, 3) := by decide +kernel
theorem dX12_divideBy_112 : decode cX12_divideBy 112 = .ok (.aload_n 0, 1) := by decide +kernel
theorem dX12_divideBy_113 : decode cX12_divideBy 113 = .ok (.getfield 73, 3) := by decide +kernel
theorem dX12_divideBy_116 : decode cX12_divideBy 116 = .ok (.bipush 6, 2) := by decide +kernel
theorem dX12_divideBy_118 : decode cX12_divideBy 118 = .ok (.iload_n 1, 1) := by decide +kernel
theorem dX12_divideBy_119 : decode cX12_divideBy 119 = .ok (.imul, 1) := by decide +kernel
theorem dX12_divideBy_120 : decode cX12_divideBy 120 = .ok (.iload_n 3, 1) := by decide +kernel
theorem dX12_divideBy_121 : decode cX12_divideBy 121 = .ok (.bipush 31, 2) := by decide +kernel
theorem dX12_divideBy_123 : decode cX12_divideBy 123 = .ok (.idiv, 1) := by decide +kernel
theorem dX12_divideBy_124 : decode cX12_divideBy 124 = .ok (.iadd, 1) := by decide +kernel
theorem dX12_divideBy_125 : decode cX12_divideBy 125 = .ok (.laload, 1) := by decide +kernel
theorem dX12_divideBy_126 : decode cX12_divideBy 126 = .ok (.lload 5, 2) := by decide +kernel
theorem dX12_divideBy_128 : decode cX12_divideBy 128 = .ok (.lor, 1) := by decide +kernel
theorem dX12_divideBy_129 : decode cX12_divideBy 129 = .ok (.goto 24, 3) := by decide +kernel
theorem dX12_divideBy_132 : decode cX12_divideBy 132 = .ok (.aload_n 0, 1) := by decide +kernel
theorem dX12_divideBy_133 : decode cX12_divideBy 133 = .ok (.getfield 73, 3) := by decide +kernel
theorem dX12_divideBy_136 : decode cX12_divideBy 136 = .ok (.bipush 6, 2) := by decide +kernel
theorem dX12_divideBy_138 : decode cX12_divideBy 138 = .ok (.iload_n 1, 1) := by decide +kernel
theorem dX12_divideBy_139 : decode cX12_divideBy 139 = .ok (.imul, 1) := by decide +kernel
theorem dX12_divideBy_140 : decode cX12_divideBy 140 = .ok (.iload_n 3, 1) := by decide +kernel
theorem dX12_divideBy_141 : decode cX12_divideBy 141 = .ok (.bipush 31, 2) := by decide +kernel
theorem dX12_divideBy_143 : decode cX12_divideBy 143 = .ok (.idiv, 1) := by decide +kernel
theorem dX12_divideBy_144 : decode cX12_divideBy 144 = .ok (.iadd, 1) := by decide +kernel
theorem dX12_divideBy_145 : decode cX12_divideBy 145 = .ok (.laload, 1) := by decide +kernel
theorem dX12_divideBy_146 : decode cX12_divideBy 146 = .ok (.lload 5, 2) := by decide +kernel
theorem dX12_divideBy_148 : decode cX12_divideBy 148 = .ok (.ldc2_w 324, 3) := by decide +kernel
theorem dX12_divideBy_151 : decode cX12_divideBy 151 = .ok (.lxor, 1) := by decide +kernel
theorem dX12_divideBy_152 : decode cX12_divideBy 152 = .ok (.land, 1) := by decide +kernel
theorem dX12_divideBy_153 : decode cX12_divideBy 153 = .ok (.lastore, 1) := by decide +kernel
theorem dX12_divideBy_154 : decode cX12_divideBy 154 = .ok (.iinc 3 (-1), 3) := by decide +kernel
theorem dX12_divideBy_157 : decode cX12_divideBy 157 = .ok (.goto (-145), 3) := by decide +kernel
theorem dX12_divideBy_160 : decode cX12_divideBy 160 = .ok (.return_, 1) := by decide +kernel
theorem dX12_reduce_0 : decode cX12_reduce 0 = .ok (.aload_n 0, 1) := by decide +kernel
theorem dX12_reduce_1 : decode cX12_reduce 1 = .ok (.sipush 436, 3) := by decide +kernel
theorem dX12_reduce_4 : decode cX12_reduce 4 = .ok (.sipush 437, 3) := by decide +kernel
theorem dX12_reduce_7 : decode cX12_reduce 7 = .ok (.invokevirtual 330, 3) := by decide +kernel
theorem dX12_reduce_10 : decode cX12_reduce 10 = .ok (.aload_n 0, 1) := by decide +kernel
theorem dX12_reduce_11 : decode cX12_reduce 11 = .ok (.sipush 440, 3) := by decide +kernel
theorem dX12_reduce_14 : decode cX12_reduce 14 = .ok (.sipush 438, 3) := by decide +kernel
theorem dX12_reduce_17 : decode cX12_reduce 17 = .ok (.invokevirtual 330, 3) := by decide +kernel
theorem dX12_reduce_20 : decode cX12_reduce 20 = .ok (.aload_n 0, 1) := by decide +kernel
theorem dX12_reduce_21 : decode cX12_reduce 21 = .ok (.sipush 437, 3) := by decide +kernel
theorem dX12_reduce_24 : decode cX12_reduce 24 = .ok (.invokevirtual 352, 3) := by decide +kernel
theorem dX12_reduce_27 : decode cX12_reduce 27 = .ok (.ifCond .ne 46, 3) := by decide +kernel
theorem dX12_reduce_30 : decode cX12_reduce 30 = .ok (.aload_n 0, 1) := by decide +kernel
theorem dX12_reduce_31 : decode cX12_reduce 31 = .ok (.sipush 437, 3) := by decide +kernel
theorem dX12_reduce_34 : decode cX12_reduce 34 = .ok (.sipush 435, 3) := by decide +kernel
theorem dX12_reduce_37 : decode cX12_reduce 37 = .ok (.invokevirtual 330, 3) := by decide +kernel
theorem dX12_reduce_40 : decode cX12_reduce 40 = .ok (.aload_n 0, 1) := by decide +kernel
theorem dX12_reduce_41 : decode cX12_reduce 41 = .ok (.sipush 438, 3) := by decide +kernel
theorem dX12_reduce_44 : decode cX12_reduce 44 = .ok (.sipush 437, 3) := by decide +kernel
theorem dX12_reduce_47 : decode cX12_reduce 47 = .ok (.invokevirtual 355, 3) := by decide +kernel
theorem dX12_reduce_50 : decode cX12_reduce 50 = .ok (.aload_n 0, 1) := by decide +kernel
theorem dX12_reduce_51 : decode cX12_reduce 51 = .ok (.sipush 439, 3) := by decide +kernel
theorem dX12_reduce_54 : decode cX12_reduce 54 = .ok (.sipush 437, 3) := by decide +kernel
theorem dX12_reduce_57 : decode cX12_reduce 57 = .ok (.invokevirtual 330, 3) := by decide +kernel
theorem dX12_reduce_60 : decode cX12_reduce 60 = .ok (.aload_n 0, 1) := by decide +kernel
theorem dX12_reduce_61 : decode cX12_reduce 61 = .ok (.sipush 435, 3) := by decide +kernel
theorem dX12_reduce_64 : decode cX12_reduce 64 = .ok (.sipush 438, 3) := by decide +kernel
theorem dX12_reduce_67 : decode cX12_reduce 67 = .ok (.invokevirtual 330, 3) := by decide +kernel
theorem dX12_reduce_70 : decode cX12_reduce 70 = .ok (.goto (-50), 3) := by decide +kernel
theorem dX12_reduce_73 : decode cX12_reduce 73 = .ok (.aload_n 0, 1) := by decide +kernel
theorem dX12_reduce_74 : decode cX12_reduce 74 = .ok (.sipush 436, 3) := by decide +kernel
theorem dX12_reduce_77 : decode cX12_reduce 77 = .ok (.sipush 438, 3) := by decide +kernel
theorem dX12_reduce_80 : decode cX12_reduce 80 = .ok (.invokevirtual 355, 3) := by decide +kernel
theorem dX12_reduce_83 : decode cX12_reduce 83 = .ok (.aload_n 0, 1) := by decide +kernel
theorem dX12_reduce_84 : decode cX12_reduce 84 = .ok (.sipush 440, 3) := by decide +kernel
theorem dX12_reduce_87 : decode cX12_reduce 87 = .ok (.sipush 438, 3) := by decide +kernel
theorem dX12_reduce_90 : decode cX12_reduce 90 = .ok (.invokevirtual 355, 3) := by decide +kernel
theorem dX12_reduce_93 : decode cX12_reduce 93 = .ok (.return_, 1) := by decide +kernel
theorem dX12_share_0 : decode cX12_share 0 = .ok (.aload_n 0, 1) := by decide +kernel
theorem dX12_share_1 : decode cX12_share 1 = .ok (.iconst 0, 1) := by decide +kernel
theorem dX12_share_2 : decode cX12_share 2 = .ok (.putfield 79, 3) := by decide +kernel
theorem dX12_share_5 : decode cX12_share 5 = .ok (.aload_n 0, 1) := by decide +kernel
theorem dX12_share_6 : decode cX12_share 6 = .ok (.iload_n 1, 1) := by decide +kernel
theorem dX12_share_7 : decode cX12_share 7 = .ok (.iload_n 2, 1) := by decide +kernel
theorem dX12_share_8 : decode cX12_share 8 = .ok (.invokevirtual 209, 3) := by decide +kernel
theorem dX12_share_11 : decode cX12_share 11 = .ok (.ifCond .ne 5, 3) := by decide +kernel
theorem dX12_share_14 : decode cX12_share 14 = .ok (.iconst 0, 1) := by decide +kernel
theorem dX12_share_15 : decode cX12_share 15 = .ok (.ireturn, 1) := by decide +kernel
theorem dX12_share_16 : decode cX12_share 16 = .ok (.iload_n 3, 1) := by decide +kernel
theorem dX12_share_17 : decode cX12_share 17 = .ok (.iconst 0, 1) := by decide +kernel
theorem dX12_share_18 : decode cX12_share 18 = .ok (.iconst 1, 1) := by decide +kernel
theorem dX12_share_19 : decode cX12_share 19 = .ok (.invokestatic 83, 3) := by decide +kernel
theorem dX12_share_22 : decode cX12_share 22 = .ok (.ifCond .eq 14, 3) := by decide +kernel
theorem dX12_share_25 : decode cX12_share 25 = .ok (.iload 4, 2) := by decide +kernel
theorem dX12_share_27 : decode cX12_share 27 = .ok (.iconst 0, 1) := by decide +kernel
theorem dX12_share_28 : decode cX12_share 28 = .ok (.bipush 7, 2) := by decide +kernel
theorem dX12_share_30 : decode cX12_share 30 = .ok (.invokestatic 83, 3) := by decide +kernel
theorem dX12_share_33 : decode cX12_share 33 = .ok (.ifCond .ne 9, 3) := by decide +kernel
theorem dX12_share_36 : decode cX12_share 36 = .ok (.aload_n 0, 1) := by decide +kernel
theorem dX12_share_37 : decode cX12_share 37 = .ok (.iconst 2, 1) := by decide +kernel
theorem dX12_share_38 : decode cX12_share 38 = .ok (.invokevirtual 187, 3) := by decide +kernel
theorem dX12_share_41 : decode cX12_share 41 = .ok (.ireturn, 1) := by decide +kernel
theorem dX12_share_42 : decode cX12_share 42 = .ok (.aload_n 0, 1) := by decide +kernel
theorem dX12_share_43 : decode cX12_share 43 = .ok (.aload_n 0, 1) := by decide +kernel
theorem dX12_share_44 : decode cX12_share 44 = .ok (.getfield 87, 3) := by decide +kernel
theorem dX12_share_47 : decode cX12_share 47 = .ok (.iload_n 1, 1) := by decide +kernel
theorem dX12_share_48 : decode cX12_share 48 = .ok (.imul, 1) := by decide +kernel
theorem dX12_share_49 : decode cX12_share 49 = .ok (.iload_n 2, 1) := by decide +kernel
theorem dX12_share_50 : decode cX12_share 50 = .ok (.iadd, 1) := by decide +kernel
theorem dX12_share_51 : decode cX12_share 51 = .ok (.invokevirtual 358, 3) := by decide +kernel
theorem dX12_share_54 : decode cX12_share 54 = .ok (.ifCond .ne 9, 3) := by decide +kernel
theorem dX12_share_57 : decode cX12_share 57 = .ok (.aload_n 0, 1) := by decide +kernel
theorem dX12_share_58 : decode cX12_share 58 = .ok (.iconst 3, 1) := by decide +kernel
theorem dX12_share_59 : decode cX12_share 59 = .ok (.invokevirtual 187, 3) := by decide +kernel
theorem dX12_share_62 : decode cX12_share 62 = .ok (.ireturn, 1) := by decide +kernel
theorem dX12_share_63 : decode cX12_share 63 = .ok (.aload_n 0, 1) := by decide +kernel
theorem dX12_share_64 : decode cX12_share 64 = .ok (.invokevirtual 361, 3) := by decide +kernel
theorem dX12_share_67 : decode cX12_share 67 = .ok (.iload 4, 2) := by decide +kernel
theorem dX12_share_69 : decode cX12_share 69 = .ok (.iconst 5, 1) := by decide +kernel
theorem dX12_share_70 : decode cX12_share 70 = .ok (.if_icmp .le 7, 3) := by decide +kernel
theorem dX12_share_73 : decode cX12_share 73 = .ok (.iconst 0, 1) := by decide +kernel
theorem dX12_share_74 : decode cX12_share 74 = .ok (.goto 28, 3) := by decide +kernel
theorem dX12_share_77 : decode cX12_share 77 = .ok (.aload_n 0, 1) := by decide +kernel
theorem dX12_share_78 : decode cX12_share 78 = .ok (.getfield 73, 3) := by decide +kernel
theorem dX12_share_81 : decode cX12_share 81 = .ok (.bipush 6, 2) := by decide +kernel
theorem dX12_share_83 : decode cX12_share 83 = .ok (.iload_n 3, 1) := by decide +kernel
theorem dX12_share_84 : decode cX12_share 84 = .ok (.ifCond .ne 9, 3) := by decide +kernel
theorem dX12_share_87 : decode cX12_share 87 = .ok (.sipush 436, 3) := by decide +kernel
theorem dX12_share_90 : decode cX12_share 90 = .ok (.goto 6, 3) := by decide +kernel
theorem dX12_share_93 : decode cX12_share 93 = .ok (.sipush 440, 3) := by decide +kernel
theorem dX12_share_96 : decode cX12_share 96 = .ok (.imul, 1) := by decide +kernel
theorem dX12_share_97 : decode cX12_share 97 = .ok (.iload 4, 2) := by decide +kernel
theorem dX12_share_99 : decode cX12_share 99 = .ok (.iadd, 1) := by decide +kernel
theorem dX12_share_100 : decode cX12_share 100 = .ok (.laload, 1) := by decide +kernel
theorem dX12_share_101 : decode cX12_share 101 = .ok (.l2i, 1) := by decide +kernel
theorem dX12_share_102 : decode cX12_share 102 = .ok (.ireturn, 1) := by decide +kernel
theorem dX12_permille_0 : decode cX12_permille 0 = .ok (.aload_n 0, 1) := by decide +kernel
theorem dX12_permille_1 : decode cX12_permille 1 = .ok (.iconst 0, 1) := by decide +kernel
theorem dX12_permille_2 : decode cX12_permille 2 = .ok (.putfield 79, 3) := by decide +kernel
theorem dX12_permille_5 : decode cX12_permille 5 = .ok (.aload_n 0, 1) := by decide +kernel
theorem dX12_permille_6 : decode cX12_permille 6 = .ok (.iload_n 1, 1) := by decide +kernel
theorem dX12_permille_7 : decode cX12_permille 7 = .ok (.iload_n 2, 1) := by decide +kernel
theorem dX12_permille_8 : decode cX12_permille 8 = .ok (.invokevirtual 209, 3) := by decide +kernel
theorem dX12_permille_11 : decode cX12_permille 11 = .ok (.ifCond .ne 5, 3) := by decide +kernel
theorem dX12_permille_14 : decode cX12_permille 14 = .ok (.iconst 0, 1) := by decide +kernel
theorem dX12_permille_15 : decode cX12_permille 15 = .ok (.ireturn, 1) := by decide +kernel
theorem dX12_permille_16 : decode cX12_permille 16 = .ok (.aload_n 0, 1) := by decide +kernel
theorem dX12_permille_17 : decode cX12_permille 17 = .ok (.aload_n 0, 1) := by decide +kernel
theorem dX12_permille_18 : decode cX12_permille 18 = .ok (.getfield 87, 3) := by decide +kernel
theorem dX12_permille_21 : decode cX12_permille 21 = .ok (.iload_n 1, 1) := by decide +kernel
theorem dX12_permille_22 : decode cX12_permille 22 = .ok (.imul, 1) := by decide +kernel
theorem dX12_permille_23 : decode cX12_permille 23 = .ok (.iload_n 2, 1) := by decide +kernel
theorem dX12_permille_24 : decode cX12_permille 24 = .ok (.iadd, 1) := by decide +kernel
theorem dX12_permille_25 : decode cX12_permille 25 = .ok (.invokevirtual 358, 3) := by decide +kernel
theorem dX12_permille_28 : decode cX12_permille 28 = .ok (.ifCond .ne 9, 3) := by decide +kernel
theorem dX12_permille_31 : decode cX12_permille 31 = .ok (.aload_n 0, 1) := by decide +kernel
theorem dX12_permille_32 : decode cX12_permille 32 = .ok (.iconst 3, 1) := by decide +kernel
theorem dX12_permille_33 : decode cX12_permille 33 = .ok (.invokevirtual 187, 3) := by decide +kernel
theorem dX12_permille_36 : decode cX12_permille 36 = .ok (.ireturn, 1) := by decide +kernel
theorem dX12_permille_37 : decode cX12_permille 37 = .ok (.aload_n 0, 1) := by decide +kernel
theorem dX12_permille_38 : decode cX12_permille 38 = .ok (.sipush 437, 3) := by decide +kernel
theorem dX12_permille_41 : decode cX12_permille 41 = .ok (.lconst 0, 1) := by decide +kernel
theorem dX12_permille_42 : decode cX12_permille 42 = .ok (.invokevirtual 310, 3) := by decide +kernel
theorem dX12_permille_45 : decode cX12_permille 45 = .ok (.aload_n 0, 1) := by decide +kernel
theorem dX12_permille_46 : decode cX12_permille 46 = .ok (.sipush 437, 3) := by decide +kernel
theorem dX12_permille_49 : decode cX12_permille 49 = .ok (.sipush 436, 3) := by decide +kernel
theorem dX12_permille_52 : decode cX12_permille 52 = .ok (.ldc2_w 364, 3) := by decide +kernel
theorem dX12_permille_55 : decode cX12_permille 55 = .ok (.invokevirtual 326, 3) := by decide +kernel
theorem dX12_permille_58 : decode cX12_permille 58 = .ok (.aload_n 0, 1) := by decide +kernel
theorem dX12_permille_59 : decode cX12_permille 59 = .ok (.sipush 437, 3) := by decide +kernel
theorem dX12_permille_62 : decode cX12_permille 62 = .ok (.sipush 440, 3) := by decide +kernel
theorem dX12_permille_65 : decode cX12_permille 65 = .ok (.invokevirtual 355, 3) := by decide +kernel
theorem dX12_permille_68 : decode cX12_permille 68 = .ok (.aload_n 0, 1) := by decide +kernel
theorem dX12_permille_69 : decode cX12_permille 69 = .ok (.getfield 73, 3) := by decide +kernel
theorem dX12_permille_72 : decode cX12_permille 72 = .ok (.sipush 2622, 3) := by decide +kernel
theorem dX12_permille_75 : decode cX12_permille 75 = .ok (.laload, 1) := by decide +kernel
theorem dX12_permille_76 : decode cX12_permille 76 = .ok (.l2i, 1) := by decide +kernel
theorem dX12_permille_77 : decode cX12_permille 77 = .ok (.ireturn, 1) := by decide +kernel
theorem dX12_isQuiet_0 : decode cX12_isQuiet 0 = .ok (.aload_n 0, 1) := by decide +kernel
theorem dX12_isQuiet_1 : decode cX12_isQuiet 1 = .ok (.iload_n 1, 1) := by decide +kernel
theorem dX12_isQuiet_2 : decode cX12_isQuiet 2 = .ok (.invokevirtual 143, 3) := by decide +kernel
theorem dX12_isQuiet_5 : decode cX12_isQuiet 5 = .ok (.ifCond .eq 24, 3) := by decide +kernel
theorem dX12_isQuiet_8 : decode cX12_isQuiet 8 = .ok (.aload_n 0, 1) := by decide +kernel
theorem dX12_isQuiet_9 : decode cX12_isQuiet 9 = .ok (.getfield 16, 3) := by decide +kernel
theorem dX12_isQuiet_12 : decode cX12_isQuiet 12 = .ok (.iload_n 1, 1) := by decide +kernel
theorem dX12_isQuiet_13 : decode cX12_isQuiet 13 = .ok (.baload, 1) := by decide +kernel
theorem dX12_isQuiet_14 : decode cX12_isQuiet 14 = .ok (.ifCond .ne 15, 3) := by decide +kernel
theorem dX12_isQuiet_17 : decode cX12_isQuiet 17 = .ok (.aload_n 0, 1) := by decide +kernel
theorem dX12_isQuiet_18 : decode cX12_isQuiet 18 = .ok (.iload_n 1, 1) := by decide +kernel
theorem dX12_isQuiet_19 : decode cX12_isQuiet 19 = .ok (.invokevirtual 140, 3) := by decide +kernel
theorem dX12_isQuiet_22 : decode cX12_isQuiet 22 = .ok (.ifCond .ne 7, 3) := by decide +kernel
theorem dX12_isQuiet_25 : decode cX12_isQuiet 25 = .ok (.iconst 1, 1) := by decide +kernel
theorem dX12_isQuiet_26 : decode cX12_isQuiet 26 = .ok (.goto 4, 3) := by decide +kernel
theorem dX12_isQuiet_29 : decode cX12_isQuiet 29 = .ok (.iconst 0, 1) := by decide +kernel
theorem dX12_isQuiet_30 : decode cX12_isQuiet 30 = .ok (.ireturn, 1) := by decide +kernel
theorem dX12_clicks_0 : decode cX12_clicks 0 = .ok (.iconst 0, 1) := by decide +kernel
theorem dX12_clicks_1 : decode cX12_clicks 1 = .ok (.istore_n 1, 1) := by decide +kernel
theorem dX12_clicks_2 : decode cX12_clicks 2 = .ok (.iconst 0, 1) := by decide +kernel
theorem dX12_clicks_3 : decode cX12_clicks 3 = .ok (.istore_n 2, 1) := by decide +kernel
theorem dX12_clicks_4 : decode cX12_clicks 4 = .ok (.iload_n 2, 1) := by decide +kernel
theorem dX12_clicks_5 : decode cX12_clicks 5 = .ok (.aload_n 0, 1) := by decide +kernel
theorem dX12_clicks_6 : decode cX12_clicks 6 = .ok (.getfield 100, 3) := by decide +kernel
theorem dX12_clicks_9 : decode cX12_clicks 9 = .ok (.if_icmp .ge 28, 3) := by decide +kernel
theorem dX12_clicks_12 : decode cX12_clicks 12 = .ok (.aload_n 0, 1) := by decide +kernel
theorem dX12_clicks_13 : decode cX12_clicks 13 = .ok (.getfield 76, 3) := by decide +kernel
theorem dX12_clicks_16 : decode cX12_clicks 16 = .ok (.iload_n 2, 1) := by decide +kernel
theorem dX12_clicks_17 : decode cX12_clicks 17 = .ok (.aload_n 0, 1) := by decide +kernel
theorem dX12_clicks_18 : decode cX12_clicks 18 = .ok (.iload_n 2, 1) := by decide +kernel
theorem dX12_clicks_19 : decode cX12_clicks 19 = .ok (.invokevirtual 366, 3) := by decide +kernel
theorem dX12_clicks_22 : decode cX12_clicks 22 = .ok (.ifCond .eq 7, 3) := by decide +kernel
theorem dX12_clicks_25 : decode cX12_clicks 25 = .ok (.iload_n 2, 1) := by decide +kernel
theorem dX12_clicks_26 : decode cX12_clicks 26 = .ok (.goto 4, 3) := by decide +kernel
theorem dX12_clicks_29 : decode cX12_clicks 29 = .ok (.iconst (-1), 1) := by decide +kernel
theorem dX12_clicks_30 : decode cX12_clicks 30 = .ok (.iastore, 1) := by decide +kernel
theorem dX12_clicks_31 : decode cX12_clicks 31 = .ok (.iinc 2 1, 3) := by decide +kernel
theorem dX12_clicks_34 : decode cX12_clicks 34 = .ok (.goto (-30), 3) := by decide +kernel
theorem dX12_clicks_37 : decode cX12_clicks 37 = .ok (.iconst 1, 1) := by decide +kernel
theorem dX12_clicks_38 : decode cX12_clicks 38 = .ok (.istore_n 2, 1) := by decide +kernel
theorem dX12_clicks_39 : decode cX12_clicks 39 = .ok (.iload_n 2, 1) := by decide +kernel
theorem dX12_clicks_40 : decode cX12_clicks 40 = .ok (.ifCond .eq 98, 3) := by decide +kernel
theorem dX12_clicks_43 : decode cX12_clicks 43 = .ok (.iconst 0, 1) := by decide +kernel
theorem dX12_clicks_44 : decode cX12_clicks 44 = .ok (.istore_n 2, 1) := by decide +kernel
theorem dX12_clicks_45 : decode cX12_clicks 45 = .ok (.iconst 0, 1) := by decide +kernel
theorem dX12_clicks_46 : decode cX12_clicks 46 = .ok (.istore_n 3, 1) := by decide +kernel
theorem dX12_clicks_47 : decode cX12_clicks 47 = .ok (.iload_n 3, 1) := by decide +kernel
theorem dX12_clicks_48 : decode cX12_clicks 48 = .ok (.aload_n 0, 1) := by decide +kernel
theorem dX12_clicks_49 : decode cX12_clicks 49 = .ok (.getfield 100, 3) := by decide +kernel
theorem dX12_clicks_52 : decode cX12_clicks 52 = .ok (.if_icmp .ge 83, 3) := by decide +kernel
theorem dX12_clicks_55 : decode cX12_clicks 55 = .ok (.iconst 0, 1) := by decide +kernel
theorem dX12_clicks_56 : decode cX12_clicks 56 = .ok (.istore 4, 2) := by decide +kernel
theorem dX12_clicks_58 : decode cX12_clicks 58 = .ok (.iload 4, 2) := by decide +kernel
theorem dX12_clicks_60 : decode cX12_clicks 60 = .ok (.aload_n 0, 1) := by decide +kernel
theorem dX12_clicks_61 : decode cX12_clicks 61 = .ok (.getfield 13, 3) := by decide +kernel
theorem dX12_clicks_64 : decode cX12_clicks 64 = .ok (.iload_n 3, 1) := by decide +kernel
theorem dX12_clicks_65 : decode cX12_clicks 65 = .ok (.iaload, 1) := by decide +kernel
theorem dX12_clicks_66 : decode cX12_clicks 66 = .ok (.if_icmp .ge 63, 3) := by decide +kernel
theorem dX12_clicks_69 : decode cX12_clicks 69 = .ok (.aload_n 0, 1) := by decide +kernel
theorem dX12_clicks_70 : decode cX12_clicks 70 = .ok (.getfield 76, 3) := by decide +kernel
theorem dX12_clicks_73 : decode cX12_clicks 73 = .ok (.iload_n 3, 1) := by decide +kernel
theorem dX12_clicks_74 : decode cX12_clicks 74 = .ok (.iaload, 1) := by decide +kernel
theorem dX12_clicks_75 : decode cX12_clicks 75 = .ok (.ifCond .lt 54, 3) := by decide +kernel
theorem dX12_clicks_78 : decode cX12_clicks 78 = .ok (.aload_n 0, 1) := by decide +kernel
theorem dX12_clicks_79 : decode cX12_clicks 79 = .ok (.getfield 7, 3) := by decide +kernel
theorem dX12_clicks_82 : decode cX12_clicks 82 = .ok (.bipush 8, 2) := by decide +kernel
theorem dX12_clicks_84 : decode cX12_clicks 84 = .ok (.iload_n 3, 1) := by decide +kernel
theorem dX12_clicks_85 : decode cX12_clicks 85 = .ok (.imul, 1) := by decide +kernel
theorem dX12_clicks_86 : decode cX12_clicks 86 = .ok (.iload 4, 2) := by decide +kernel
theorem dX12_clicks_88 : decode cX12_clicks 88 = .ok (.iadd, 1) := by decide +kernel
theorem dX12_clicks_89 : decode cX12_clicks 89 = .ok (.iaload, 1) := by decide +kernel
theorem dX12_clicks_90 : decode cX12_clicks 90 = .ok (.istore 5, 2) := by decide +kernel
theorem dX12_clicks_92 : decode cX12_clicks 92 = .ok (.aload_n 0, 1) := by decide +kernel
theorem dX12_clicks_93 : decode cX12_clicks 93 = .ok (.getfield 76, 3) := by decide +kernel
theorem dX12_clicks_96 : decode cX12_clicks 96 = .ok (.iload 5, 2) := by decide +kernel
theorem dX12_clicks_98 : decode cX12_clicks 98 = .ok (.iaload, 1) := by decide +kernel
theorem dX12_clicks_99 : decode cX12_clicks 99 = .ok (.aload_n 0, 1) := by decide +kernel
theorem dX12_clicks_100 : decode cX12_clicks 100 = .ok (.getfield 76, 3) := by decide +kernel
theorem dX12_clicks_103 : decode cX12_clicks 103 = .ok (.iload_n 3, 1) := by decide +kernel
theorem dX12_clicks_104 : decode cX12_clicks 104 = .ok (.iaload, 1) := by decide +kernel
theorem dX12_clicks_105 : decode cX12_clicks 105 = .ok (.if_icmp .le 18, 3) := by decide +kernel
theorem dX12_clicks_108 : decode cX12_clicks 108 = .ok (.aload_n 0, 1) := by decide +kernel
theorem dX12_clicks_109 : decode cX12_clicks 109 = .ok (.getfield 76, 3) := by decide +kernel
theorem dX12_clicks_112 : decode cX12_clicks 112 = .ok (.iload 5, 2) := by decide +kernel
theorem dX12_clicks_114 : decode cX12_clicks 114 = .ok (.aload_n 0, 1) := by decide +kernel
theorem dX12_clicks_115 : decode cX12_clicks 115 = .ok (.getfield 76, 3) := by decide +kernel
theorem dX12_clicks_118 : decode cX12_clicks 118 = .ok (.iload_n 3, 1) := by decide +kernel
theorem dX12_clicks_119 : decode cX12_clicks 119 = .ok (.iaload, 1) := by decide +kernel
theorem dX12_clicks_120 : decode cX12_clicks 120 = .ok (.iastore, 1) := by decide +kernel
theorem dX12_clicks_121 : decode cX12_clicks 121 = .ok (.iconst 1, 1) := by decide +kernel
theorem dX12_clicks_122 : decode cX12_clicks 122 = .ok (.istore_n 2, 1) := by decide +kernel
theorem dX12_clicks_123 : decode cX12_clicks 123 = .ok (.iinc 4 1, 3) := by decide +kernel
theorem dX12_clicks_126 : decode cX12_clicks 126 = .ok (.goto (-68), 3) := by decide +kernel
theorem dX12_clicks_129 : decode cX12_clicks 129 = .ok (.iinc 3 1, 3) := by decide +kernel
theorem dX12_clicks_132 : decode cX12_clicks 132 = .ok (.goto (-85), 3) := by decide +kernel
theorem dX12_clicks_135 : decode cX12_clicks 135 = .ok (.goto (-96), 3) := by decide +kernel
theorem dX12_clicks_138 : decode cX12_clicks 138 = .ok (.iconst 0, 1) := by decide +kernel
theorem dX12_clicks_139 : decode cX12_clicks 139 = .ok (.istore_n 3, 1) := by decide +kernel
theorem dX12_clicks_140 : decode cX12_clicks 140 = .ok (.iload_n 3, 1) := by decide +kernel
theorem dX12_clicks_141 : decode cX12_clicks 141 = .ok (.aload_n 0, 1) := by decide +kernel
theorem dX12_clicks_142 : decode cX12_clicks 142 = .ok (.getfield 100, 3) := by decide +kernel
theorem dX12_clicks_145 : decode cX12_clicks 145 = .ok (.if_icmp .ge 113, 3) := by decide +kernel
theorem dX12_clicks_148 : decode cX12_clicks 148 = .ok (.iconst 0, 1) := by decide +kernel
theorem dX12_clicks_149 : decode cX12_clicks 149 = .ok (.istore 4, 2) := by decide +kernel
theorem dX12_clicks_151 : decode cX12_clicks 151 = .ok (.iconst 0, 1) := by decide +kernel
theorem dX12_clicks_152 : decode cX12_clicks 152 = .ok (.istore 5, 2) := by decide +kernel
theorem dX12_clicks_154 : decode cX12_clicks 154 = .ok (.iload 5, 2) := by decide +kernel
theorem dX12_clicks_156 : decode cX12_clicks 156 = .ok (.aload_n 0, 1) := by decide +kernel
theorem dX12_clicks_157 : decode cX12_clicks 157 = .ok (.getfield 13, 3) := by decide +kernel
theorem dX12_clicks_160 : decode cX12_clicks 160 = .ok (.iload_n 3, 1) := by decide +kernel
theorem dX12_clicks_161 : decode cX12_clicks 161 = .ok (.iaload, 1) := by decide +kernel
theorem dX12_clicks_162 : decode cX12_clicks 162 = .ok (.if_icmp .ge 41, 3) := by decide +kernel
theorem dX12_clicks_165 : decode cX12_clicks 165 = .ok (.iload 4, 2) := by decide +kernel
theorem dX12_clicks_167 : decode cX12_clicks 167 = .ok (.ifCond .ne 23, 3) := by decide +kernel
theorem dX12_clicks_170 : decode cX12_clicks 170 = .ok (.aload_n 0, 1) := by decide +kernel
theorem dX12_clicks_171 : decode cX12_clicks 171 = .ok (.getfield 76, 3) := by decide +kernel
theorem dX12_clicks_174 : decode cX12_clicks 174 = .ok (.aload_n 0, 1) := by decide +kernel
theorem dX12_clicks_175 : decode cX12_clicks 175 = .ok (.getfield 7, 3) := by decide +kernel
theorem dX12_clicks_178 : decode cX12_clicks 178 = .ok (.bipush 8, 2) := by decide +kernel
theorem dX12_clicks_180 : decode cX12_clicks 180 = .ok (.iload_n 3, 1) := by decide +kernel
theorem dX12_clicks_181 : decode cX12_clicks 181 = .ok (.imul, 1) := by decide +kernel
theorem dX12_clicks_182 : decode cX12_clicks 182 = .ok (.iload 5, 2) := by decide +kernel
theorem dX12_clicks_184 : decode cX12_clicks 184 = .ok (.iadd, 1) := by decide +kernel
theorem dX12_clicks_185 : decode cX12_clicks 185 = .ok (.iaload, 1) := by decide +kernel
theorem dX12_clicks_186 : decode cX12_clicks 186 = .ok (.iaload, 1) := by decide +kernel
theorem dX12_clicks_187 : decode cX12_clicks 187 = .ok (.ifCond .lt 7, 3) := by decide +kernel
theorem dX12_clicks_190 : decode cX12_clicks 190 = .ok (.iconst 1, 1) := by decide +kernel
theorem dX12_clicks_191 : decode cX12_clicks 191 = .ok (.goto 4, 3) := by decide +kernel
theorem dX12_clicks_194 : decode cX12_clicks 194 = .ok (.iconst 0, 1) := by decide +kernel
theorem dX12_clicks_195 : decode cX12_clicks 195 = .ok (.istore 4, 2) := by decide +kernel
theorem dX12_clicks_197 : decode cX12_clicks 197 = .ok (.iinc 5 1, 3) := by decide +kernel
theorem dX12_clicks_200 : decode cX12_clicks 200 = .ok (.goto (-46), 3) := by decide +kernel
theorem dX12_clicks_203 : decode cX12_clicks 203 = .ok (.iload_n 1, 1) := by decide +kernel
theorem dX12_clicks_204 : decode cX12_clicks 204 = .ok (.aload_n 0, 1) := by decide +kernel
theorem dX12_clicks_205 : decode cX12_clicks 205 = .ok (.getfield 76, 3) := by decide +kernel
theorem dX12_clicks_208 : decode cX12_clicks 208 = .ok (.iload_n 3, 1) := by decide +kernel
theorem dX12_clicks_209 : decode cX12_clicks 209 = .ok (.iaload, 1) := by decide +kernel
theorem dX12_clicks_210 : decode cX12_clicks 210 = .ok (.iload_n 3, 1) := by decide +kernel
theorem dX12_clicks_211 : decode cX12_clicks 211 = .ok (.if_icmp .eq 34, 3) := by decide +kernel
theorem dX12_clicks_214 : decode cX12_clicks 214 = .ok (.aload_n 0, 1) := by decide +kernel
theorem dX12_clicks_215 : decode cX12_clicks 215 = .ok (.iload_n 3, 1) := by decide +kernel
theorem dX12_clicks_216 : decode cX12_clicks 216 = .ok (.invokevirtual 143, 3) := by decide +kernel
theorem dX12_clicks_219 : decode cX12_clicks 219 = .ok (.ifCond .eq 30, 3) := by decide +kernel
theorem dX12_clicks_222 : decode cX12_clicks 222 = .ok (.aload_n 0, 1) := by decide +kernel
theorem dX12_clicks_223 : decode cX12_clicks 223 = .ok (.getfield 16, 3) := by decide +kernel
theorem dX12_clicks_226 : decode cX12_clicks 226 = .ok (.iload_n 3, 1) := by decide +kernel
theorem dX12_clicks_227 : decode cX12_clicks 227 = .ok (.baload, 1) := by decide +kernel
theorem dX12_clicks_228 : decode cX12_clicks 228 = .ok (.ifCond .ne 21, 3) := by decide +kernel
theorem dX12_clicks_231 : decode cX12_clicks 231 = .ok (.aload_n 0, 1) := by decide +kernel
theorem dX12_clicks_232 : decode cX12_clicks 232 = .ok (.getfield 76, 3) := by decide +kernel
theorem dX12_clicks_235 : decode cX12_clicks 235 = .ok (.iload_n 3, 1) := by decide +kernel
theorem dX12_clicks_236 : decode cX12_clicks 236 = .ok (.iaload, 1) := by decide +kernel
theorem dX12_clicks_237 : decode cX12_clicks 237 = .ok (.ifCond .ge 12, 3) := by decide +kernel
theorem dX12_clicks_240 : decode cX12_clicks 240 = .ok (.iload 4, 2) := by decide +kernel
theorem dX12_clicks_242 : decode cX12_clicks 242 = .ok (.ifCond .ne 7, 3) := by decide +kernel
theorem dX12_clicks_245 : decode cX12_clicks 245 = .ok (.iconst 1, 1) := by decide +kernel
theorem dX12_clicks_246 : decode cX12_clicks 246 = .ok (.goto 4, 3) := by decide +kernel
theorem dX12_clicks_249 : decode cX12_clicks 249 = .ok (.iconst 0, 1) := by decide +kernel
theorem dX12_clicks_250 : decode cX12_clicks 250 = .ok (.iadd, 1) := by decide +kernel
theorem dX12_clicks_251 : decode cX12_clicks 251 = .ok (.istore_n 1, 1) := by decide +kernel
theorem dX12_clicks_252 : decode cX12_clicks 252 = .ok (.iinc 3 1, 3) := by decide +kernel
theorem dX12_clicks_255 : decode cX12_clicks 255 = .ok (.goto (-115), 3) := by decide +kernel
theorem dX12_clicks_258 : decode cX12_clicks 258 = .ok (.iload_n 1, 1) := by decide +kernel
theorem dX12_clicks_259 : decode cX12_clicks 259 = .ok (.ireturn, 1) := by decide +kernel
theorem dX12_count_0 : decode cX12_count 0 = .ok (.aload_n 0, 1) := by decide +kernel
theorem dX12_count_1 : decode cX12_count 1 = .ok (.iconst 0, 1) := by decide +kernel
theorem dX12_count_2 : decode cX12_count 2 = .ok (.putfield 79, 3) := by decide +kernel
theorem dX12_count_5 : decode cX12_count 5 = .ok (.aload_n 0, 1) := by decide +kernel
theorem dX12_count_6 : decode cX12_count 6 = .ok (.getfield 119, 3) := by decide +kernel
theorem dX12_count_9 : decode cX12_count 9 = .ok (.ifCond .ne 9, 3) := by decide +kernel
theorem dX12_count_12 : decode cX12_count 12 = .ok (.aload_n 0, 1) := by decide +kernel
theorem dX12_count_13 : decode cX12_count 13 = .ok (.iconst 1, 1) := by decide +kernel
theorem dX12_count_14 : decode cX12_count 14 = .ok (.invokevirtual 187, 3) := by decide +kernel
theorem dX12_count_17 : decode cX12_count 17 = .ok (.ireturn, 1) := by decide +kernel
theorem dX12_count_18 : decode cX12_count 18 = .ok (.iload_n 1, 1) := by decide +kernel
theorem dX12_count_19 : decode cX12_count 19 = .ok (.iconst 0, 1) := by decide +kernel
theorem dX12_count_20 : decode cX12_count 20 = .ok (.bipush 8, 2) := by decide +kernel
theorem dX12_count_22 : decode cX12_count 22 = .ok (.invokestatic 83, 3) := by decide +kernel
theorem dX12_count_25 : decode cX12_count 25 = .ok (.ifCond .ne 9, 3) := by decide +kernel
theorem dX12_count_28 : decode cX12_count 28 = .ok (.aload_n 0, 1) := by decide +kernel
theorem dX12_count_29 : decode cX12_count 29 = .ok (.iconst 2, 1) := by decide +kernel
theorem dX12_count_30 : decode cX12_count 30 = .ok (.invokevirtual 187, 3) := by decide +kernel
theorem dX12_count_33 : decode cX12_count 33 = .ok (.ireturn, 1) := by decide +kernel
theorem dX12_count_34 : decode cX12_count 34 = .ok (.iload_n 1, 1) := by decide +kernel
theorem dX12_count_35 : decode cX12_count 35 = .ok (.iconst 3, 1) := by decide +kernel
theorem dX12_count_36 : decode cX12_count 36 = .ok (.if_icmp .ge 31, 3) := by decide +kernel
theorem dX12_count_39 : decode cX12_count 39 = .ok (.iload_n 1, 1) := by decide +kernel
theorem dX12_count_40 : decode cX12_count 40 = .ok (.ifCond .ne 10, 3) := by decide +kernel
theorem dX12_count_43 : decode cX12_count 43 = .ok (.aload_n 0, 1) := by decide +kernel
theorem dX12_count_44 : decode cX12_count 44 = .ok (.getfield 97, 3) := by decide +kernel
theorem dX12_count_47 : decode cX12_count 47 = .ok (.goto 19, 3) := by decide +kernel
theorem dX12_count_50 : decode cX12_count 50 = .ok (.iload_n 1, 1) := by decide +kernel
theorem dX12_count_51 : decode cX12_count 51 = .ok (.iconst 1, 1) := by decide +kernel
theorem dX12_count_52 : decode cX12_count 52 = .ok (.if_icmp .ne 10, 3) := by decide +kernel
theorem dX12_count_55 : decode cX12_count 55 = .ok (.aload_n 0, 1) := by decide +kernel
theorem dX12_count_56 : decode cX12_count 56 = .ok (.getfield 87, 3) := by decide +kernel
theorem dX12_count_59 : decode cX12_count 59 = .ok (.goto 7, 3) := by decide +kernel
theorem dX12_count_62 : decode cX12_count 62 = .ok (.aload_n 0, 1) := by decide +kernel
theorem dX12_count_63 : decode cX12_count 63 = .ok (.invokevirtual 132, 3) := by decide +kernel
theorem dX12_count_66 : decode cX12_count 66 = .ok (.ireturn, 1) := by decide +kernel
theorem dX12_count_67 : decode cX12_count 67 = .ok (.iload_n 1, 1) := by decide +kernel
theorem dX12_count_68 : decode cX12_count 68 = .ok (.bipush 6, 2) := by decide +kernel
theorem dX12_count_70 : decode cX12_count 70 = .ok (.if_icmp .ge 34, 3) := by decide +kernel
theorem dX12_count_73 : decode cX12_count 73 = .ok (.iload_n 1, 1) := by decide +kernel
theorem dX12_count_74 : decode cX12_count 74 = .ok (.iconst 3, 1) := by decide +kernel
theorem dX12_count_75 : decode cX12_count 75 = .ok (.if_icmp .ne 11, 3) := by decide +kernel
theorem dX12_count_78 : decode cX12_count 78 = .ok (.aload_n 0, 1) := by decide +kernel
theorem dX12_count_79 : decode cX12_count 79 = .ok (.iconst 1, 1) := by decide +kernel
theorem dX12_count_80 : decode cX12_count 80 = .ok (.invokevirtual 136, 3) := by decide +kernel
theorem dX12_count_83 : decode cX12_count 83 = .ok (.goto 20, 3) := by decide +kernel
theorem dX12_count_86 : decode cX12_count 86 = .ok (.iload_n 1, 1) := by decide +kernel
theorem dX12_count_87 : decode cX12_count 87 = .ok (.iconst 4, 1) := by decide +kernel
theorem dX12_count_88 : decode cX12_count 88 = .ok (.if_icmp .ne 11, 3) := by decide +kernel
theorem dX12_count_91 : decode cX12_count 91 = .ok (.aload_n 0, 1) := by decide +kernel
theorem dX12_count_92 : decode cX12_count 92 = .ok (.iconst 2, 1) := by decide +kernel
theorem dX12_count_93 : decode cX12_count 93 = .ok (.invokevirtual 136, 3) := by decide +kernel
theorem dX12_count_96 : decode cX12_count 96 = .ok (.goto 7, 3) := by decide +kernel
theorem dX12_count_99 : decode cX12_count 99 = .ok (.aload_n 0, 1) := by decide +kernel
theorem dX12_count_100 : decode cX12_count 100 = .ok (.getfield 113, 3) := by decide +kernel
theorem dX12_count_103 : decode cX12_count 103 = .ok (.ireturn, 1) := by decide +kernel
theorem dX12_count_104 : decode cX12_count 104 = .ok (.iload_n 1, 1) := by decide +kernel
theorem dX12_count_105 : decode cX12_count 105 = .ok (.bipush 6, 2) := by decide +kernel
theorem dX12_count_107 : decode cX12_count 107 = .ok (.if_icmp .ne 10, 3) := by decide +kernel
theorem dX12_count_110 : decode cX12_count 110 = .ok (.aload_n 0, 1) := by decide +kernel
theorem dX12_count_111 : decode cX12_count 111 = .ok (.getfield 110, 3) := by decide +kernel
theorem dX12_count_114 : decode cX12_count 114 = .ok (.goto 28, 3) := by decide +kernel
theorem dX12_count_117 : decode cX12_count 117 = .ok (.iload_n 1, 1) := by decide +kernel
theorem dX12_count_118 : decode cX12_count 118 = .ok (.bipush 7, 2) := by decide +kernel
theorem dX12_count_120 : decode cX12_count 120 = .ok (.if_icmp .ne 18, 3) := by decide +kernel
theorem dX12_count_123 : decode cX12_count 123 = .ok (.aload_n 0, 1) := by decide +kernel
theorem dX12_count_124 : decode cX12_count 124 = .ok (.invokevirtual 162, 3) := by decide +kernel
theorem dX12_count_127 : decode cX12_count 127 = .ok (.ifCond .eq 7, 3) := by decide +kernel
theorem dX12_count_130 : decode cX12_count 130 = .ok (.iconst 1, 1) := by decide +kernel
theorem dX12_count_131 : decode cX12_count 131 = .ok (.goto 11, 3) := by decide +kernel
theorem dX12_count_134 : decode cX12_count 134 = .ok (.iconst 0, 1) := by decide +kernel
theorem dX12_count_135 : decode cX12_count 135 = .ok (.goto 7, 3) := by decide +kernel
theorem dX12_count_138 : decode cX12_count 138 = .ok (.aload_n 0, 1) := by decide +kernel
theorem dX12_count_139 : decode cX12_count 139 = .ok (.invokevirtual 369, 3) := by decide +kernel
theorem dX12_count_142 : decode cX12_count 142 = .ok (.ireturn, 1) := by decide +kernel
theorem q_X12_copy : yX12_copy.cls = RX12 ∧ yX12_copy.cls ≠ "java/lang/invoke/MethodHandle" ∧ yX12_copy.cls ≠ "java/lang/invoke/VarHandle" ∧ (parseMethodDescriptor yX12_copy.desc).map (fun d => d.parameters.length) = some 2 := ⟨rfl, by decide, by decide, by decide +kernel⟩
theorem q_X12_settle : yX12_settle.cls = RX12 ∧ yX12_settle.cls ≠ "java/lang/invoke/MethodHandle" ∧ yX12_settle.cls ≠ "java/lang/invoke/VarHandle" ∧ (parseMethodDescriptor yX12_settle.desc).map (fun d => d.parameters.length) = some 1 := ⟨rfl, by decide, by decide, by decide +kernel⟩
theorem q_X12_add : yX12_add.cls = RX12 ∧ yX12_add.cls ≠ "java/lang/invoke/MethodHandle" ∧ yX12_add.cls ≠ "java/lang/invoke/VarHandle" ∧ (parseMethodDescriptor yX12_add.desc).map (fun d => d.parameters.length) = some 3 := ⟨rfl, by decide, by decide, by decide +kernel⟩
theorem q_X12_put : yX12_put.cls = RX12 ∧ yX12_put.cls ≠ "java/lang/invoke/MethodHandle" ∧ yX12_put.cls ≠ "java/lang/invoke/VarHandle" ∧ (parseMethodDescriptor yX12_put.desc).map (fun d => d.parameters.length) = some 2 := ⟨rfl, by decide, by decide, by decide +kernel⟩
theorem q_X12_multiplyParts : yX12_multiplyParts.cls = RX12 ∧ yX12_multiplyParts.cls ≠ "java/lang/invoke/MethodHandle" ∧ yX12_multiplyParts.cls ≠ "java/lang/invoke/VarHandle" ∧ (parseMethodDescriptor yX12_multiplyParts.desc).map (fun d => d.parameters.length) = some 1 := ⟨rfl, by decide, by decide, by decide +kernel⟩
theorem q_X12_choose : yX12_choose.cls = RX12 ∧ yX12_choose.cls ≠ "java/lang/invoke/MethodHandle" ∧ yX12_choose.cls ≠ "java/lang/invoke/VarHandle" ∧ (parseMethodDescriptor yX12_choose.desc).map (fun d => d.parameters.length) = some 1 := ⟨rfl, by decide, by decide, by decide +kernel⟩
theorem q_X12_addProduct : yX12_addProduct.cls = RX12 ∧ yX12_addProduct.cls ≠ "java/lang/invoke/MethodHandle" ∧ yX12_addProduct.cls ≠ "java/lang/invoke/VarHandle" ∧ (parseMethodDescriptor yX12_addProduct.desc).map (fun d => d.parameters.length) = some 3 := ⟨rfl, by decide, by decide, by decide +kernel⟩
theorem q_X12_sumUp : yX12_sumUp.cls = RX12 ∧ yX12_sumUp.cls ≠ "java/lang/invoke/MethodHandle" ∧ yX12_sumUp.cls ≠ "java/lang/invoke/VarHandle" ∧ (parseMethodDescriptor yX12_sumUp.desc).map (fun d => d.parameters.length) = some 3 := ⟨rfl, by decide, by decide, by decide +kernel⟩
theorem q_X12_countAll : yX12_countAll.cls = RX12 ∧ yX12_countAll.cls ≠ "java/lang/invoke/MethodHandle" ∧ yX12_countAll.cls ≠ "java/lang/invoke/VarHandle" ∧ (parseMethodDescriptor yX12_countAll.desc).map (fun d => d.parameters.length) = some 0 := ⟨rfl, by decide, by decide, by decide +kernel⟩
theorem q_X12_ways : yX12_ways.cls = RX12 ∧ yX12_ways.cls ≠ "java/lang/invoke/MethodHandle" ∧ yX12_ways.cls ≠ "java/lang/invoke/VarHandle" ∧ (parseMethodDescriptor yX12_ways.desc).map (fun d => d.parameters.length) = some 0 := ⟨rfl, by decide, by decide, by decide +kernel⟩
theorem q_X12_isNothing : yX12_isNothing.cls = RX12 ∧ yX12_isNothing.cls ≠ "java/lang/invoke/MethodHandle" ∧ yX12_isNothing.cls ≠ "java/lang/invoke/VarHandle" ∧ (parseMethodDescriptor yX12_isNothing.desc).map (fun d => d.parameters.length) = some 1 := ⟨rfl, by decide, by decide, by decide +kernel⟩
theorem q_X12_hasShare : yX12_hasShare.cls = RX12 ∧ yX12_hasShare.cls ≠ "java/lang/invoke/MethodHandle" ∧ yX12_hasShare.cls ≠ "java/lang/invoke/VarHandle" ∧ (parseMethodDescriptor yX12_hasShare.desc).map (fun d => d.parameters.length) = some 1 := ⟨rfl, by decide, by decide, by decide +kernel⟩
theorem q_X12_twice : yX12_twice.cls = RX12 ∧ yX12_twice.cls ≠ "java/lang/invoke/MethodHandle" ∧ yX12_twice.cls ≠ "java/lang/invoke/VarHandle" ∧ (parseMethodDescriptor yX12_twice.desc).map (fun d => d.parameters.length) = some 1 := ⟨rfl, by decide, by decide, by decide +kernel⟩
theorem q_X12_compare : yX12_compare.cls = RX12 ∧ yX12_compare.cls ≠ "java/lang/invoke/MethodHandle" ∧ yX12_compare.cls ≠ "java/lang/invoke/VarHandle" ∧ (parseMethodDescriptor yX12_compare.desc).map (fun d => d.parameters.length) = some 2 := ⟨rfl, by decide, by decide, by decide +kernel⟩
theorem q_X12_take : yX12_take.cls = RX12 ∧ yX12_take.cls ≠ "java/lang/invoke/MethodHandle" ∧ yX12_take.cls ≠ "java/lang/invoke/VarHandle" ∧ (parseMethodDescriptor yX12_take.desc).map (fun d => d.parameters.length) = some 2 := ⟨rfl, by decide, by decide, by decide +kernel⟩
theorem q_X12_divideBy : yX12_divideBy.cls = RX12 ∧ yX12_divideBy.cls ≠ "java/lang/invoke/MethodHandle" ∧ yX12_divideBy.cls ≠ "java/lang/invoke/VarHandle" ∧ (parseMethodDescriptor yX12_divideBy.desc).map (fun d => d.parameters.length) = some 2 := ⟨rfl, by decide, by decide, by decide +kernel⟩
theorem q_X12_reduce : yX12_reduce.cls = RX12 ∧ yX12_reduce.cls ≠ "java/lang/invoke/MethodHandle" ∧ yX12_reduce.cls ≠ "java/lang/invoke/VarHandle" ∧ (parseMethodDescriptor yX12_reduce.desc).map (fun d => d.parameters.length) = some 0 := ⟨rfl, by decide, by decide, by decide +kernel⟩
theorem q_X12_share : yX12_share.cls = RX12 ∧ yX12_share.cls ≠ "java/lang/invoke/MethodHandle" ∧ yX12_share.cls ≠ "java/lang/invoke/VarHandle" ∧ (parseMethodDescriptor yX12_share.desc).map (fun d => d.parameters.length) = some 4 := ⟨rfl, by decide, by decide, by decide +kernel⟩
theorem q_X12_permille : yX12_permille.cls = RX12 ∧ yX12_permille.cls ≠ "java/lang/invoke/MethodHandle" ∧ yX12_permille.cls ≠ "java/lang/invoke/VarHandle" ∧ (parseMethodDescriptor yX12_permille.desc).map (fun d => d.parameters.length) = some 2 := ⟨rfl, by decide, by decide, by decide +kernel⟩
theorem q_X12_isQuiet : yX12_isQuiet.cls = RX12 ∧ yX12_isQuiet.cls ≠ "java/lang/invoke/MethodHandle" ∧ yX12_isQuiet.cls ≠ "java/lang/invoke/VarHandle" ∧ (parseMethodDescriptor yX12_isQuiet.desc).map (fun d => d.parameters.length) = some 1 := ⟨rfl, by decide, by decide, by decide +kernel⟩
theorem q_X12_clicks : yX12_clicks.cls = RX12 ∧ yX12_clicks.cls ≠ "java/lang/invoke/MethodHandle" ∧ yX12_clicks.cls ≠ "java/lang/invoke/VarHandle" ∧ (parseMethodDescriptor yX12_clicks.desc).map (fun d => d.parameters.length) = some 0 := ⟨rfl, by decide, by decide, by decide +kernel⟩
theorem q_X12_count : yX12_count.cls = RX12 ∧ yX12_count.cls ≠ "java/lang/invoke/MethodHandle" ∧ yX12_count.cls ≠ "java/lang/invoke/VarHandle" ∧ (parseMethodDescriptor yX12_count.desc).map (fun d => d.parameters.length) = some 1 := ⟨rfl, by decide, by decide, by decide +kernel⟩
def P_X12_copy (post : (Int → Int64) → Prop) (M_big : Int → Int64) (x1 : Int) (x2 : Int) : Prop :=
  ∃ Inv_1 : Nat → (Int) → (Int → Int64) → Prop, (∃ n_2 : Nat, Inv_1 n_2 0 M_big) ∧ ∀ (n_3 : Nat) (x3_6 : Int) (M_big_7 : Int → Int64), inR x3_6 → Inv_1 n_3 x3_6 M_big_7 → ((6 ≤ x3_6 → (post M_big_7)) ∧ (¬ 6 ≤ x3_6 → ((0 ≤ ((6 * x1) + x3_6) ∧ ((6 * x1) + x3_6) < 2700) ∧ (∀ v_10 : Int64, v_10 = M_big_7 ((6 * x1) + x3_6) → ((0 ≤ ((6 * x2) + x3_6) ∧ ((6 * x2) + x3_6) < 2700) ∧ (∀ M_big_12 : Int → Int64, M_big_12 = upZ M_big_7 ((6 * x2) + x3_6) v_10 → (inR (x3_6 + 1) ∧ (∀ x3_14 : Int, x3_14 = (x3_6 + 1) → (∃ n_15 : Nat, n_15 < n_3 ∧ Inv_1 n_15 x3_14 M_big_12)))))))))
set_option maxRecDepth 100000 in
set_option maxHeartbeats 4000000 in
theorem c_X12_copy (l : Launch) (K : wK) (ad : Nat → Nat) {M_thrown : Int} {M_w : Int} {M_h : Int} {M_cells : Int} {M_shape : Int} {M_isBoard : Int} {M_isBlank : Int} {M_lives : Int} {M_moves : Int} {M_parts : Int} {M_numbers : Int} {M_grade : Int} {M_reasons : Int} {M_total : Int} {M_near : Int → Int} {M_degree : Int → Int} {M_mine : Int → Int} {M_state : Int → Int} {M_history : Int → Int64} {M_oldLives : Int → Int} {M_safe : Int → Int} {M_mined : Int → Int} {M_used : Int → Int} {M_partOf : Int → Int} {M_placeOf : Int → Int} {M_partSize : Int → Int} {M_ways : Int → Int} {M_with : Int → Int} {M_masks : Int → Int} {M_rests : Int → Int} {M_bits : Int → Int} {M_reach : Int → Int} {M_more : Int → Int} {M_reason : Int → Int} {M_big : Int → Int64} {M_region : Int → Int} (x1 : Int) (x2 : Int) (rx1 : inR x1) (rx2 : inR x2) (post : (Int → Int64) → Prop) (h : P_X12_copy post M_big x1 x2) : mV l yX12_copy (Cond.code yX12_copy cX12_copy 4 none :: GT) ({ frames := 2, cells := 0, slots := 0, locals := 120 } : Room) [.ref (ad 0), .int (iI x1), .int (iI x2)] K ad (mW M_thrown M_w M_h M_cells M_shape M_isBoard M_isBlank M_lives M_moves M_parts M_numbers M_grade M_reasons M_total M_near M_degree M_mine M_state M_history M_oldLives M_safe M_mined M_used M_partOf M_placeOf M_partSize M_ways M_with M_masks M_rests M_bits M_reach M_more M_reason M_big M_region) (fun u9 => ∃ M_big9, u9 = (mW M_thrown M_w M_h M_cells M_shape M_isBoard M_isBlank M_lives M_moves M_parts M_numbers M_grade M_reasons M_total M_near M_degree M_mine M_state M_history M_oldLives M_safe M_mined M_used M_partOf M_placeOf M_partSize M_ways M_with M_masks M_rests M_bits M_reach M_more M_reason M_big9 M_region) ∧ post M_big9) := by
  refine mV_of (lv0 := [(0, .ref (ad 0)), (1, .int (iI x1)), (2, .int (iI x2))]) (by decide) (Nat.le_of_ble_eq_true rfl) rfl ?_
  intro p e s m args below meth c Q A C ret
  replace C : Cx p ({ frames := 2, cells := 0, slots := 0, locals := 120 } : Room) m c 0 0 cX12_copy 4 s args RX12 K A := C
  unfold P_X12_copy at h
  refine wa_iconst C (z := 0) dX12_copy_0 rfl ?_
  refine wa_istore_n C dX12_copy_1 rfl (by decide) rfl ?_
  obtain ⟨Inv_1, ⟨n_2, h0Inv_1⟩, hInv_1⟩ := h
  have k_5 : ∀ (n_3 : Nat) (x3_6 : Int) (M_big_7 : Int → Int64), inR x3_6 → Inv_1 n_3 x3_6 M_big_7 → WA p l e ({ frames := 2, cells := 0, slots := 0, locals := 120 } : Room) s m args below meth c 0 0 Q K ad 4 A 2 [(0, .ref (ad 0)), (1, .int (iI x1)), (2, .int (iI x2)), (3, .int (iI x3_6))] [] (mW M_thrown M_w M_h M_cells M_shape M_isBoard M_isBlank M_lives M_moves M_parts M_numbers M_grade M_reasons M_total M_near M_degree M_mine M_state M_history M_oldLives M_safe M_mined M_used M_partOf M_placeOf M_partSize M_ways M_with M_masks M_rests M_bits M_reach M_more M_reason M_big_7 M_region) := by
    intro n_3
    induction n_3 using Nat.strongRecOn with
    | ind n_3 ih_4 =>
      intro x3_6 M_big_7 rx3_6 h
      replace h := hInv_1 n_3 x3_6 M_big_7 rx3_6 h
      refine wa_iload_n C 3 rfl dX12_copy_2 rfl ?_
      refine wa_bipush C (z := 6) dX12_copy_3 (by decide) ?_
      refine wa_icmp_ge C (tgt := 36) rx3_6 (inR_k 6 rfl) dX12_copy_5 (by decide) (fun c_8 => ?_) (fun c_8 => ?_)
      · replace h := h.1 c_8
        exact ret dX12_copy_36 ⟨_, rfl, h⟩
      · replace h := h.2 c_8
        refine wa_aload_n C 0 rfl dX12_copy_8 rfl ?_
        refine wa_getR C 0 34 mW_0 rfl rfl (by decide) okX12 gw_1266 dX12_copy_9 ?_
        refine wa_bipush C (z := 6) dX12_copy_12 (by decide) ?_
        refine wa_iload_n C 2 rfl dX12_copy_14 rfl ?_
        refine wa_imul C dX12_copy_15 ?_
        refine wa_iload_n C 3 rfl dX12_copy_16 rfl ?_
        refine wa_iadd C dX12_copy_17 ?_
        refine wa_aload_n C 0 rfl dX12_copy_18 rfl ?_
        refine wa_getR C 0 34 mW_0 rfl rfl (by decide) okX12 gw_1266 dX12_copy_19 ?_
        refine wa_bipush C (z := 6) dX12_copy_22 (by decide) ?_
        refine wa_iload_n C 1 rfl dX12_copy_24 rfl ?_
        refine wa_imul C dX12_copy_25 ?_
        refine wa_iload_n C 3 rfl dX12_copy_26 rfl ?_
        refine wa_iadd C dX12_copy_27 ?_
        obtain ⟨t_9, h⟩ := h
        refine wa_lald C 21 mW_21 dX12_copy_28 t_9.1 t_9.2 (fun v_10 ev_10 => ?_)
        replace h := h v_10 ev_10
        obtain ⟨t_11, h⟩ := h
        refine wa_last C (ws' := fun w9 => (mW M_thrown M_w M_h M_cells M_shape M_isBoard M_isBlank M_lives M_moves M_parts M_numbers M_grade M_reasons M_total M_near M_degree M_mine M_state M_history M_oldLives M_safe M_mined M_used M_partOf M_placeOf M_partSize M_ways M_with M_masks M_rests M_bits M_reach M_more M_reason w9 M_region)) 21 mW_21 dX12_copy_29 t_11.1 t_11.2 mWs_21 (fun M_big_12 eM_big_12 => ?_)
        replace h := h M_big_12 eM_big_12
        obtain ⟨r_13, h⟩ := h
        refine wa_iinc C (lv' := fun w9 => [(3, .int (iI w9)), (0, .ref (ad 0)), (1, .int (iI x1)), (2, .int (iI x2))]) 3 rfl dX12_copy_30 (by decide) (fun _ => rfl) (fun x3_14 ex3_14 => ?_)
        replace h := h x3_14 ex3_14
        have rx3_14 : inR x3_14 := by rw [ex3_14]; exact r_13
        refine wa_goto C (tgt := 2) dX12_copy_33 (by decide) ?_
        obtain ⟨n_15, ln_15, h⟩ := h
        refine wa_sub C [1, 2, 3, 0] rfl ?_
        exact ih_4 n_15 ln_15 x3_14 M_big_12 rx3_14 h
  refine wa_sub C [1, 2, 3, 0] rfl ?_
  exact k_5 n_2 0 M_big (inR_k 0 rfl) h0Inv_1
def P_X12_settle (post : (Int → Int64) → Prop) (M_big : Int → Int64) (x1 : Int) : Prop :=
  ∃ Inv_1 : Nat → (Int) → (Int → Int64) → Prop, (∃ n_2 : Nat, Inv_1 n_2 0 M_big) ∧ ∀ (n_3 : Nat) (x2_6 : Int) (M_big_7 : Int → Int64), inR x2_6 → Inv_1 n_3 x2_6 M_big_7 → ((5 ≤ x2_6 → (post M_big_7)) ∧ (¬ 5 ≤ x2_6 → ((0 ≤ (((6 * x1) + x2_6) + 1) ∧ (((6 * x1) + x2_6) + 1) < 2700) ∧ (∀ v_10 : Int64, v_10 = M_big_7 (((6 * x1) + x2_6) + 1) → ((0 ≤ ((6 * x1) + x2_6) ∧ ((6 * x1) + x2_6) < 2700) ∧ (∀ v_12 : Int64, v_12 = M_big_7 ((6 * x1) + x2_6) → ((0 ≤ (((6 * x1) + x2_6) + 1) ∧ (((6 * x1) + x2_6) + 1) < 2700) ∧ (∀ M_big_14 : Int → Int64, M_big_14 = upZ M_big_7 (((6 * x1) + x2_6) + 1) (v_10 + (shrL v_12 31)) → ((0 ≤ ((6 * x1) + x2_6) ∧ ((6 * x1) + x2_6) < 2700) ∧ (∀ v_16 : Int64, v_16 = M_big_14 ((6 * x1) + x2_6) → ((0 ≤ ((6 * x1) + x2_6) ∧ ((6 * x1) + x2_6) < 2700) ∧ (∀ M_big_18 : Int → Int64, M_big_18 = upZ M_big_14 ((6 * x1) + x2_6) (v_16 &&& (2147483647 : Int64)) → (inR (x2_6 + 1) ∧ (∀ x2_20 : Int, x2_20 = (x2_6 + 1) → (∃ n_21 : Nat, n_21 < n_3 ∧ Inv_1 n_21 x2_20 M_big_18)))))))))))))))
set_option maxRecDepth 100000 in
set_option maxHeartbeats 4000000 in
theorem c_X12_settle (l : Launch) (K : wK) (ad : Nat → Nat) {M_thrown : Int} {M_w : Int} {M_h : Int} {M_cells : Int} {M_shape : Int} {M_isBoard : Int} {M_isBlank : Int} {M_lives : Int} {M_moves : Int} {M_parts : Int} {M_numbers : Int} {M_grade : Int} {M_reasons : Int} {M_total : Int} {M_near : Int → Int} {M_degree : Int → Int} {M_mine : Int → Int} {M_state : Int → Int} {M_history : Int → Int64} {M_oldLives : Int → Int} {M_safe : Int → Int} {M_mined : Int → Int} {M_used : Int → Int} {M_partOf : Int → Int} {M_placeOf : Int → Int} {M_partSize : Int → Int} {M_ways : Int → Int} {M_with : Int → Int} {M_masks : Int → Int} {M_rests : Int → Int} {M_bits : Int → Int} {M_reach : Int → Int} {M_more : Int → Int} {M_reason : Int → Int} {M_big : Int → Int64} {M_region : Int → Int} (x1 : Int) (rx1 : inR x1) (post : (Int → Int64) → Prop) (h : P_X12_settle post M_big x1) : mV l yX12_settle (Cond.code yX12_settle cX12_settle 3 none :: GT) ({ frames := 2, cells := 0, slots := 0, locals := 120 } : Room) [.ref (ad 0), .int (iI x1)] K ad (mW M_thrown M_w M_h M_cells M_shape M_isBoard M_isBlank M_lives M_moves M_parts M_numbers M_grade M_reasons M_total M_near M_degree M_mine M_state M_history M_oldLives M_safe M_mined M_used M_partOf M_placeOf M_partSize M_ways M_with M_masks M_rests M_bits M_reach M_more M_reason M_big M_region) (fun u9 => ∃ M_big9, u9 = (mW M_thrown M_w M_h M_cells M_shape M_isBoard M_isBlank M_lives M_moves M_parts M_numbers M_grade M_reasons M_total M_near M_degree M_mine M_state M_history M_oldLives M_safe M_mined M_used M_partOf M_placeOf M_partSize M_ways M_with M_masks M_rests M_bits M_reach M_more M_reason M_big9 M_region) ∧ post M_big9) := by
  refine mV_of (lv0 := [(0, .ref (ad 0)), (1, .int (iI x1))]) (by decide) (Nat.le_of_ble_eq_true rfl) rfl ?_
  intro p e s m args below meth c Q A C ret
  replace C : Cx p ({ frames := 2, cells := 0, slots := 0, locals := 120 } : Room) m c 0 0 cX12_settle 3 s args RX12 K A := C
  unfold P_X12_settle at h
  refine wa_iconst C (z := 0) dX12_settle_0 rfl ?_
  refine wa_istore_n C dX12_settle_1 rfl (by decide) rfl ?_
  obtain ⟨Inv_1, ⟨n_2, h0Inv_1⟩, hInv_1⟩ := h
  have k_5 : ∀ (n_3 : Nat) (x2_6 : Int) (M_big_7 : Int → Int64), inR x2_6 → Inv_1 n_3 x2_6 M_big_7 → WA p l e ({ frames := 2, cells := 0, slots := 0, locals := 120 } : Room) s m args below meth c 0 0 Q K ad 3 A 2 [(0, .ref (ad 0)), (1, .int (iI x1)), (2, .int (iI x2_6))] [] (mW M_thrown M_w M_h M_cells M_shape M_isBoard M_isBlank M_lives M_moves M_parts M_numbers M_grade M_reasons M_total M_near M_degree M_mine M_state M_history M_oldLives M_safe M_mined M_used M_partOf M_placeOf M_partSize M_ways M_with M_masks M_rests M_bits M_reach M_more M_reason M_big_7 M_region) := by
    intro n_3
    induction n_3 using Nat.strongRecOn with
    | ind n_3 ih_4 =>
      intro x2_6 M_big_7 rx2_6 h
      replace h := hInv_1 n_3 x2_6 M_big_7 rx2_6 h
      refine wa_iload_n C 2 rfl dX12_settle_2 rfl ?_
      refine wa_iconst C (z := 5) dX12_settle_3 rfl ?_
      refine wa_icmp_ge C (tgt := 60) rx2_6 (inR_k 5 rfl) dX12_settle_4 (by decide) (fun c_8 => ?_) (fun c_8 => ?_)
      · replace h := h.1 c_8
        exact ret dX12_settle_60 ⟨_, rfl, h⟩
      · replace h := h.2 c_8
        refine wa_aload_n C 0 rfl dX12_settle_7 rfl ?_
        refine wa_getR C 0 34 mW_0 rfl rfl (by decide) okX12 gw_1266 dX12_settle_8 ?_
        refine wa_bipush C (z := 6) dX12_settle_11 (by decide) ?_
        refine wa_iload_n C 1 rfl dX12_settle_13 rfl ?_
        refine wa_imul C dX12_settle_14 ?_
        refine wa_iload_n C 2 rfl dX12_settle_15 rfl ?_
        refine wa_iadd C dX12_settle_16 ?_
        refine wa_iconst C (z := 1) dX12_settle_17 rfl ?_
        refine wa_iadd C dX12_settle_18 ?_
        refine wa_dup2 C dX12_settle_19 rfl rfl ?_
        obtain ⟨t_9, h⟩ := h
        refine wa_lald C 21 mW_21 dX12_settle_20 t_9.1 t_9.2 (fun v_10 ev_10 => ?_)
        replace h := h v_10 ev_10
        refine wa_aload_n C 0 rfl dX12_settle_21 rfl ?_
        refine wa_getR C 0 34 mW_0 rfl rfl (by decide) okX12 gw_1266 dX12_settle_22 ?_
        refine wa_bipush C (z := 6) dX12_settle_25 (by decide) ?_
        refine wa_iload_n C 1 rfl dX12_settle_27 rfl ?_
        refine wa_imul C dX12_settle_28 ?_
        refine wa_iload_n C 2 rfl dX12_settle_29 rfl ?_
        refine wa_iadd C dX12_settle_30 ?_
        obtain ⟨t_11, h⟩ := h
        refine wa_lald C 21 mW_21 dX12_settle_31 t_11.1 t_11.2 (fun v_12 ev_12 => ?_)
        replace h := h v_12 ev_12
        refine wa_bipush C (z := 31) dX12_settle_32 (by decide) ?_
        refine wa_lshr C dX12_settle_34 ?_
        refine wa_ladd C dX12_settle_35 ?_
        obtain ⟨t_13, h⟩ := h
        refine wa_last C (ws' := fun w9 => (mW M_thrown M_w M_h M_cells M_shape M_isBoard M_isBlank M_lives M_moves M_parts M_numbers M_grade M_reasons M_total M_near M_degree M_mine M_state M_history M_oldLives M_safe M_mined M_used M_partOf M_placeOf M_partSize M_ways M_with M_masks M_rests M_bits M_reach M_more M_reason w9 M_region)) 21 mW_21 dX12_settle_36 t_13.1 t_13.2 mWs_21 (fun M_big_14 eM_big_14 => ?_)
        replace h := h M_big_14 eM_big_14
        refine wa_aload_n C 0 rfl dX12_settle_37 rfl ?_
        refine wa_getR C 0 34 mW_0 rfl rfl (by decide) okX12 gw_1266 dX12_settle_38 ?_
        refine wa_bipush C (z := 6) dX12_settle_41 (by decide) ?_
        refine wa_iload_n C 1 rfl dX12_settle_43 rfl ?_
        refine wa_imul C dX12_settle_44 ?_
        refine wa_iload_n C 2 rfl dX12_settle_45 rfl ?_
        refine wa_iadd C dX12_settle_46 ?_
        refine wa_dup2 C dX12_settle_47 rfl rfl ?_
        obtain ⟨t_15, h⟩ := h
        refine wa_lald C 21 mW_21 dX12_settle_48 t_15.1 t_15.2 (fun v_16 ev_16 => ?_)
        replace h := h v_16 ev_16
        refine wa_ldc2 C gw_1629 dX12_settle_49 ?_
        refine wa_land C dX12_settle_52 ?_
        obtain ⟨t_17, h⟩ := h
        refine wa_last C (ws' := fun w9 => (mW M_thrown M_w M_h M_cells M_shape M_isBoard M_isBlank M_lives M_moves M_parts M_numbers M_grade M_reasons M_total M_near M_degree M_mine M_state M_history M_oldLives M_safe M_mined M_used M_partOf M_placeOf M_partSize M_ways M_with M_masks M_rests M_bits M_reach M_more M_reason w9 M_region)) 21 mW_21 dX12_settle_53 t_17.1 t_17.2 mWs_21 (fun M_big_18 eM_big_18 => ?_)
        replace h := h M_big_18 eM_big_18
        obtain ⟨r_19, h⟩ := h
        refine wa_iinc C (lv' := fun w9 => [(2, .int (iI w9)), (0, .ref (ad 0)), (1, .int (iI x1))]) 2 rfl dX12_settle_54 (by decide) (fun _ => rfl) (fun x2_20 ex2_20 => ?_)
        replace h := h x2_20 ex2_20
        have rx2_20 : inR x2_20 := by rw [ex2_20]; exact r_19
        refine wa_goto C (tgt := 2) dX12_settle_57 (by decide) ?_
        obtain ⟨n_21, ln_21, h⟩ := h
        refine wa_sub C [1, 2, 0] rfl ?_
        exact ih_4 n_21 ln_21 x2_20 M_big_18 rx2_20 h
  refine wa_sub C [1, 2, 0] rfl ?_
  exact k_5 n_2 0 M_big (inR_k 0 rfl) h0Inv_1
def P_X12_add (post : (Int → Int64) → Prop) (M_big : Int → Int64) (x1 : Int) (x2 : Int) (x3 : Int64) : Prop :=
  ∃ Inv_1 : Nat → (Int) → (Int → Int64) → Prop, (∃ n_2 : Nat, Inv_1 n_2 0 M_big) ∧ ∀ (n_3 : Nat) (x5_6 : Int) (M_big_7 : Int → Int64), inR x5_6 → Inv_1 n_3 x5_6 M_big_7 → ((6 ≤ x5_6 → (P_X12_settle (fun (M_big_9 : Int → Int64) => (post M_big_9)) M_big_7 x1)) ∧ (¬ 6 ≤ x5_6 → ((0 ≤ ((6 * x1) + x5_6) ∧ ((6 * x1) + x5_6) < 2700) ∧ (∀ v_11 : Int64, v_11 = M_big_7 ((6 * x1) + x5_6) → ((0 ≤ ((6 * x2) + x5_6) ∧ ((6 * x2) + x5_6) < 2700) ∧ (∀ v_13 : Int64, v_13 = M_big_7 ((6 * x2) + x5_6) → ((0 ≤ ((6 * x1) + x5_6) ∧ ((6 * x1) + x5_6) < 2700) ∧ (∀ M_big_15 : Int → Int64, M_big_15 = upZ M_big_7 ((6 * x1) + x5_6) (v_11 + (x3 * v_13)) → (inR (x5_6 + 1) ∧ (∀ x5_17 : Int, x5_17 = (x5_6 + 1) → (∃ n_18 : Nat, n_18 < n_3 ∧ Inv_1 n_18 x5_17 M_big_15)))))))))))
set_option maxRecDepth 100000 in
set_option maxHeartbeats 4000000 in
theorem c_X12_add (l : Launch) (K : wK) (ad : Nat → Nat) {M_thrown : Int} {M_w : Int} {M_h : Int} {M_cells : Int} {M_shape : Int} {M_isBoard : Int} {M_isBlank : Int} {M_lives : Int} {M_moves : Int} {M_parts : Int} {M_numbers : Int} {M_grade : Int} {M_reasons : Int} {M_total : Int} {M_near : Int → Int} {M_degree : Int → Int} {M_mine : Int → Int} {M_state : Int → Int} {M_history : Int → Int64} {M_oldLives : Int → Int} {M_safe : Int → Int} {M_mined : Int → Int} {M_used : Int → Int} {M_partOf : Int → Int} {M_placeOf : Int → Int} {M_partSize : Int → Int} {M_ways : Int → Int} {M_with : Int → Int} {M_masks : Int → Int} {M_rests : Int → Int} {M_bits : Int → Int} {M_reach : Int → Int} {M_more : Int → Int} {M_reason : Int → Int} {M_big : Int → Int64} {M_region : Int → Int} (x1 : Int) (x2 : Int) (x3 : Int64) (rx1 : inR x1) (rx2 : inR x2) (post : (Int → Int64) → Prop) (h : P_X12_add post M_big x1 x2 x3) : mV l yX12_add (Cond.code yX12_add cX12_add 6 none :: GT) ({ frames := 3, cells := 0, slots := 0, locals := 180 } : Room) [.ref (ad 0), .int (iI x1), .int (iI x2), .long x3] K ad (mW M_thrown M_w M_h M_cells M_shape M_isBoard M_isBlank M_lives M_moves M_parts M_numbers M_grade M_reasons M_total M_near M_degree M_mine M_state M_history M_oldLives M_safe M_mined M_used M_partOf M_placeOf M_partSize M_ways M_with M_masks M_rests M_bits M_reach M_more M_reason M_big M_region) (fun u9 => ∃ M_big9, u9 = (mW M_thrown M_w M_h M_cells M_shape M_isBoard M_isBlank M_lives M_moves M_parts M_numbers M_grade M_reasons M_total M_near M_degree M_mine M_state M_history M_oldLives M_safe M_mined M_used M_partOf M_placeOf M_partSize M_ways M_with M_masks M_rests M_bits M_reach M_more M_reason M_big9 M_region) ∧ post M_big9) := by
  refine mV_of (lv0 := [(0, .ref (ad 0)), (1, .int (iI x1)), (2, .int (iI x2)), (3, .long x3)]) (by decide) (Nat.le_of_ble_eq_true rfl) rfl ?_
  intro p e s m args below meth c Q A C ret
  replace C : Cx p ({ frames := 3, cells := 0, slots := 0, locals := 180 } : Room) m c 0 0 cX12_add 6 s args RX12 K A := C
  unfold P_X12_add at h
  refine wa_iconst C (z := 0) dX12_add_0 rfl ?_
  refine wa_istore C dX12_add_1 (by decide) rfl ?_
  obtain ⟨Inv_1, ⟨n_2, h0Inv_1⟩, hInv_1⟩ := h
  have k_5 : ∀ (n_3 : Nat) (x5_6 : Int) (M_big_7 : Int → Int64), inR x5_6 → Inv_1 n_3 x5_6 M_big_7 → WA p l e ({ frames := 3, cells := 0, slots := 0, locals := 180 } : Room) s m args below meth c 0 0 Q K ad 6 A 3 [(0, .ref (ad 0)), (1, .int (iI x1)), (2, .int (iI x2)), (3, .long x3), (5, .int (iI x5_6))] [] (mW M_thrown M_w M_h M_cells M_shape M_isBoard M_isBlank M_lives M_moves M_parts M_numbers M_grade M_reasons M_total M_near M_degree M_mine M_state M_history M_oldLives M_safe M_mined M_used M_partOf M_placeOf M_partSize M_ways M_with M_masks M_rests M_bits M_reach M_more M_reason M_big_7 M_region) := by
    intro n_3
    induction n_3 using Nat.strongRecOn with
    | ind n_3 ih_4 =>
      intro x5_6 M_big_7 rx5_6 h
      replace h := hInv_1 n_3 x5_6 M_big_7 rx5_6 h
      refine wa_iload C 4 rfl dX12_add_3 ?_
      refine wa_bipush C (z := 6) dX12_add_5 (by decide) ?_
      refine wa_icmp_ge C (tgt := 45) rx5_6 (inR_k 6 rfl) dX12_add_7 (by decide) (fun c_8 => ?_) (fun c_8 => ?_)
      · replace h := h.1 c_8
        refine wa_aload_n C 0 rfl dX12_add_45 rfl ?_
        refine wa_iload_n C 1 rfl dX12_add_46 rfl ?_
        refine wa_callVv C (k := 0) (As := [.int (iI x1)]) (rest := []) (c_X12_settle l K ad x1 rx1 _ h) gw_1628 gw_1625 mW_0 rfl gw_1627 gs_105 gw_12 q_X12_settle rfl rfl rfl ⟨by decide, by decide⟩ rfl (Nat.le_of_ble_eq_true rfl) dX12_add_47 (fun u9 hp => ?_)
        obtain ⟨M_big_9, rfl, h⟩ := hp
        exact ret dX12_add_50 ⟨_, rfl, h⟩
      · replace h := h.2 c_8
        refine wa_aload_n C 0 rfl dX12_add_10 rfl ?_
        refine wa_getR C 0 34 mW_0 rfl rfl (by decide) okX12 gw_1266 dX12_add_11 ?_
        refine wa_bipush C (z := 6) dX12_add_14 (by decide) ?_
        refine wa_iload_n C 1 rfl dX12_add_16 rfl ?_
        refine wa_imul C dX12_add_17 ?_
        refine wa_iload C 4 rfl dX12_add_18 ?_
        refine wa_iadd C dX12_add_20 ?_
        refine wa_dup2 C dX12_add_21 rfl rfl ?_
        obtain ⟨t_10, h⟩ := h
        refine wa_lald C 21 mW_21 dX12_add_22 t_10.1 t_10.2 (fun v_11 ev_11 => ?_)
        replace h := h v_11 ev_11
        refine wa_lload_n C 3 rfl dX12_add_23 rfl ?_
        refine wa_aload_n C 0 rfl dX12_add_24 rfl ?_
        refine wa_getR C 0 34 mW_0 rfl rfl (by decide) okX12 gw_1266 dX12_add_25 ?_
        refine wa_bipush C (z := 6) dX12_add_28 (by decide) ?_
        refine wa_iload_n C 2 rfl dX12_add_30 rfl ?_
        refine wa_imul C dX12_add_31 ?_
        refine wa_iload C 4 rfl dX12_add_32 ?_
        refine wa_iadd C dX12_add_34 ?_
        obtain ⟨t_12, h⟩ := h
        refine wa_lald C 21 mW_21 dX12_add_35 t_12.1 t_12.2 (fun v_13 ev_13 => ?_)
        replace h := h v_13 ev_13
        refine wa_lmul C dX12_add_36 ?_
        refine wa_ladd C dX12_add_37 ?_
        obtain ⟨t_14, h⟩ := h
        refine wa_last C (ws' := fun w9 => (mW M_thrown M_w M_h M_cells M_shape M_isBoard M_isBlank M_lives M_moves M_parts M_numbers M_grade M_reasons M_total M_near M_degree M_mine M_state M_history M_oldLives M_safe M_mined M_used M_partOf M_placeOf M_partSize M_ways M_with M_masks M_rests M_bits M_reach M_more M_reason w9 M_region)) 21 mW_21 dX12_add_38 t_14.1 t_14.2 mWs_21 (fun M_big_15 eM_big_15 => ?_)
        replace h := h M_big_15 eM_big_15
        obtain ⟨r_16, h⟩ := h
        refine wa_iinc C (lv' := fun w9 => [(5, .int (iI w9)), (0, .ref (ad 0)), (1, .int (iI x1)), (2, .int (iI x2)), (3, .long x3)]) 4 rfl dX12_add_39 (by decide) (fun _ => rfl) (fun x5_17 ex5_17 => ?_)
        replace h := h x5_17 ex5_17
        have rx5_17 : inR x5_17 := by rw [ex5_17]; exact r_16
        refine wa_goto C (tgt := 3) dX12_add_42 (by decide) ?_
        obtain ⟨n_18, ln_18, h⟩ := h
        refine wa_sub C [1, 2, 3, 4, 0] rfl ?_
        exact ih_4 n_18 ln_18 x5_17 M_big_15 rx5_17 h
  refine wa_sub C [1, 2, 3, 4, 0] rfl ?_
  exact k_5 n_2 0 M_big (inR_k 0 rfl) h0Inv_1
def P_X12_put (post : (Int → Int64) → Prop) (M_big : Int → Int64) (x1 : Int) (x2 : Int64) : Prop :=
  ∃ Inv_1 : Nat → (Int) → (Int → Int64) → Prop, (∃ n_2 : Nat, Inv_1 n_2 0 M_big) ∧ ∀ (n_3 : Nat) (x4_6 : Int) (M_big_7 : Int → Int64), inR x4_6 → Inv_1 n_3 x4_6 M_big_7 → ((6 ≤ x4_6 → (post M_big_7)) ∧ (¬ 6 ≤ x4_6 → (∃ J_9 : (Int64) → Prop, ((¬ x4_6 = 0 → (J_9 (0 : Int64))) ∧ (x4_6 = 0 → (J_9 x2))) ∧ (∀ (z_11 : Int64), J_9 z_11 → ((0 ≤ ((6 * x1) + x4_6) ∧ ((6 * x1) + x4_6) < 2700) ∧ (∀ M_big_13 : Int → Int64, M_big_13 = upZ M_big_7 ((6 * x1) + x4_6) z_11 → (inR (x4_6 + 1) ∧ (∀ x4_15 : Int, x4_15 = (x4_6 + 1) → (∃ n_16 : Nat, n_16 < n_3 ∧ Inv_1 n_16 x4_15 M_big_13)))))))))
set_option maxRecDepth 100000 in
set_option maxHeartbeats 4000000 in
theorem c_X12_put (l : Launch) (K : wK) (ad : Nat → Nat) {M_thrown : Int} {M_w : Int} {M_h : Int} {M_cells : Int} {M_shape : Int} {M_isBoard : Int} {M_isBlank : Int} {M_lives : Int} {M_moves : Int} {M_parts : Int} {M_numbers : Int} {M_grade : Int} {M_reasons : Int} {M_total : Int} {M_near : Int → Int} {M_degree : Int → Int} {M_mine : Int → Int} {M_state : Int → Int} {M_history : Int → Int64} {M_oldLives : Int → Int} {M_safe : Int → Int} {M_mined : Int → Int} {M_used : Int → Int} {M_partOf : Int → Int} {M_placeOf : Int → Int} {M_partSize : Int → Int} {M_ways : Int → Int} {M_with : Int → Int} {M_masks : Int → Int} {M_rests : Int → Int} {M_bits : Int → Int} {M_reach : Int → Int} {M_more : Int → Int} {M_reason : Int → Int} {M_big : Int → Int64} {M_region : Int → Int} (x1 : Int) (x2 : Int64) (rx1 : inR x1) (post : (Int → Int64) → Prop) (h : P_X12_put post M_big x1 x2) : mV l yX12_put (Cond.code yX12_put cX12_put 5 none :: GT) ({ frames := 2, cells := 0, slots := 0, locals := 120 } : Room) [.ref (ad 0), .int (iI x1), .long x2] K ad (mW M_thrown M_w M_h M_cells M_shape M_isBoard M_isBlank M_lives M_moves M_parts M_numbers M_grade M_reasons M_total M_near M_degree M_mine M_state M_history M_oldLives M_safe M_mined M_used M_partOf M_placeOf M_partSize M_ways M_with M_masks M_rests M_bits M_reach M_more M_reason M_big M_region) (fun u9 => ∃ M_big9, u9 = (mW M_thrown M_w M_h M_cells M_shape M_isBoard M_isBlank M_lives M_moves M_parts M_numbers M_grade M_reasons M_total M_near M_degree M_mine M_state M_history M_oldLives M_safe M_mined M_used M_partOf M_placeOf M_partSize M_ways M_with M_masks M_rests M_bits M_reach M_more M_reason M_big9 M_region) ∧ post M_big9) := by
  refine mV_of (lv0 := [(0, .ref (ad 0)), (1, .int (iI x1)), (2, .long x2)]) (by decide) (Nat.le_of_ble_eq_true rfl) rfl ?_
  intro p e s m args below meth c Q A C ret
  replace C : Cx p ({ frames := 2, cells := 0, slots := 0, locals := 120 } : Room) m c 0 0 cX12_put 5 s args RX12 K A := C
  unfold P_X12_put at h
  refine wa_iconst C (z := 0) dX12_put_0 rfl ?_
  refine wa_istore C dX12_put_1 (by decide) rfl ?_
  obtain ⟨Inv_1, ⟨n_2, h0Inv_1⟩, hInv_1⟩ := h
  have k_5 : ∀ (n_3 : Nat) (x4_6 : Int) (M_big_7 : Int → Int64), inR x4_6 → Inv_1 n_3 x4_6 M_big_7 → WA p l e ({ frames := 2, cells := 0, slots := 0, locals := 120 } : Room) s m args below meth c 0 0 Q K ad 5 A 3 [(0, .ref (ad 0)), (1, .int (iI x1)), (2, .long x2), (4, .int (iI x4_6))] [] (mW M_thrown M_w M_h M_cells M_shape M_isBoard M_isBlank M_lives M_moves M_parts M_numbers M_grade M_reasons M_total M_near M_degree M_mine M_state M_history M_oldLives M_safe M_mined M_used M_partOf M_placeOf M_partSize M_ways M_with M_masks M_rests M_bits M_reach M_more M_reason M_big_7 M_region) := by
    intro n_3
    induction n_3 using Nat.strongRecOn with
    | ind n_3 ih_4 =>
      intro x4_6 M_big_7 rx4_6 h
      replace h := hInv_1 n_3 x4_6 M_big_7 rx4_6 h
      refine wa_iload C 3 rfl dX12_put_3 ?_
      refine wa_bipush C (z := 6) dX12_put_5 (by decide) ?_
      refine wa_icmp_ge C (tgt := 38) rx4_6 (inR_k 6 rfl) dX12_put_7 (by decide) (fun c_8 => ?_) (fun c_8 => ?_)
      · replace h := h.1 c_8
        exact ret dX12_put_38 ⟨_, rfl, h⟩
      · replace h := h.2 c_8
        refine wa_aload_n C 0 rfl dX12_put_10 rfl ?_
        refine wa_getR C 0 34 mW_0 rfl rfl (by decide) okX12 gw_1266 dX12_put_11 ?_
        refine wa_bipush C (z := 6) dX12_put_14 (by decide) ?_
        refine wa_iload_n C 1 rfl dX12_put_16 rfl ?_
        refine wa_imul C dX12_put_17 ?_
        refine wa_iload C 3 rfl dX12_put_18 ?_
        refine wa_iadd C dX12_put_20 ?_
        refine wa_iload C 3 rfl dX12_put_21 ?_
        obtain ⟨J_9, h, hJ_9⟩ := h
        have k_10 : ∀ (z_11 : Int64), J_9 z_11 → WA p l e ({ frames := 2, cells := 0, slots := 0, locals := 120 } : Room) s m args below meth c 0 0 Q K ad 5 A 31 [(0, .ref (ad 0)), (1, .int (iI x1)), (2, .long x2), (4, .int (iI x4_6))] [.long z_11, .int (iI ((6 * x1) + x4_6)), .ref (ad 21)] (mW M_thrown M_w M_h M_cells M_shape M_isBoard M_isBlank M_lives M_moves M_parts M_numbers M_grade M_reasons M_total M_near M_degree M_mine M_state M_history M_oldLives M_safe M_mined M_used M_partOf M_placeOf M_partSize M_ways M_with M_masks M_rests M_bits M_reach M_more M_reason M_big_7 M_region) := by
          intro z_11 h
          replace h := hJ_9 z_11 h
          obtain ⟨t_12, h⟩ := h
          refine wa_last C (ws' := fun w9 => (mW M_thrown M_w M_h M_cells M_shape M_isBoard M_isBlank M_lives M_moves M_parts M_numbers M_grade M_reasons M_total M_near M_degree M_mine M_state M_history M_oldLives M_safe M_mined M_used M_partOf M_placeOf M_partSize M_ways M_with M_masks M_rests M_bits M_reach M_more M_reason w9 M_region)) 21 mW_21 dX12_put_31 t_12.1 t_12.2 mWs_21 (fun M_big_13 eM_big_13 => ?_)
          replace h := h M_big_13 eM_big_13
          obtain ⟨r_14, h⟩ := h
          refine wa_iinc C (lv' := fun w9 => [(4, .int (iI w9)), (0, .ref (ad 0)), (1, .int (iI x1)), (2, .long x2)]) 3 rfl dX12_put_32 (by decide) (fun _ => rfl) (fun x4_15 ex4_15 => ?_)
          replace h := h x4_15 ex4_15
          have rx4_15 : inR x4_15 := by rw [ex4_15]; exact r_14
          refine wa_goto C (tgt := 3) dX12_put_35 (by decide) ?_
          obtain ⟨n_16, ln_16, h⟩ := h
          refine wa_sub C [1, 2, 3, 0] rfl ?_
          exact ih_4 n_16 ln_16 x4_15 M_big_13 rx4_15 h
        refine wa_if_ne C (tgt := 30) rx4_6 dX12_put_23 (by decide) (fun c_17 => ?_) (fun c_17 => ?_)
        · replace h := h.1 c_17
          refine wa_lconst C (v := 0) dX12_put_30 rfl ?_
          refine wa_sub C [0, 1, 2, 3] rfl ?_
          exact k_10 (0 : Int64) h
        · replace h := h.2 c_17
          refine wa_lload_n C 2 rfl dX12_put_26 rfl ?_
          refine wa_goto C (tgt := 31) dX12_put_27 (by decide) ?_
          refine wa_sub C [0, 1, 2, 3] rfl ?_
          exact k_10 x2 h
  refine wa_sub C [1, 2, 3, 0] rfl ?_
  exact k_5 n_2 0 M_big (inR_k 0 rfl) h0Inv_1
def P_X12_multiplyParts (post : (Int → Int64) → Prop) (M_parts : Int) (M_partOf : Int → Int) (M_placeOf : Int → Int) (M_partSize : Int → Int) (M_ways : Int → Int) (M_with : Int → Int) (M_big : Int → Int64) (x1 : Int) : Prop :=
  ∃ Inv_1 : Nat → (Int) → (Int → Int64) → Prop, (∃ n_2 : Nat, Inv_1 n_2 0 M_big) ∧ ∀ (n_3 : Nat) (x2_6 : Int) (M_big_7 : Int → Int64), inR x2_6 → Inv_1 n_3 x2_6 M_big_7 → ((145 ≤ x2_6 → (∃ Inv_9 : Nat → (Int) → (Int → Int64) → Prop, (∃ n_10 : Nat, Inv_9 n_10 0 M_big_7) ∧ ∀ (n_11 : Nat) (x2_14 : Int) (M_big_15 : Int → Int64), inR x2_14 → Inv_9 n_11 x2_14 M_big_15 → ((M_parts ≤ x2_14 → (post M_big_15)) ∧ (¬ M_parts ≤ x2_14 → (∃ Inv_18 : Nat → (Int) → (Int → Int64) → Prop, (∃ n_19 : Nat, Inv_18 n_19 0 M_big_15) ∧ ∀ (n_20 : Nat) (x3_23 : Int) (M_big_24 : Int → Int64), inR x3_23 → Inv_18 n_20 x3_23 M_big_24 → ((145 ≤ x3_23 → (∃ Inv_26 : Nat → (Int) → (Int → Int64) → Prop, (∃ n_27 : Nat, Inv_26 n_27 0 M_big_24) ∧ ∀ (n_28 : Nat) (x3_31 : Int) (M_big_32 : Int → Int64), inR x3_31 → Inv_26 n_28 x3_31 M_big_32 → ((145 ≤ x3_31 → (∃ Inv_34 : Nat → (Int) → (Int → Int64) → Prop, (∃ n_35 : Nat, Inv_34 n_35 0 M_big_32) ∧ ∀ (n_36 : Nat) (x3_39 : Int) (M_big_40 : Int → Int64), inR x3_39 → Inv_34 n_36 x3_39 M_big_40 → ((145 ≤ x3_39 → (inR (x2_14 + 1) ∧ (∀ x2_43 : Int, x2_43 = (x2_14 + 1) → (∃ n_44 : Nat, n_44 < n_11 ∧ Inv_9 n_44 x2_43 M_big_40)))) ∧ (¬ 145 ≤ x3_39 → (inR (145 + x3_39) ∧ (inR (0 + x3_39) ∧ (P_X12_copy (fun (M_big_47 : Int → Int64) => (inR (x3_39 + 1) ∧ (∀ x3_49 : Int, x3_49 = (x3_39 + 1) → (∃ n_50 : Nat, n_50 < n_36 ∧ Inv_34 n_50 x3_49 M_big_47)))) M_big_40 (145 + x3_39) (0 + x3_39)))))))) ∧ (¬ 145 ≤ x3_31 → (∃ Inv_51 : Nat → (Int) → (Int → Int64) → Prop, (∃ n_52 : Nat, Inv_51 n_52 0 M_big_32) ∧ ∀ (n_53 : Nat) (x4_56 : Int) (M_big_57 : Int → Int64), inR x4_56 → Inv_51 n_53 x4_56 M_big_57 → ((0 ≤ x2_14 ∧ x2_14 < 72) ∧ (∀ v_59 : Int, v_59 = M_partSize x2_14 → inR v_59 → (∃ J_60 : Prop, ((v_59 < x4_56 → (J_60)) ∧ (¬ v_59 < x4_56 → (inR (x3_31 + x4_56) ∧ ((145 ≤ (x3_31 + x4_56) → (J_60)) ∧ (¬ 145 ≤ (x3_31 + x4_56) → (∃ J_68 : (Int64) → Prop, (∃ J_81 : Prop, ((x1 < 0 → (J_81)) ∧ (¬ x1 < 0 → ((0 ≤ x1 ∧ x1 < 144) ∧ (∀ v_87 : Int, v_87 = M_partOf x1 → inR v_87 → ((¬ v_87 = x2_14 → (J_81)) ∧ (v_87 = x2_14 → ((0 ≤ x1 ∧ x1 < 144) ∧ (∀ v_90 : Int, v_90 = M_placeOf x1 → inR v_90 → ((0 ≤ (((272 * x2_14) + (17 * v_90)) + x4_56) ∧ (((272 * x2_14) + (17 * v_90)) + x4_56) < 19584) ∧ (∀ v_92 : Int, v_92 = M_with (((272 * x2_14) + (17 * v_90)) + x4_56) → inR v_92 → (J_68 (Int64.ofInt v_92)))))))))))) ∧ (J_81 → ((0 ≤ ((17 * x2_14) + x4_56) ∧ ((17 * x2_14) + x4_56) < 1224) ∧ (∀ v_84 : Int, v_84 = M_ways ((17 * x2_14) + x4_56) → inR v_84 → (J_68 (Int64.ofInt v_84)))))) ∧ (∀ (z_70 : Int64), J_68 z_70 → (∃ J_71 : (Int → Int64) → Prop, (((lcI z_70 (0 : Int64)) ≤ 0 → (J_71 M_big_57)) ∧ (¬ (lcI z_70 (0 : Int64)) ≤ 0 → (inR ((145 + x3_31) + x4_56) ∧ (inR (0 + x3_31) ∧ (P_X12_add (fun (M_big_80 : Int → Int64) => (J_71 M_big_80)) M_big_57 ((145 + x3_31) + x4_56) (0 + x3_31) z_70))))) ∧ (∀ (M_big_73 : Int → Int64), J_71 M_big_73 → (inR (x4_56 + 1) ∧ (∀ x4_75 : Int, x4_75 = (x4_56 + 1) → (∃ n_76 : Nat, n_76 < n_53 ∧ Inv_51 n_76 x4_75 M_big_73)))))))))))) ∧ (J_60 → (inR (x3_31 + 1) ∧ (∀ x3_63 : Int, x3_63 = (x3_31 + 1) → (∃ n_64 : Nat, n_64 < n_28 ∧ Inv_26 n_64 x3_63 M_big_57)))))))))))) ∧ (¬ 145 ≤ x3_23 → (inR (145 + x3_23) ∧ (P_X12_put (fun (M_big_94 : Int → Int64) => (inR (x3_23 + 1) ∧ (∀ x3_96 : Int, x3_96 = (x3_23 + 1) → (∃ n_97 : Nat, n_97 < n_20 ∧ Inv_18 n_97 x3_96 M_big_94)))) M_big_24 (145 + x3_23) (0 : Int64)))))))))) ∧ (¬ 145 ≤ x2_6 → (∃ J_98 : (Int64) → Prop, ((¬ x2_6 = 0 → (J_98 (0 : Int64))) ∧ (x2_6 = 0 → (J_98 (1 : Int64)))) ∧ (∀ (z_100 : Int64), J_98 z_100 → (inR (0 + x2_6) ∧ (P_X12_put (fun (M_big_102 : Int → Int64) => (inR (x2_6 + 1) ∧ (∀ x2_104 : Int, x2_104 = (x2_6 + 1) → (∃ n_105 : Nat, n_105 < n_3 ∧ Inv_1 n_105 x2_104 M_big_102)))) M_big_7 (0 + x2_6) z_100))))))
set_option maxRecDepth 100000 in
set_option maxHeartbeats 4000000 in
theorem c_X12_multiplyParts (l : Launch) (K : wK) (ad : Nat → Nat) {M_thrown : Int} {M_w : Int} {M_h : Int} {M_cells : Int} {M_shape : Int} {M_isBoard : Int} {M_isBlank : Int} {M_lives : Int} {M_moves : Int} {M_parts : Int} {M_numbers : Int} {M_grade : Int} {M_reasons : Int} {M_total : Int} {M_near : Int → Int} {M_degree : Int → Int} {M_mine : Int → Int} {M_state : Int → Int} {M_history : Int → Int64} {M_oldLives : Int → Int} {M_safe : Int → Int} {M_mined : Int → Int} {M_used : Int → Int} {M_partOf : Int → Int} {M_placeOf : Int → Int} {M_partSize : Int → Int} {M_ways : Int → Int} {M_with : Int → Int} {M_masks : Int → Int} {M_rests : Int → Int} {M_bits : Int → Int} {M_reach : Int → Int} {M_more : Int → Int} {M_reason : Int → Int} {M_big : Int → Int64} {M_region : Int → Int} (x1 : Int) (rx1 : inR x1) (post : (Int → Int64) → Prop) (h : P_X12_multiplyParts post M_parts M_partOf M_placeOf M_partSize M_ways M_with M_big x1) : mV l yX12_multiplyParts (Cond.code yX12_multiplyParts cX12_multiplyParts 7 none :: GT) ({ frames := 4, cells := 0, slots := 0, locals := 240 } : Room) [.ref (ad 0), .int (iI x1)] K ad (mW M_thrown M_w M_h M_cells M_shape M_isBoard M_isBlank M_lives M_moves M_parts M_numbers M_grade M_reasons M_total M_near M_degree M_mine M_state M_history M_oldLives M_safe M_mined M_used M_partOf M_placeOf M_partSize M_ways M_with M_masks M_rests M_bits M_reach M_more M_reason M_big M_region) (fun u9 => ∃ M_big9, u9 = (mW M_thrown M_w M_h M_cells M_shape M_isBoard M_isBlank M_lives M_moves M_parts M_numbers M_grade M_reasons M_total M_near M_degree M_mine M_state M_history M_oldLives M_safe M_mined M_used M_partOf M_placeOf M_partSize M_ways M_with M_masks M_rests M_bits M_reach M_more M_reason M_big9 M_region) ∧ post M_big9) := by
  refine mV_of (lv0 := [(0, .ref (ad 0)), (1, .int (iI x1))]) (by decide) (Nat.le_of_ble_eq_true rfl) rfl ?_
  intro p e s m args below meth c Q A C ret
  replace C : Cx p ({ frames := 4, cells := 0, slots := 0, locals := 240 } : Room) m c 0 0 cX12_multiplyParts 7 s args RX12 K A := C
  unfold P_X12_multiplyParts at h
  refine wa_iconst C (z := 0) dX12_multiplyParts_0 rfl ?_
  refine wa_istore_n C dX12_multiplyParts_1 rfl (by decide) rfl ?_
  obtain ⟨Inv_1, ⟨n_2, h0Inv_1⟩, hInv_1⟩ := h
  have k_5 : ∀ (n_3 : Nat) (x2_6 : Int) (M_big_7 : Int → Int64), inR x2_6 → Inv_1 n_3 x2_6 M_big_7 → WA p l e ({ frames := 4, cells := 0, slots := 0, locals := 240 } : Room) s m args below meth c 0 0 Q K ad 7 A 2 [(0, .ref (ad 0)), (1, .int (iI x1)), (2, .int (iI x2_6))] [] (mW M_thrown M_w M_h M_cells M_shape M_isBoard M_isBlank M_lives M_moves M_parts M_numbers M_grade M_reasons M_total M_near M_degree M_mine M_state M_history M_oldLives M_safe M_mined M_used M_partOf M_placeOf M_partSize M_ways M_with M_masks M_rests M_bits M_reach M_more M_reason M_big_7 M_region) := by
    intro n_3
    induction n_3 using Nat.strongRecOn with
    | ind n_3 ih_4 =>
      intro x2_6 M_big_7 rx2_6 h
      replace h := hInv_1 n_3 x2_6 M_big_7 rx2_6 h
      refine wa_iload_n C 2 rfl dX12_multiplyParts_2 rfl ?_
      refine wa_sipush C (z := 145) dX12_multiplyParts_3 (by decide) ?_
      refine wa_icmp_ge C (tgt := 31) rx2_6 (inR_k 145 rfl) dX12_multiplyParts_6 (by decide) (fun c_8 => ?_) (fun c_8 => ?_)
      · replace h := h.1 c_8
        refine wa_iconst C (z := 0) dX12_multiplyParts_31 rfl ?_
        refine wa_istore_n C dX12_multiplyParts_32 rfl (by decide) rfl ?_
        obtain ⟨Inv_9, ⟨n_10, h0Inv_9⟩, hInv_9⟩ := h
        have k_13 : ∀ (n_11 : Nat) (x2_14 : Int) (M_big_15 : Int → Int64), inR x2_14 → Inv_9 n_11 x2_14 M_big_15 → WA p l e ({ frames := 4, cells := 0, slots := 0, locals := 240 } : Room) s m args below meth c 0 0 Q K ad 7 A 33 [(0, .ref (ad 0)), (1, .int (iI x1)), (2, .int (iI x2_14))] [] (mW M_thrown M_w M_h M_cells M_shape M_isBoard M_isBlank M_lives M_moves M_parts M_numbers M_grade M_reasons M_total M_near M_degree M_mine M_state M_history M_oldLives M_safe M_mined M_used M_partOf M_placeOf M_partSize M_ways M_with M_masks M_rests M_bits M_reach M_more M_reason M_big_15 M_region) := by
          intro n_11
          induction n_11 using Nat.strongRecOn with
          | ind n_11 ih_12 =>
            intro x2_14 M_big_15 rx2_14 h
            replace h := hInv_9 n_11 x2_14 M_big_15 rx2_14 h
            refine wa_iload_n C 2 rfl dX12_multiplyParts_33 rfl ?_
            refine wa_aload_n C 0 rfl dX12_multiplyParts_34 rfl ?_
            refine wa_getI C 0 20 mW_0 rfl rfl (by decide) okX12 gw_1252 dX12_multiplyParts_35 (fun r_16 => ?_)
            refine wa_icmp_ge C (tgt := 224) rx2_14 r_16 dX12_multiplyParts_38 (by decide) (fun c_17 => ?_) (fun c_17 => ?_)
            · replace h := h.1 c_17
              exact ret dX12_multiplyParts_224 ⟨_, rfl, h⟩
            · replace h := h.2 c_17
              refine wa_iconst C (z := 0) dX12_multiplyParts_41 rfl ?_
              refine wa_istore_n C dX12_multiplyParts_42 rfl (by decide) rfl ?_
              obtain ⟨Inv_18, ⟨n_19, h0Inv_18⟩, hInv_18⟩ := h
              have k_22 : ∀ (n_20 : Nat) (x3_23 : Int) (M_big_24 : Int → Int64), inR x3_23 → Inv_18 n_20 x3_23 M_big_24 → WA p l e ({ frames := 4, cells := 0, slots := 0, locals := 240 } : Room) s m args below meth c 0 0 Q K ad 7 A 43 [(0, .ref (ad 0)), (1, .int (iI x1)), (2, .int (iI x2_14)), (3, .int (iI x3_23))] [] (mW M_thrown M_w M_h M_cells M_shape M_isBoard M_isBlank M_lives M_moves M_parts M_numbers M_grade M_reasons M_total M_near M_degree M_mine M_state M_history M_oldLives M_safe M_mined M_used M_partOf M_placeOf M_partSize M_ways M_with M_masks M_rests M_bits M_reach M_more M_reason M_big_24 M_region) := by
                intro n_20
                induction n_20 using Nat.strongRecOn with
                | ind n_20 ih_21 =>
                  intro x3_23 M_big_24 rx3_23 h
                  replace h := hInv_18 n_20 x3_23 M_big_24 rx3_23 h
                  refine wa_iload_n C 3 rfl dX12_multiplyParts_43 rfl ?_
                  refine wa_sipush C (z := 145) dX12_multiplyParts_44 (by decide) ?_
                  refine wa_icmp_ge C (tgt := 66) rx3_23 (inR_k 145 rfl) dX12_multiplyParts_47 (by decide) (fun c_25 => ?_) (fun c_25 => ?_)
                  · replace h := h.1 c_25
                    refine wa_iconst C (z := 0) dX12_multiplyParts_66 rfl ?_
                    refine wa_istore_n C dX12_multiplyParts_67 rfl (by decide) rfl ?_
                    obtain ⟨Inv_26, ⟨n_27, h0Inv_26⟩, hInv_26⟩ := h
                    have k_30 : ∀ (n_28 : Nat) (x3_31 : Int) (M_big_32 : Int → Int64), inR x3_31 → Inv_26 n_28 x3_31 M_big_32 → WA p l e ({ frames := 4, cells := 0, slots := 0, locals := 240 } : Room) s m args below meth c 0 0 Q K ad 7 A 68 [(0, .ref (ad 0)), (1, .int (iI x1)), (2, .int (iI x2_14)), (3, .int (iI x3_31))] [] (mW M_thrown M_w M_h M_cells M_shape M_isBoard M_isBlank M_lives M_moves M_parts M_numbers M_grade M_reasons M_total M_near M_degree M_mine M_state M_history M_oldLives M_safe M_mined M_used M_partOf M_placeOf M_partSize M_ways M_with M_masks M_rests M_bits M_reach M_more M_reason M_big_32 M_region) := by
                      intro n_28
                      induction n_28 using Nat.strongRecOn with
                      | ind n_28 ih_29 =>
                        intro x3_31 M_big_32 rx3_31 h
                        replace h := hInv_26 n_28 x3_31 M_big_32 rx3_31 h
                        refine wa_iload_n C 3 rfl dX12_multiplyParts_68 rfl ?_
                        refine wa_sipush C (z := 145) dX12_multiplyParts_69 (by decide) ?_
                        refine wa_icmp_ge C (tgt := 191) rx3_31 (inR_k 145 rfl) dX12_multiplyParts_72 (by decide) (fun c_33 => ?_) (fun c_33 => ?_)
                        · replace h := h.1 c_33
                          refine wa_iconst C (z := 0) dX12_multiplyParts_191 rfl ?_
                          refine wa_istore_n C dX12_multiplyParts_192 rfl (by decide) rfl ?_
                          obtain ⟨Inv_34, ⟨n_35, h0Inv_34⟩, hInv_34⟩ := h
                          have k_38 : ∀ (n_36 : Nat) (x3_39 : Int) (M_big_40 : Int → Int64), inR x3_39 → Inv_34 n_36 x3_39 M_big_40 → WA p l e ({ frames := 4, cells := 0, slots := 0, locals := 240 } : Room) s m args below meth c 0 0 Q K ad 7 A 193 [(0, .ref (ad 0)), (1, .int (iI x1)), (2, .int (iI x2_14)), (3, .int (iI x3_39))] [] (mW M_thrown M_w M_h M_cells M_shape M_isBoard M_isBlank M_lives M_moves M_parts M_numbers M_grade M_reasons M_total M_near M_degree M_mine M_state M_history M_oldLives M_safe M_mined M_used M_partOf M_placeOf M_partSize M_ways M_with M_masks M_rests M_bits M_reach M_more M_reason M_big_40 M_region) := by
                            intro n_36
                            induction n_36 using Nat.strongRecOn with
                            | ind n_36 ih_37 =>
                              intro x3_39 M_big_40 rx3_39 h
                              replace h := hInv_34 n_36 x3_39 M_big_40 rx3_39 h
                              refine wa_iload_n C 3 rfl dX12_multiplyParts_193 rfl ?_
                              refine wa_sipush C (z := 145) dX12_multiplyParts_194 (by decide) ?_
                              refine wa_icmp_ge C (tgt := 218) rx3_39 (inR_k 145 rfl) dX12_multiplyParts_197 (by decide) (fun c_41 => ?_) (fun c_41 => ?_)
                              · replace h := h.1 c_41
                                obtain ⟨r_42, h⟩ := h
                                refine wa_iinc C (lv' := fun w9 => [(2, .int (iI w9)), (0, .ref (ad 0)), (1, .int (iI x1)), (3, .int (iI x3_39))]) 2 rfl dX12_multiplyParts_218 (by decide) (fun _ => rfl) (fun x2_43 ex2_43 => ?_)
                                replace h := h x2_43 ex2_43
                                have rx2_43 : inR x2_43 := by rw [ex2_43]; exact r_42
                                refine wa_goto C (tgt := 33) dX12_multiplyParts_221 (by decide) ?_
                                obtain ⟨n_44, ln_44, h⟩ := h
                                refine wa_sub C [1, 2, 0] rfl ?_
                                exact ih_12 n_44 ln_44 x2_43 M_big_40 rx2_43 h
                              · replace h := h.2 c_41
                                refine wa_aload_n C 0 rfl dX12_multiplyParts_200 rfl ?_
                                refine wa_sipush C (z := 145) dX12_multiplyParts_201 (by decide) ?_
                                refine wa_iload_n C 3 rfl dX12_multiplyParts_204 rfl ?_
                                refine wa_iadd C dX12_multiplyParts_205 ?_
                                refine wa_iconst C (z := 0) dX12_multiplyParts_206 rfl ?_
                                refine wa_iload_n C 3 rfl dX12_multiplyParts_207 rfl ?_
                                refine wa_iadd C dX12_multiplyParts_208 ?_
                                obtain ⟨r_45, h⟩ := h
                                obtain ⟨r_46, h⟩ := h
                                refine wa_callVv C (k := 0) (As := [.int (iI (145 + x3_39)), .int (iI (0 + x3_39))]) (rest := []) (c_X12_copy l K ad (145 + x3_39) (0 + x3_39) r_45 r_46 _ h) gw_1633 gw_1630 mW_0 rfl gw_1632 gs_106 gw_12 q_X12_copy rfl rfl rfl ⟨by decide, by decide⟩ rfl (Nat.le_of_ble_eq_true rfl) dX12_multiplyParts_209 (fun u9 hp => ?_)
                                obtain ⟨M_big_47, rfl, h⟩ := hp
                                obtain ⟨r_48, h⟩ := h
                                refine wa_iinc C (lv' := fun w9 => [(3, .int (iI w9)), (0, .ref (ad 0)), (1, .int (iI x1)), (2, .int (iI x2_14))]) 3 rfl dX12_multiplyParts_212 (by decide) (fun _ => rfl) (fun x3_49 ex3_49 => ?_)
                                replace h := h x3_49 ex3_49
                                have rx3_49 : inR x3_49 := by rw [ex3_49]; exact r_48
                                refine wa_goto C (tgt := 193) dX12_multiplyParts_215 (by decide) ?_
                                obtain ⟨n_50, ln_50, h⟩ := h
                                refine wa_sub C [1, 2, 3, 0] rfl ?_
                                exact ih_37 n_50 ln_50 x3_49 M_big_47 rx3_49 h
                          refine wa_sub C [1, 2, 3, 0] rfl ?_
                          exact k_38 n_35 0 M_big_32 (inR_k 0 rfl) h0Inv_34
                        · replace h := h.2 c_33
                          refine wa_iconst C (z := 0) dX12_multiplyParts_75 rfl ?_
                          refine wa_istore C dX12_multiplyParts_76 (by decide) rfl ?_
                          obtain ⟨Inv_51, ⟨n_52, h0Inv_51⟩, hInv_51⟩ := h
                          have k_55 : ∀ (n_53 : Nat) (x4_56 : Int) (M_big_57 : Int → Int64), inR x4_56 → Inv_51 n_53 x4_56 M_big_57 → WA p l e ({ frames := 4, cells := 0, slots := 0, locals := 240 } : Room) s m args below meth c 0 0 Q K ad 7 A 78 [(0, .ref (ad 0)), (1, .int (iI x1)), (2, .int (iI x2_14)), (3, .int (iI x3_31)), (4, .int (iI x4_56))] [] (mW M_thrown M_w M_h M_cells M_shape M_isBoard M_isBlank M_lives M_moves M_parts M_numbers M_grade M_reasons M_total M_near M_degree M_mine M_state M_history M_oldLives M_safe M_mined M_used M_partOf M_placeOf M_partSize M_ways M_with M_masks M_rests M_bits M_reach M_more M_reason M_big_57 M_region) := by
                            intro n_53
                            induction n_53 using Nat.strongRecOn with
                            | ind n_53 ih_54 =>
                              intro x4_56 M_big_57 rx4_56 h
                              replace h := hInv_51 n_53 x4_56 M_big_57 rx4_56 h
                              refine wa_iload C 4 rfl dX12_multiplyParts_78 ?_
                              refine wa_aload_n C 0 rfl dX12_multiplyParts_80 rfl ?_
                              refine wa_getR C 0 21 mW_0 rfl rfl (by decide) okX12 gw_1253 dX12_multiplyParts_81 ?_
                              refine wa_iload_n C 2 rfl dX12_multiplyParts_84 rfl ?_
                              obtain ⟨t_58, h⟩ := h
                              refine wa_iald C 12 mW_12 dX12_multiplyParts_85 t_58.1 t_58.2 (fun v_59 ev_59 rv_59 => ?_)
                              replace h := h v_59 ev_59 rv_59
                              obtain ⟨J_60, h, hJ_60⟩ := h
                              have k_61 : J_60 → WA p l e ({ frames := 4, cells := 0, slots := 0, locals := 240 } : Room) s m args below meth c 0 0 Q K ad 7 A 185 [(0, .ref (ad 0)), (1, .int (iI x1)), (2, .int (iI x2_14)), (3, .int (iI x3_31))] [] (mW M_thrown M_w M_h M_cells M_shape M_isBoard M_isBlank M_lives M_moves M_parts M_numbers M_grade M_reasons M_total M_near M_degree M_mine M_state M_history M_oldLives M_safe M_mined M_used M_partOf M_placeOf M_partSize M_ways M_with M_masks M_rests M_bits M_reach M_more M_reason M_big_57 M_region) := by
                                intro h
                                replace h := hJ_60 h
                                obtain ⟨r_62, h⟩ := h
                                refine wa_iinc C (lv' := fun w9 => [(3, .int (iI w9)), (0, .ref (ad 0)), (1, .int (iI x1)), (2, .int (iI x2_14))]) 3 rfl dX12_multiplyParts_185 (by decide) (fun _ => rfl) (fun x3_63 ex3_63 => ?_)
                                replace h := h x3_63 ex3_63
                                have rx3_63 : inR x3_63 := by rw [ex3_63]; exact r_62
                                refine wa_goto C (tgt := 68) dX12_multiplyParts_188 (by decide) ?_
                                obtain ⟨n_64, ln_64, h⟩ := h
                                refine wa_sub C [1, 2, 3, 0] rfl ?_
                                exact ih_29 n_64 ln_64 x3_63 M_big_57 rx3_63 h
                              refine wa_icmp_gt C (tgt := 185) rx4_56 rv_59 dX12_multiplyParts_86 (by decide) (fun c_65 => ?_) (fun c_65 => ?_)
                              · replace h := h.1 c_65
                                refine wa_sub C [0, 1, 2, 3] rfl ?_
                                exact k_61 h
                              · replace h := h.2 c_65
                                refine wa_iload_n C 3 rfl dX12_multiplyParts_89 rfl ?_
                                refine wa_iload C 4 rfl dX12_multiplyParts_90 ?_
                                refine wa_iadd C dX12_multiplyParts_92 ?_
                                refine wa_sipush C (z := 145) dX12_multiplyParts_93 (by decide) ?_
                                obtain ⟨r_66, h⟩ := h
                                refine wa_icmp_ge C (tgt := 185) r_66 (inR_k 145 rfl) dX12_multiplyParts_96 (by decide) (fun c_67 => ?_) (fun c_67 => ?_)
                                · replace h := h.1 c_67
                                  refine wa_sub C [0, 1, 2, 3] rfl ?_
                                  exact k_61 h
                                · replace h := h.2 c_67
                                  refine wa_iload_n C 1 rfl dX12_multiplyParts_99 rfl ?_
                                  obtain ⟨J_68, h, hJ_68⟩ := h
                                  have k_69 : ∀ (z_70 : Int64), J_68 z_70 → WA p l e ({ frames := 4, cells := 0, slots := 0, locals := 240 } : Room) s m args below meth c 0 0 Q K ad 7 A 153 [(0, .ref (ad 0)), (1, .int (iI x1)), (2, .int (iI x2_14)), (3, .int (iI x3_31)), (4, .int (iI x4_56))] [.long z_70] (mW M_thrown M_w M_h M_cells M_shape M_isBoard M_isBlank M_lives M_moves M_parts M_numbers M_grade M_reasons M_total M_near M_degree M_mine M_state M_history M_oldLives M_safe M_mined M_used M_partOf M_placeOf M_partSize M_ways M_with M_masks M_rests M_bits M_reach M_more M_reason M_big_57 M_region) := by
                                    intro z_70 h
                                    replace h := hJ_68 z_70 h
                                    refine wa_lstore C dX12_multiplyParts_153 (by decide) rfl ?_
                                    refine wa_lload C 0 rfl dX12_multiplyParts_155 ?_
                                    refine wa_lconst C (v := 0) dX12_multiplyParts_157 rfl ?_
                                    refine wa_lcmp C dX12_multiplyParts_158 ?_
                                    obtain ⟨J_71, h, hJ_71⟩ := h
                                    have k_72 : ∀ (M_big_73 : Int → Int64), J_71 M_big_73 → WA p l e ({ frames := 4, cells := 0, slots := 0, locals := 240 } : Room) s m args below meth c 0 0 Q K ad 7 A 179 [(0, .ref (ad 0)), (1, .int (iI x1)), (2, .int (iI x2_14)), (3, .int (iI x3_31)), (4, .int (iI x4_56))] [] (mW M_thrown M_w M_h M_cells M_shape M_isBoard M_isBlank M_lives M_moves M_parts M_numbers M_grade M_reasons M_total M_near M_degree M_mine M_state M_history M_oldLives M_safe M_mined M_used M_partOf M_placeOf M_partSize M_ways M_with M_masks M_rests M_bits M_reach M_more M_reason M_big_73 M_region) := by
                                      intro M_big_73 h
                                      replace h := hJ_71 M_big_73 h
                                      obtain ⟨r_74, h⟩ := h
                                      refine wa_iinc C (lv' := fun w9 => [(4, .int (iI w9)), (0, .ref (ad 0)), (1, .int (iI x1)), (2, .int (iI x2_14)), (3, .int (iI x3_31))]) 4 rfl dX12_multiplyParts_179 (by decide) (fun _ => rfl) (fun x4_75 ex4_75 => ?_)
                                      replace h := h x4_75 ex4_75
                                      have rx4_75 : inR x4_75 := by rw [ex4_75]; exact r_74
                                      refine wa_goto C (tgt := 78) dX12_multiplyParts_182 (by decide) ?_
                                      obtain ⟨n_76, ln_76, h⟩ := h
                                      refine wa_sub C [1, 2, 3, 4, 0] rfl ?_
                                      exact ih_54 n_76 ln_76 x4_75 M_big_73 rx4_75 h
                                    refine wa_if_le C (tgt := 179) (lcI_r _ _) dX12_multiplyParts_159 (by decide) (fun c_77 => ?_) (fun c_77 => ?_)
                                    · replace h := h.1 c_77
                                      refine wa_sub C [1, 2, 3, 4, 5] rfl ?_
                                      exact k_72 M_big_57 h
                                    · replace h := h.2 c_77
                                      refine wa_aload_n C 1 rfl dX12_multiplyParts_162 rfl ?_
                                      refine wa_sipush C (z := 145) dX12_multiplyParts_163 (by decide) ?_
                                      refine wa_iload_n C 4 rfl dX12_multiplyParts_166 rfl ?_
                                      refine wa_iadd C dX12_multiplyParts_167 ?_
                                      refine wa_iload C 5 rfl dX12_multiplyParts_168 ?_
                                      refine wa_iadd C dX12_multiplyParts_170 ?_
                                      refine wa_iconst C (z := 0) dX12_multiplyParts_171 rfl ?_
                                      refine wa_iload_n C 4 rfl dX12_multiplyParts_172 rfl ?_
                                      refine wa_iadd C dX12_multiplyParts_173 ?_
                                      refine wa_lload C 0 rfl dX12_multiplyParts_174 ?_
                                      obtain ⟨r_78, h⟩ := h
                                      obtain ⟨r_79, h⟩ := h
                                      refine wa_callVv C (k := 0) (As := [.int (iI ((145 + x3_31) + x4_56)), .int (iI (0 + x3_31)), .long z_70]) (rest := []) (c_X12_add l K ad ((145 + x3_31) + x4_56) (0 + x3_31) z_70 r_78 r_79 _ h) gw_1624 gw_1621 mW_0 rfl gw_1623 gs_104 gw_12 q_X12_add rfl rfl rfl ⟨by decide, by decide⟩ rfl (Nat.le_of_ble_eq_true rfl) dX12_multiplyParts_176 (fun u9 hp => ?_)
                                      obtain ⟨M_big_80, rfl, h⟩ := hp
                                      refine wa_sub C [1, 2, 3, 4, 5] rfl ?_
                                      exact k_72 M_big_80 h
                                  obtain ⟨J_81, h, hJ_81⟩ := h
                                  have k_82 : J_81 → WA p l e ({ frames := 4, cells := 0, slots := 0, locals := 240 } : Room) s m args below meth c 0 0 Q K ad 7 A 140 [(0, .ref (ad 0)), (1, .int (iI x1)), (2, .int (iI x2_14)), (3, .int (iI x3_31)), (4, .int (iI x4_56))] [] (mW M_thrown M_w M_h M_cells M_shape M_isBoard M_isBlank M_lives M_moves M_parts M_numbers M_grade M_reasons M_total M_near M_degree M_mine M_state M_history M_oldLives M_safe M_mined M_used M_partOf M_placeOf M_partSize M_ways M_with M_masks M_rests M_bits M_reach M_more M_reason M_big_57 M_region) := by
                                    intro h
                                    replace h := hJ_81 h
                                    refine wa_aload_n C 0 rfl dX12_multiplyParts_140 rfl ?_
                                    refine wa_getR C 0 22 mW_0 rfl rfl (by decide) okX12 gw_1254 dX12_multiplyParts_141 ?_
                                    refine wa_bipush C (z := 17) dX12_multiplyParts_144 (by decide) ?_
                                    refine wa_iload_n C 2 rfl dX12_multiplyParts_146 rfl ?_
                                    refine wa_imul C dX12_multiplyParts_147 ?_
                                    refine wa_iload C 4 rfl dX12_multiplyParts_148 ?_
                                    refine wa_iadd C dX12_multiplyParts_150 ?_
                                    obtain ⟨t_83, h⟩ := h
                                    refine wa_iald C 13 mW_13 dX12_multiplyParts_151 t_83.1 t_83.2 (fun v_84 ev_84 rv_84 => ?_)
                                    replace h := h v_84 ev_84 rv_84
                                    refine wa_i2l C rv_84 dX12_multiplyParts_152 ?_
                                    refine wa_sub C [0, 1, 2, 3, 4] rfl ?_
                                    exact k_69 (Int64.ofInt v_84) h
                                  refine wa_if_lt C (tgt := 140) rx1 dX12_multiplyParts_100 (by decide) (fun c_85 => ?_) (fun c_85 => ?_)
                                  · replace h := h.1 c_85
                                    refine wa_sub C [0, 1, 2, 3, 4] rfl ?_
                                    exact k_82 h
                                  · replace h := h.2 c_85
                                    refine wa_aload_n C 0 rfl dX12_multiplyParts_103 rfl ?_
                                    refine wa_getR C 0 18 mW_0 rfl rfl (by decide) okX12 gw_1250 dX12_multiplyParts_104 ?_
                                    refine wa_iload_n C 1 rfl dX12_multiplyParts_107 rfl ?_
                                    obtain ⟨t_86, h⟩ := h
                                    refine wa_iald C 10 mW_10 dX12_multiplyParts_108 t_86.1 t_86.2 (fun v_87 ev_87 rv_87 => ?_)
                                    replace h := h v_87 ev_87 rv_87
                                    refine wa_iload_n C 2 rfl dX12_multiplyParts_109 rfl ?_
                                    refine wa_icmp_ne C (tgt := 140) rv_87 rx2_14 dX12_multiplyParts_110 (by decide) (fun c_88 => ?_) (fun c_88 => ?_)
                                    · replace h := h.1 c_88
                                      refine wa_sub C [0, 1, 2, 3, 4] rfl ?_
                                      exact k_82 h
                                    · replace h := h.2 c_88
                                      refine wa_aload_n C 0 rfl dX12_multiplyParts_113 rfl ?_
                                      refine wa_getR C 0 23 mW_0 rfl rfl (by decide) okX12 gw_1255 dX12_multiplyParts_114 ?_
                                      refine wa_sipush C (z := 272) dX12_multiplyParts_117 (by decide) ?_
                                      refine wa_iload_n C 2 rfl dX12_multiplyParts_120 rfl ?_
                                      refine wa_imul C dX12_multiplyParts_121 ?_
                                      refine wa_bipush C (z := 17) dX12_multiplyParts_122 (by decide) ?_
                                      refine wa_aload_n C 0 rfl dX12_multiplyParts_124 rfl ?_
                                      refine wa_getR C 0 19 mW_0 rfl rfl (by decide) okX12 gw_1251 dX12_multiplyParts_125 ?_
                                      refine wa_iload_n C 1 rfl dX12_multiplyParts_128 rfl ?_
                                      obtain ⟨t_89, h⟩ := h
                                      refine wa_iald C 11 mW_11 dX12_multiplyParts_129 t_89.1 t_89.2 (fun v_90 ev_90 rv_90 => ?_)
                                      replace h := h v_90 ev_90 rv_90
                                      refine wa_imul C dX12_multiplyParts_130 ?_
                                      refine wa_iadd C dX12_multiplyParts_131 ?_
                                      refine wa_iload C 4 rfl dX12_multiplyParts_132 ?_
                                      refine wa_iadd C dX12_multiplyParts_134 ?_
                                      obtain ⟨t_91, h⟩ := h
                                      refine wa_iald C 14 mW_14 dX12_multiplyParts_135 t_91.1 t_91.2 (fun v_92 ev_92 rv_92 => ?_)
                                      replace h := h v_92 ev_92 rv_92
                                      refine wa_i2l C rv_92 dX12_multiplyParts_136 ?_
                                      refine wa_goto C (tgt := 153) dX12_multiplyParts_137 (by decide) ?_
                                      refine wa_sub C [0, 1, 2, 3, 4] rfl ?_
                                      exact k_69 (Int64.ofInt v_92) h
                          refine wa_sub C [1, 2, 3, 4, 0] rfl ?_
                          exact k_55 n_52 0 M_big_32 (inR_k 0 rfl) h0Inv_51
                    refine wa_sub C [1, 2, 3, 0] rfl ?_
                    exact k_30 n_27 0 M_big_24 (inR_k 0 rfl) h0Inv_26
                  · replace h := h.2 c_25
                    refine wa_aload_n C 0 rfl dX12_multiplyParts_50 rfl ?_
                    refine wa_sipush C (z := 145) dX12_multiplyParts_51 (by decide) ?_
                    refine wa_iload_n C 3 rfl dX12_multiplyParts_54 rfl ?_
                    refine wa_iadd C dX12_multiplyParts_55 ?_
                    refine wa_lconst C (v := 0) dX12_multiplyParts_56 rfl ?_
                    obtain ⟨r_93, h⟩ := h
                    refine wa_callVv C (k := 0) (As := [.int (iI (145 + x3_23)), .long (0 : Int64)]) (rest := []) (c_X12_put l K ad (145 + x3_23) (0 : Int64) r_93 _ h) gw_1620 gw_1617 mW_0 rfl gw_1619 gs_103 gw_12 q_X12_put rfl rfl rfl ⟨by decide, by decide⟩ rfl (Nat.le_of_ble_eq_true rfl) dX12_multiplyParts_57 (fun u9 hp => ?_)
                    obtain ⟨M_big_94, rfl, h⟩ := hp
                    obtain ⟨r_95, h⟩ := h
                    refine wa_iinc C (lv' := fun w9 => [(3, .int (iI w9)), (0, .ref (ad 0)), (1, .int (iI x1)), (2, .int (iI x2_14))]) 3 rfl dX12_multiplyParts_60 (by decide) (fun _ => rfl) (fun x3_96 ex3_96 => ?_)
                    replace h := h x3_96 ex3_96
                    have rx3_96 : inR x3_96 := by rw [ex3_96]; exact r_95
                    refine wa_goto C (tgt := 43) dX12_multiplyParts_63 (by decide) ?_
                    obtain ⟨n_97, ln_97, h⟩ := h
                    refine wa_sub C [1, 2, 3, 0] rfl ?_
                    exact ih_21 n_97 ln_97 x3_96 M_big_94 rx3_96 h
              refine wa_sub C [1, 2, 3, 0] rfl ?_
              exact k_22 n_19 0 M_big_15 (inR_k 0 rfl) h0Inv_18
        refine wa_sub C [1, 2, 0] rfl ?_
        exact k_13 n_10 0 M_big_7 (inR_k 0 rfl) h0Inv_9
      · replace h := h.2 c_8
        refine wa_aload_n C 0 rfl dX12_multiplyParts_9 rfl ?_
        refine wa_iconst C (z := 0) dX12_multiplyParts_10 rfl ?_
        refine wa_iload_n C 2 rfl dX12_multiplyParts_11 rfl ?_
        refine wa_iadd C dX12_multiplyParts_12 ?_
        refine wa_iload_n C 2 rfl dX12_multiplyParts_13 rfl ?_
        obtain ⟨J_98, h, hJ_98⟩ := h
        have k_99 : ∀ (z_100 : Int64), J_98 z_100 → WA p l e ({ frames := 4, cells := 0, slots := 0, locals := 240 } : Room) s m args below meth c 0 0 Q K ad 7 A 22 [(0, .ref (ad 0)), (1, .int (iI x1)), (2, .int (iI x2_6))] [.long z_100, .int (iI (0 + x2_6)), .ref (ad 0)] (mW M_thrown M_w M_h M_cells M_shape M_isBoard M_isBlank M_lives M_moves M_parts M_numbers M_grade M_reasons M_total M_near M_degree M_mine M_state M_history M_oldLives M_safe M_mined M_used M_partOf M_placeOf M_partSize M_ways M_with M_masks M_rests M_bits M_reach M_more M_reason M_big_7 M_region) := by
          intro z_100 h
          replace h := hJ_98 z_100 h
          obtain ⟨r_101, h⟩ := h
          refine wa_callVv C (k := 0) (As := [.int (iI (0 + x2_6)), .long z_100]) (rest := []) (c_X12_put l K ad (0 + x2_6) z_100 r_101 _ h) gw_1620 gw_1617 mW_0 rfl gw_1619 gs_103 gw_12 q_X12_put rfl rfl rfl ⟨by decide, by decide⟩ rfl (Nat.le_of_ble_eq_true rfl) dX12_multiplyParts_22 (fun u9 hp => ?_)
          obtain ⟨M_big_102, rfl, h⟩ := hp
          obtain ⟨r_103, h⟩ := h
          refine wa_iinc C (lv' := fun w9 => [(2, .int (iI w9)), (0, .ref (ad 0)), (1, .int (iI x1))]) 2 rfl dX12_multiplyParts_25 (by decide) (fun _ => rfl) (fun x2_104 ex2_104 => ?_)
          replace h := h x2_104 ex2_104
          have rx2_104 : inR x2_104 := by rw [ex2_104]; exact r_103
          refine wa_goto C (tgt := 2) dX12_multiplyParts_28 (by decide) ?_
          obtain ⟨n_105, ln_105, h⟩ := h
          refine wa_sub C [1, 2, 0] rfl ?_
          exact ih_4 n_105 ln_105 x2_104 M_big_102 rx2_104 h
        refine wa_if_ne C (tgt := 21) rx2_6 dX12_multiplyParts_14 (by decide) (fun c_106 => ?_) (fun c_106 => ?_)
        · replace h := h.1 c_106
          refine wa_lconst C (v := 0) dX12_multiplyParts_21 rfl ?_
          refine wa_sub C [0, 1, 2] rfl ?_
          exact k_99 (0 : Int64) h
        · replace h := h.2 c_106
          refine wa_lconst C (v := 1) dX12_multiplyParts_17 rfl ?_
          refine wa_goto C (tgt := 22) dX12_multiplyParts_18 (by decide) ?_
          refine wa_sub C [0, 1, 2] rfl ?_
          exact k_99 (1 : Int64) h
  refine wa_sub C [1, 2, 0] rfl ?_
  exact k_5 n_2 0 M_big (inR_k 0 rfl) h0Inv_1
def P_X12_choose (post : (Int → Int64) → Prop) (M_big : Int → Int64) (x1 : Int) : Prop :=
  ∃ Inv_1 : Nat → (Int) → (Int → Int64) → Prop, (∃ n_2 : Nat, Inv_1 n_2 0 M_big) ∧ ∀ (n_3 : Nat) (x2_6 : Int) (M_big_7 : Int → Int64), inR x2_6 → Inv_1 n_3 x2_6 M_big_7 → ((145 ≤ x2_6 → (∃ Inv_9 : Nat → (Int) → (Int → Int64) → Prop, (∃ n_10 : Nat, Inv_9 n_10 0 M_big_7) ∧ ∀ (n_11 : Nat) (x2_14 : Int) (M_big_15 : Int → Int64), inR x2_14 → Inv_9 n_11 x2_14 M_big_15 → ((x1 ≤ x2_14 → (post M_big_15)) ∧ (¬ x1 ≤ x2_14 → (∃ Inv_17 : Nat → (Int) → (Int → Int64) → Prop, (∃ n_18 : Nat, Inv_17 n_18 144 M_big_15) ∧ ∀ (n_19 : Nat) (x3_22 : Int) (M_big_23 : Int → Int64), inR x3_22 → Inv_17 n_19 x3_22 M_big_23 → ((x3_22 ≤ 0 → (inR (x2_14 + 1) ∧ (∀ x2_26 : Int, x2_26 = (x2_14 + 1) → (∃ n_27 : Nat, n_27 < n_11 ∧ Inv_9 n_27 x2_26 M_big_23)))) ∧ (¬ x3_22 ≤ 0 → (inR (290 + x3_22) ∧ (inR ((290 + x3_22) - 1) ∧ (P_X12_add (fun (M_big_30 : Int → Int64) => (inR (x3_22 + (-1)) ∧ (∀ x3_32 : Int, x3_32 = (x3_22 + (-1)) → (∃ n_33 : Nat, n_33 < n_19 ∧ Inv_17 n_33 x3_32 M_big_30)))) M_big_23 (290 + x3_22) ((290 + x3_22) - 1) (1 : Int64))))))))))) ∧ (¬ 145 ≤ x2_6 → (∃ J_34 : (Int64) → Prop, ((¬ x2_6 = 0 → (J_34 (0 : Int64))) ∧ (x2_6 = 0 → (J_34 (1 : Int64)))) ∧ (∀ (z_36 : Int64), J_34 z_36 → (inR (290 + x2_6) ∧ (P_X12_put (fun (M_big_38 : Int → Int64) => (inR (x2_6 + 1) ∧ (∀ x2_40 : Int, x2_40 = (x2_6 + 1) → (∃ n_41 : Nat, n_41 < n_3 ∧ Inv_1 n_41 x2_40 M_big_38)))) M_big_7 (290 + x2_6) z_36))))))
set_option maxRecDepth 100000 in
set_option maxHeartbeats 4000000 in
theorem c_X12_choose (l : Launch) (K : wK) (ad : Nat → Nat) {M_thrown : Int} {M_w : Int} {M_h : Int} {M_cells : Int} {M_shape : Int} {M_isBoard : Int} {M_isBlank : Int} {M_lives : Int} {M_moves : Int} {M_parts : Int} {M_numbers : Int} {M_grade : Int} {M_reasons : Int} {M_total : Int} {M_near : Int → Int} {M_degree : Int → Int} {M_mine : Int → Int} {M_state : Int → Int} {M_history : Int → Int64} {M_oldLives : Int → Int} {M_safe : Int → Int} {M_mined : Int → Int} {M_used : Int → Int} {M_partOf : Int → Int} {M_placeOf : Int → Int} {M_partSize : Int → Int} {M_ways : Int → Int} {M_with : Int → Int} {M_masks : Int → Int} {M_rests : Int → Int} {M_bits : Int → Int} {M_reach : Int → Int} {M_more : Int → Int} {M_reason : Int → Int} {M_big : Int → Int64} {M_region : Int → Int} (x1 : Int) (rx1 : inR x1) (post : (Int → Int64) → Prop) (h : P_X12_choose post M_big x1) : mV l yX12_choose (Cond.code yX12_choose cX12_choose 4 none :: GT) ({ frames := 4, cells := 0, slots := 0, locals := 240 } : Room) [.ref (ad 0), .int (iI x1)] K ad (mW M_thrown M_w M_h M_cells M_shape M_isBoard M_isBlank M_lives M_moves M_parts M_numbers M_grade M_reasons M_total M_near M_degree M_mine M_state M_history M_oldLives M_safe M_mined M_used M_partOf M_placeOf M_partSize M_ways M_with M_masks M_rests M_bits M_reach M_more M_reason M_big M_region) (fun u9 => ∃ M_big9, u9 = (mW M_thrown M_w M_h M_cells M_shape M_isBoard M_isBlank M_lives M_moves M_parts M_numbers M_grade M_reasons M_total M_near M_degree M_mine M_state M_history M_oldLives M_safe M_mined M_used M_partOf M_placeOf M_partSize M_ways M_with M_masks M_rests M_bits M_reach M_more M_reason M_big9 M_region) ∧ post M_big9) := by
  refine mV_of (lv0 := [(0, .ref (ad 0)), (1, .int (iI x1))]) (by decide) (Nat.le_of_ble_eq_true rfl) rfl ?_
  intro p e s m args below meth c Q A C ret
  replace C : Cx p ({ frames := 4, cells := 0, slots := 0, locals := 240 } : Room) m c 0 0 cX12_choose 4 s args RX12 K A := C
  unfold P_X12_choose at h
  refine wa_iconst C (z := 0) dX12_choose_0 rfl ?_
  refine wa_istore_n C dX12_choose_1 rfl (by decide) rfl ?_
  obtain ⟨Inv_1, ⟨n_2, h0Inv_1⟩, hInv_1⟩ := h
  have k_5 : ∀ (n_3 : Nat) (x2_6 : Int) (M_big_7 : Int → Int64), inR x2_6 → Inv_1 n_3 x2_6 M_big_7 → WA p l e ({ frames := 4, cells := 0, slots := 0, locals := 240 } : Room) s m args below meth c 0 0 Q K ad 4 A 2 [(0, .ref (ad 0)), (1, .int (iI x1)), (2, .int (iI x2_6))] [] (mW M_thrown M_w M_h M_cells M_shape M_isBoard M_isBlank M_lives M_moves M_parts M_numbers M_grade M_reasons M_total M_near M_degree M_mine M_state M_history M_oldLives M_safe M_mined M_used M_partOf M_placeOf M_partSize M_ways M_with M_masks M_rests M_bits M_reach M_more M_reason M_big_7 M_region) := by
    intro n_3
    induction n_3 using Nat.strongRecOn with
    | ind n_3 ih_4 =>
      intro x2_6 M_big_7 rx2_6 h
      replace h := hInv_1 n_3 x2_6 M_big_7 rx2_6 h
      refine wa_iload_n C 2 rfl dX12_choose_2 rfl ?_
      refine wa_sipush C (z := 145) dX12_choose_3 (by decide) ?_
      refine wa_icmp_ge C (tgt := 33) rx2_6 (inR_k 145 rfl) dX12_choose_6 (by decide) (fun c_8 => ?_) (fun c_8 => ?_)
      · replace h := h.1 c_8
        refine wa_iconst C (z := 0) dX12_choose_33 rfl ?_
        refine wa_istore_n C dX12_choose_34 rfl (by decide) rfl ?_
        obtain ⟨Inv_9, ⟨n_10, h0Inv_9⟩, hInv_9⟩ := h
        have k_13 : ∀ (n_11 : Nat) (x2_14 : Int) (M_big_15 : Int → Int64), inR x2_14 → Inv_9 n_11 x2_14 M_big_15 → WA p l e ({ frames := 4, cells := 0, slots := 0, locals := 240 } : Room) s m args below meth c 0 0 Q K ad 4 A 35 [(0, .ref (ad 0)), (1, .int (iI x1)), (2, .int (iI x2_14))] [] (mW M_thrown M_w M_h M_cells M_shape M_isBoard M_isBlank M_lives M_moves M_parts M_numbers M_grade M_reasons M_total M_near M_degree M_mine M_state M_history M_oldLives M_safe M_mined M_used M_partOf M_placeOf M_partSize M_ways M_with M_masks M_rests M_bits M_reach M_more M_reason M_big_15 M_region) := by
          intro n_11
          induction n_11 using Nat.strongRecOn with
          | ind n_11 ih_12 =>
            intro x2_14 M_big_15 rx2_14 h
            replace h := hInv_9 n_11 x2_14 M_big_15 rx2_14 h
            refine wa_iload_n C 2 rfl dX12_choose_35 rfl ?_
            refine wa_iload_n C 1 rfl dX12_choose_36 rfl ?_
            refine wa_icmp_ge C (tgt := 77) rx2_14 rx1 dX12_choose_37 (by decide) (fun c_16 => ?_) (fun c_16 => ?_)
            · replace h := h.1 c_16
              exact ret dX12_choose_77 ⟨_, rfl, h⟩
            · replace h := h.2 c_16
              refine wa_sipush C (z := 144) dX12_choose_40 (by decide) ?_
              refine wa_istore_n C dX12_choose_43 rfl (by decide) rfl ?_
              obtain ⟨Inv_17, ⟨n_18, h0Inv_17⟩, hInv_17⟩ := h
              have k_21 : ∀ (n_19 : Nat) (x3_22 : Int) (M_big_23 : Int → Int64), inR x3_22 → Inv_17 n_19 x3_22 M_big_23 → WA p l e ({ frames := 4, cells := 0, slots := 0, locals := 240 } : Room) s m args below meth c 0 0 Q K ad 4 A 44 [(0, .ref (ad 0)), (1, .int (iI x1)), (2, .int (iI x2_14)), (3, .int (iI x3_22))] [] (mW M_thrown M_w M_h M_cells M_shape M_isBoard M_isBlank M_lives M_moves M_parts M_numbers M_grade M_reasons M_total M_near M_degree M_mine M_state M_history M_oldLives M_safe M_mined M_used M_partOf M_placeOf M_partSize M_ways M_with M_masks M_rests M_bits M_reach M_more M_reason M_big_23 M_region) := by
                intro n_19
                induction n_19 using Nat.strongRecOn with
                | ind n_19 ih_20 =>
                  intro x3_22 M_big_23 rx3_22 h
                  replace h := hInv_17 n_19 x3_22 M_big_23 rx3_22 h
                  refine wa_iload_n C 3 rfl dX12_choose_44 rfl ?_
                  refine wa_if_le C (tgt := 71) rx3_22 dX12_choose_45 (by decide) (fun c_24 => ?_) (fun c_24 => ?_)
                  · replace h := h.1 c_24
                    obtain ⟨r_25, h⟩ := h
                    refine wa_iinc C (lv' := fun w9 => [(2, .int (iI w9)), (0, .ref (ad 0)), (1, .int (iI x1)), (3, .int (iI x3_22))]) 2 rfl dX12_choose_71 (by decide) (fun _ => rfl) (fun x2_26 ex2_26 => ?_)
                    replace h := h x2_26 ex2_26
                    have rx2_26 : inR x2_26 := by rw [ex2_26]; exact r_25
                    refine wa_goto C (tgt := 35) dX12_choose_74 (by decide) ?_
                    obtain ⟨n_27, ln_27, h⟩ := h
                    refine wa_sub C [1, 2, 0] rfl ?_
                    exact ih_12 n_27 ln_27 x2_26 M_big_23 rx2_26 h
                  · replace h := h.2 c_24
                    refine wa_aload_n C 0 rfl dX12_choose_48 rfl ?_
                    refine wa_sipush C (z := 290) dX12_choose_49 (by decide) ?_
                    refine wa_iload_n C 3 rfl dX12_choose_52 rfl ?_
                    refine wa_iadd C dX12_choose_53 ?_
                    refine wa_sipush C (z := 290) dX12_choose_54 (by decide) ?_
                    refine wa_iload_n C 3 rfl dX12_choose_57 rfl ?_
                    refine wa_iadd C dX12_choose_58 ?_
                    refine wa_iconst C (z := 1) dX12_choose_59 rfl ?_
                    refine wa_isub C dX12_choose_60 ?_
                    refine wa_lconst C (v := 1) dX12_choose_61 rfl ?_
                    obtain ⟨r_28, h⟩ := h
                    obtain ⟨r_29, h⟩ := h
                    refine wa_callVv C (k := 0) (As := [.int (iI (290 + x3_22)), .int (iI ((290 + x3_22) - 1)), .long (1 : Int64)]) (rest := []) (c_X12_add l K ad (290 + x3_22) ((290 + x3_22) - 1) (1 : Int64) r_28 r_29 _ h) gw_1624 gw_1621 mW_0 rfl gw_1623 gs_104 gw_12 q_X12_add rfl rfl rfl ⟨by decide, by decide⟩ rfl (Nat.le_of_ble_eq_true rfl) dX12_choose_62 (fun u9 hp => ?_)
                    obtain ⟨M_big_30, rfl, h⟩ := hp
                    obtain ⟨r_31, h⟩ := h
                    refine wa_iinc C (lv' := fun w9 => [(3, .int (iI w9)), (0, .ref (ad 0)), (1, .int (iI x1)), (2, .int (iI x2_14))]) 3 rfl dX12_choose_65 (by decide) (fun _ => rfl) (fun x3_32 ex3_32 => ?_)
                    replace h := h x3_32 ex3_32
                    have rx3_32 : inR x3_32 := by rw [ex3_32]; exact r_31
                    refine wa_goto C (tgt := 44) dX12_choose_68 (by decide) ?_
                    obtain ⟨n_33, ln_33, h⟩ := h
                    refine wa_sub C [1, 2, 3, 0] rfl ?_
                    exact ih_20 n_33 ln_33 x3_32 M_big_30 rx3_32 h
              refine wa_sub C [1, 2, 3, 0] rfl ?_
              exact k_21 n_18 144 M_big_15 (inR_k 144 rfl) h0Inv_17
        refine wa_sub C [1, 2, 0] rfl ?_
        exact k_13 n_10 0 M_big_7 (inR_k 0 rfl) h0Inv_9
      · replace h := h.2 c_8
        refine wa_aload_n C 0 rfl dX12_choose_9 rfl ?_
        refine wa_sipush C (z := 290) dX12_choose_10 (by decide) ?_
        refine wa_iload_n C 2 rfl dX12_choose_13 rfl ?_
        refine wa_iadd C dX12_choose_14 ?_
        refine wa_iload_n C 2 rfl dX12_choose_15 rfl ?_
        obtain ⟨J_34, h, hJ_34⟩ := h
        have k_35 : ∀ (z_36 : Int64), J_34 z_36 → WA p l e ({ frames := 4, cells := 0, slots := 0, locals := 240 } : Room) s m args below meth c 0 0 Q K ad 4 A 24 [(0, .ref (ad 0)), (1, .int (iI x1)), (2, .int (iI x2_6))] [.long z_36, .int (iI (290 + x2_6)), .ref (ad 0)] (mW M_thrown M_w M_h M_cells M_shape M_isBoard M_isBlank M_lives M_moves M_parts M_numbers M_grade M_reasons M_total M_near M_degree M_mine M_state M_history M_oldLives M_safe M_mined M_used M_partOf M_placeOf M_partSize M_ways M_with M_masks M_rests M_bits M_reach M_more M_reason M_big_7 M_region) := by
          intro z_36 h
          replace h := hJ_34 z_36 h
          obtain ⟨r_37, h⟩ := h
          refine wa_callVv C (k := 0) (As := [.int (iI (290 + x2_6)), .long z_36]) (rest := []) (c_X12_put l K ad (290 + x2_6) z_36 r_37 _ h) gw_1620 gw_1617 mW_0 rfl gw_1619 gs_103 gw_12 q_X12_put rfl rfl rfl ⟨by decide, by decide⟩ rfl (Nat.le_of_ble_eq_true rfl) dX12_choose_24 (fun u9 hp => ?_)
          obtain ⟨M_big_38, rfl, h⟩ := hp
          obtain ⟨r_39, h⟩ := h
          refine wa_iinc C (lv' := fun w9 => [(2, .int (iI w9)), (0, .ref (ad 0)), (1, .int (iI x1))]) 2 rfl dX12_choose_27 (by decide) (fun _ => rfl) (fun x2_40 ex2_40 => ?_)
          replace h := h x2_40 ex2_40
          have rx2_40 : inR x2_40 := by rw [ex2_40]; exact r_39
          refine wa_goto C (tgt := 2) dX12_choose_30 (by decide) ?_
          obtain ⟨n_41, ln_41, h⟩ := h
          refine wa_sub C [1, 2, 0] rfl ?_
          exact ih_4 n_41 ln_41 x2_40 M_big_38 rx2_40 h
        refine wa_if_ne C (tgt := 23) rx2_6 dX12_choose_16 (by decide) (fun c_42 => ?_) (fun c_42 => ?_)
        · replace h := h.1 c_42
          refine wa_lconst C (v := 0) dX12_choose_23 rfl ?_
          refine wa_sub C [0, 1, 2] rfl ?_
          exact k_35 (0 : Int64) h
        · replace h := h.2 c_42
          refine wa_lconst C (v := 1) dX12_choose_19 rfl ?_
          refine wa_goto C (tgt := 24) dX12_choose_20 (by decide) ?_
          refine wa_sub C [0, 1, 2] rfl ?_
          exact k_35 (1 : Int64) h
  refine wa_sub C [1, 2, 0] rfl ?_
  exact k_5 n_2 0 M_big (inR_k 0 rfl) h0Inv_1
def P_X12_addProduct (post : (Int → Int64) → Prop) (M_big : Int → Int64) (x1 : Int) (x2 : Int) (x3 : Int) : Prop :=
  ∃ Inv_1 : Nat → (Int) → (Int → Int64) → Prop, (∃ n_2 : Nat, Inv_1 n_2 0 M_big) ∧ ∀ (n_3 : Nat) (x4_6 : Int) (M_big_7 : Int → Int64), inR x4_6 → Inv_1 n_3 x4_6 M_big_7 → ((6 ≤ x4_6 → (post M_big_7)) ∧ (¬ 6 ≤ x4_6 → (∃ Inv_9 : Nat → (Int) → (Int → Int64) → Prop, (∃ n_10 : Nat, Inv_9 n_10 0 M_big_7) ∧ ∀ (n_11 : Nat) (x5_14 : Int) (M_big_15 : Int → Int64), inR x5_14 → Inv_9 n_11 x5_14 M_big_15 → (inR (x5_14 + x4_6) ∧ (∃ J_17 : Prop, ((6 ≤ (x5_14 + x4_6) → (J_17)) ∧ (¬ 6 ≤ (x5_14 + x4_6) → ((0 ≤ ((6 * x2) + x4_6) ∧ ((6 * x2) + x4_6) < 2700) ∧ (∀ v_24 : Int64, v_24 = M_big_15 ((6 * x2) + x4_6) → (((lcI v_24 (0 : Int64)) ≤ 0 → (J_17)) ∧ (¬ (lcI v_24 (0 : Int64)) ≤ 0 → ((0 ≤ (((6 * x1) + x4_6) + x5_14) ∧ (((6 * x1) + x4_6) + x5_14) < 2700) ∧ (∀ v_27 : Int64, v_27 = M_big_15 (((6 * x1) + x4_6) + x5_14) → ((0 ≤ ((6 * x2) + x4_6) ∧ ((6 * x2) + x4_6) < 2700) ∧ (∀ v_29 : Int64, v_29 = M_big_15 ((6 * x2) + x4_6) → ((0 ≤ ((6 * x3) + x5_14) ∧ ((6 * x3) + x5_14) < 2700) ∧ (∀ v_31 : Int64, v_31 = M_big_15 ((6 * x3) + x5_14) → ((0 ≤ (((6 * x1) + x4_6) + x5_14) ∧ (((6 * x1) + x4_6) + x5_14) < 2700) ∧ (∀ M_big_33 : Int → Int64, M_big_33 = upZ M_big_15 (((6 * x1) + x4_6) + x5_14) (v_27 + (v_29 * v_31)) → (P_X12_settle (fun (M_big_34 : Int → Int64) => (inR (x5_14 + 1) ∧ (∀ x5_36 : Int, x5_36 = (x5_14 + 1) → (∃ n_37 : Nat, n_37 < n_11 ∧ Inv_9 n_37 x5_36 M_big_34)))) M_big_33 x1))))))))))))))) ∧ (J_17 → (inR (x4_6 + 1) ∧ (∀ x4_20 : Int, x4_20 = (x4_6 + 1) → (∃ n_21 : Nat, n_21 < n_3 ∧ Inv_1 n_21 x4_20 M_big_15)))))))))
set_option maxRecDepth 100000 in
set_option maxHeartbeats 4000000 in
theorem c_X12_addProduct (l : Launch) (K : wK) (ad : Nat → Nat) {M_thrown : Int} {M_w : Int} {M_h : Int} {M_cells : Int} {M_shape : Int} {M_isBoard : Int} {M_isBlank : Int} {M_lives : Int} {M_moves : Int} {M_parts : Int} {M_numbers : Int} {M_grade : Int} {M_reasons : Int} {M_total : Int} {M_near : Int → Int} {M_degree : Int → Int} {M_mine : Int → Int} {M_state : Int → Int} {M_history : Int → Int64} {M_oldLives : Int → Int} {M_safe : Int → Int} {M_mined : Int → Int} {M_used : Int → Int} {M_partOf : Int → Int} {M_placeOf : Int → Int} {M_partSize : Int → Int} {M_ways : Int → Int} {M_with : Int → Int} {M_masks : Int → Int} {M_rests : Int → Int} {M_bits : Int → Int} {M_reach : Int → Int} {M_more : Int → Int} {M_reason : Int → Int} {M_big : Int → Int64} {M_region : Int → Int} (x1 : Int) (x2 : Int) (x3 : Int) (rx1 : inR x1) (rx2 : inR x2) (rx3 : inR x3) (post : (Int → Int64) → Prop) (h : P_X12_addProduct post M_big x1 x2 x3) : mV l yX12_addProduct (Cond.code yX12_addProduct cX12_addProduct 6 none :: GT) ({ frames := 3, cells := 0, slots := 0, locals := 180 } : Room) [.ref (ad 0), .int (iI x1), .int (iI x2), .int (iI x3)] K ad (mW M_thrown M_w M_h M_cells M_shape M_isBoard M_isBlank M_lives M_moves M_parts M_numbers M_grade M_reasons M_total M_near M_degree M_mine M_state M_history M_oldLives M_safe M_mined M_used M_partOf M_placeOf M_partSize M_ways M_with M_masks M_rests M_bits M_reach M_more M_reason M_big M_region) (fun u9 => ∃ M_big9, u9 = (mW M_thrown M_w M_h M_cells M_shape M_isBoard M_isBlank M_lives M_moves M_parts M_numbers M_grade M_reasons M_total M_near M_degree M_mine M_state M_history M_oldLives M_safe M_mined M_used M_partOf M_placeOf M_partSize M_ways M_with M_masks M_rests M_bits M_reach M_more M_reason M_big9 M_region) ∧ post M_big9) := by
  refine mV_of (lv0 := [(0, .ref (ad 0)), (1, .int (iI x1)), (2, .int (iI x2)), (3, .int (iI x3))]) (by decide) (Nat.le_of_ble_eq_true rfl) rfl ?_
  intro p e s m args below meth c Q A C ret
  replace C : Cx p ({ frames := 3, cells := 0, slots := 0, locals := 180 } : Room) m c 0 0 cX12_addProduct 6 s args RX12 K A := C
  unfold P_X12_addProduct at h
  refine wa_iconst C (z := 0) dX12_addProduct_0 rfl ?_
  refine wa_istore C dX12_addProduct_1 (by decide) rfl ?_
  obtain ⟨Inv_1, ⟨n_2, h0Inv_1⟩, hInv_1⟩ := h
  have k_5 : ∀ (n_3 : Nat) (x4_6 : Int) (M_big_7 : Int → Int64), inR x4_6 → Inv_1 n_3 x4_6 M_big_7 → WA p l e ({ frames := 3, cells := 0, slots := 0, locals := 180 } : Room) s m args below meth c 0 0 Q K ad 6 A 3 [(0, .ref (ad 0)), (1, .int (iI x1)), (2, .int (iI x2)), (3, .int (iI x3)), (4, .int (iI x4_6))] [] (mW M_thrown M_w M_h M_cells M_shape M_isBoard M_isBlank M_lives M_moves M_parts M_numbers M_grade M_reasons M_total M_near M_degree M_mine M_state M_history M_oldLives M_safe M_mined M_used M_partOf M_placeOf M_partSize M_ways M_with M_masks M_rests M_bits M_reach M_more M_reason M_big_7 M_region) := by
    intro n_3
    induction n_3 using Nat.strongRecOn with
    | ind n_3 ih_4 =>
      intro x4_6 M_big_7 rx4_6 h
      replace h := hInv_1 n_3 x4_6 M_big_7 rx4_6 h
      refine wa_iload C 4 rfl dX12_addProduct_3 ?_
      refine wa_bipush C (z := 6) dX12_addProduct_5 (by decide) ?_
      refine wa_icmp_ge C (tgt := 100) rx4_6 (inR_k 6 rfl) dX12_addProduct_7 (by decide) (fun c_8 => ?_) (fun c_8 => ?_)
      · replace h := h.1 c_8
        exact ret dX12_addProduct_100 ⟨_, rfl, h⟩
      · replace h := h.2 c_8
        refine wa_iconst C (z := 0) dX12_addProduct_10 rfl ?_
        refine wa_istore C dX12_addProduct_11 (by decide) rfl ?_
        obtain ⟨Inv_9, ⟨n_10, h0Inv_9⟩, hInv_9⟩ := h
        have k_13 : ∀ (n_11 : Nat) (x5_14 : Int) (M_big_15 : Int → Int64), inR x5_14 → Inv_9 n_11 x5_14 M_big_15 → WA p l e ({ frames := 3, cells := 0, slots := 0, locals := 180 } : Room) s m args below meth c 0 0 Q K ad 6 A 13 [(0, .ref (ad 0)), (1, .int (iI x1)), (2, .int (iI x2)), (3, .int (iI x3)), (4, .int (iI x4_6)), (5, .int (iI x5_14))] [] (mW M_thrown M_w M_h M_cells M_shape M_isBoard M_isBlank M_lives M_moves M_parts M_numbers M_grade M_reasons M_total M_near M_degree M_mine M_state M_history M_oldLives M_safe M_mined M_used M_partOf M_placeOf M_partSize M_ways M_with M_masks M_rests M_bits M_reach M_more M_reason M_big_15 M_region) := by
          intro n_11
          induction n_11 using Nat.strongRecOn with
          | ind n_11 ih_12 =>
            intro x5_14 M_big_15 rx5_14 h
            replace h := hInv_9 n_11 x5_14 M_big_15 rx5_14 h
            refine wa_iload C 5 rfl dX12_addProduct_13 ?_
            refine wa_iload C 4 rfl dX12_addProduct_15 ?_
            refine wa_iadd C dX12_addProduct_17 ?_
            refine wa_bipush C (z := 6) dX12_addProduct_18 (by decide) ?_
            obtain ⟨r_16, h⟩ := h
            obtain ⟨J_17, h, hJ_17⟩ := h
            have k_18 : J_17 → WA p l e ({ frames := 3, cells := 0, slots := 0, locals := 180 } : Room) s m args below meth c 0 0 Q K ad 6 A 94 [(0, .ref (ad 0)), (1, .int (iI x1)), (2, .int (iI x2)), (3, .int (iI x3)), (4, .int (iI x4_6))] [] (mW M_thrown M_w M_h M_cells M_shape M_isBoard M_isBlank M_lives M_moves M_parts M_numbers M_grade M_reasons M_total M_near M_degree M_mine M_state M_history M_oldLives M_safe M_mined M_used M_partOf M_placeOf M_partSize M_ways M_with M_masks M_rests M_bits M_reach M_more M_reason M_big_15 M_region) := by
              intro h
              replace h := hJ_17 h
              obtain ⟨r_19, h⟩ := h
              refine wa_iinc C (lv' := fun w9 => [(4, .int (iI w9)), (0, .ref (ad 0)), (1, .int (iI x1)), (2, .int (iI x2)), (3, .int (iI x3))]) 4 rfl dX12_addProduct_94 (by decide) (fun _ => rfl) (fun x4_20 ex4_20 => ?_)
              replace h := h x4_20 ex4_20
              have rx4_20 : inR x4_20 := by rw [ex4_20]; exact r_19
              refine wa_goto C (tgt := 3) dX12_addProduct_97 (by decide) ?_
              obtain ⟨n_21, ln_21, h⟩ := h
              refine wa_sub C [1, 2, 3, 4, 0] rfl ?_
              exact ih_4 n_21 ln_21 x4_20 M_big_15 rx4_20 h
            refine wa_icmp_ge C (tgt := 94) r_16 (inR_k 6 rfl) dX12_addProduct_20 (by decide) (fun c_22 => ?_) (fun c_22 => ?_)
            · replace h := h.1 c_22
              refine wa_sub C [0, 1, 2, 3, 4] rfl ?_
              exact k_18 h
            · replace h := h.2 c_22
              refine wa_aload_n C 0 rfl dX12_addProduct_23 rfl ?_
              refine wa_getR C 0 34 mW_0 rfl rfl (by decide) okX12 gw_1266 dX12_addProduct_24 ?_
              refine wa_bipush C (z := 6) dX12_addProduct_27 (by decide) ?_
              refine wa_iload_n C 2 rfl dX12_addProduct_29 rfl ?_
              refine wa_imul C dX12_addProduct_30 ?_
              refine wa_iload C 4 rfl dX12_addProduct_31 ?_
              refine wa_iadd C dX12_addProduct_33 ?_
              obtain ⟨t_23, h⟩ := h
              refine wa_lald C 21 mW_21 dX12_addProduct_34 t_23.1 t_23.2 (fun v_24 ev_24 => ?_)
              replace h := h v_24 ev_24
              refine wa_lconst C (v := 0) dX12_addProduct_35 rfl ?_
              refine wa_lcmp C dX12_addProduct_36 ?_
              refine wa_if_le C (tgt := 94) (lcI_r _ _) dX12_addProduct_37 (by decide) (fun c_25 => ?_) (fun c_25 => ?_)
              · replace h := h.1 c_25
                refine wa_sub C [0, 1, 2, 3, 4] rfl ?_
                exact k_18 h
              · replace h := h.2 c_25
                refine wa_aload_n C 0 rfl dX12_addProduct_40 rfl ?_
                refine wa_getR C 0 34 mW_0 rfl rfl (by decide) okX12 gw_1266 dX12_addProduct_41 ?_
                refine wa_bipush C (z := 6) dX12_addProduct_44 (by decide) ?_
                refine wa_iload_n C 1 rfl dX12_addProduct_46 rfl ?_
                refine wa_imul C dX12_addProduct_47 ?_
                refine wa_iload C 4 rfl dX12_addProduct_48 ?_
                refine wa_iadd C dX12_addProduct_50 ?_
                refine wa_iload C 5 rfl dX12_addProduct_51 ?_
                refine wa_iadd C dX12_addProduct_53 ?_
                refine wa_dup2 C dX12_addProduct_54 rfl rfl ?_
                obtain ⟨t_26, h⟩ := h
                refine wa_lald C 21 mW_21 dX12_addProduct_55 t_26.1 t_26.2 (fun v_27 ev_27 => ?_)
                replace h := h v_27 ev_27
                refine wa_aload_n C 0 rfl dX12_addProduct_56 rfl ?_
                refine wa_getR C 0 34 mW_0 rfl rfl (by decide) okX12 gw_1266 dX12_addProduct_57 ?_
                refine wa_bipush C (z := 6) dX12_addProduct_60 (by decide) ?_
                refine wa_iload_n C 2 rfl dX12_addProduct_62 rfl ?_
                refine wa_imul C dX12_addProduct_63 ?_
                refine wa_iload C 4 rfl dX12_addProduct_64 ?_
                refine wa_iadd C dX12_addProduct_66 ?_
                obtain ⟨t_28, h⟩ := h
                refine wa_lald C 21 mW_21 dX12_addProduct_67 t_28.1 t_28.2 (fun v_29 ev_29 => ?_)
                replace h := h v_29 ev_29
                refine wa_aload_n C 0 rfl dX12_addProduct_68 rfl ?_
                refine wa_getR C 0 34 mW_0 rfl rfl (by decide) okX12 gw_1266 dX12_addProduct_69 ?_
                refine wa_bipush C (z := 6) dX12_addProduct_72 (by decide) ?_
                refine wa_iload_n C 3 rfl dX12_addProduct_74 rfl ?_
                refine wa_imul C dX12_addProduct_75 ?_
                refine wa_iload C 5 rfl dX12_addProduct_76 ?_
                refine wa_iadd C dX12_addProduct_78 ?_
                obtain ⟨t_30, h⟩ := h
                refine wa_lald C 21 mW_21 dX12_addProduct_79 t_30.1 t_30.2 (fun v_31 ev_31 => ?_)
                replace h := h v_31 ev_31
                refine wa_lmul C dX12_addProduct_80 ?_
                refine wa_ladd C dX12_addProduct_81 ?_
                obtain ⟨t_32, h⟩ := h
                refine wa_last C (ws' := fun w9 => (mW M_thrown M_w M_h M_cells M_shape M_isBoard M_isBlank M_lives M_moves M_parts M_numbers M_grade M_reasons M_total M_near M_degree M_mine M_state M_history M_oldLives M_safe M_mined M_used M_partOf M_placeOf M_partSize M_ways M_with M_masks M_rests M_bits M_reach M_more M_reason w9 M_region)) 21 mW_21 dX12_addProduct_82 t_32.1 t_32.2 mWs_21 (fun M_big_33 eM_big_33 => ?_)
                replace h := h M_big_33 eM_big_33
                refine wa_aload_n C 0 rfl dX12_addProduct_83 rfl ?_
                refine wa_iload_n C 1 rfl dX12_addProduct_84 rfl ?_
                refine wa_callVv C (k := 0) (As := [.int (iI x1)]) (rest := []) (c_X12_settle l K ad x1 rx1 _ h) gw_1628 gw_1625 mW_0 rfl gw_1627 gs_105 gw_12 q_X12_settle rfl rfl rfl ⟨by decide, by decide⟩ rfl (Nat.le_of_ble_eq_true rfl) dX12_addProduct_85 (fun u9 hp => ?_)
                obtain ⟨M_big_34, rfl, h⟩ := hp
                obtain ⟨r_35, h⟩ := h
                refine wa_iinc C (lv' := fun w9 => [(5, .int (iI w9)), (0, .ref (ad 0)), (1, .int (iI x1)), (2, .int (iI x2)), (3, .int (iI x3)), (4, .int (iI x4_6))]) 5 rfl dX12_addProduct_88 (by decide) (fun _ => rfl) (fun x5_36 ex5_36 => ?_)
                replace h := h x5_36 ex5_36
                have rx5_36 : inR x5_36 := by rw [ex5_36]; exact r_35
                refine wa_goto C (tgt := 13) dX12_addProduct_91 (by decide) ?_
                obtain ⟨n_37, ln_37, h⟩ := h
                refine wa_sub C [1, 2, 3, 4, 5, 0] rfl ?_
                exact ih_12 n_37 ln_37 x5_36 M_big_34 rx5_36 h
        refine wa_sub C [1, 2, 3, 4, 5, 0] rfl ?_
        exact k_13 n_10 0 M_big_7 (inR_k 0 rfl) h0Inv_9
  refine wa_sub C [1, 2, 3, 4, 0] rfl ?_
  exact k_5 n_2 0 M_big (inR_k 0 rfl) h0Inv_1
def P_X12_sumUp (post : (Int → Int64) → Prop) (M_big : Int → Int64) (x1 : Int) (x2 : Int) (x3 : Int) : Prop :=
  P_X12_choose (fun (M_big_1 : Int → Int64) => (P_X12_put (fun (M_big_2 : Int → Int64) => (∃ Inv_3 : Nat → (Int) → (Int → Int64) → Prop, (∃ n_4 : Nat, Inv_3 n_4 0 M_big_2) ∧ ∀ (n_5 : Nat) (x4_8 : Int) (M_big_9 : Int → Int64), inR x4_8 → Inv_3 n_5 x4_8 M_big_9 → ((145 ≤ x4_8 → (post M_big_9)) ∧ (¬ 145 ≤ x4_8 → (inR (x2 - x4_8) ∧ (P_X12_within (fun (c_12 : Int) => (c_12 = 0 ∨ c_12 = 1) → (∃ J_13 : (Int → Int64) → Prop, ((c_12 = 0 → (J_13 M_big_9)) ∧ (¬ c_12 = 0 → (inR (0 + x4_8) ∧ (inR ((290 + x2) - x4_8) ∧ (P_X12_addProduct (fun (M_big_22 : Int → Int64) => (J_13 M_big_22)) M_big_9 x1 (0 + x4_8) ((290 + x2) - x4_8)))))) ∧ (∀ (M_big_15 : Int → Int64), J_13 M_big_15 → (inR (x4_8 + 1) ∧ (∀ x4_17 : Int, x4_17 = (x4_8 + 1) → (∃ n_18 : Nat, n_18 < n_5 ∧ Inv_3 n_18 x4_17 M_big_15))))))  (x2 - x4_8) 0 x3)))))) M_big_1 x1 (0 : Int64))) M_big x3
set_option maxRecDepth 100000 in
set_option maxHeartbeats 4000000 in
theorem c_X12_sumUp (l : Launch) (K : wK) (ad : Nat → Nat) {M_thrown : Int} {M_w : Int} {M_h : Int} {M_cells : Int} {M_shape : Int} {M_isBoard : Int} {M_isBlank : Int} {M_lives : Int} {M_moves : Int} {M_parts : Int} {M_numbers : Int} {M_grade : Int} {M_reasons : Int} {M_total : Int} {M_near : Int → Int} {M_degree : Int → Int} {M_mine : Int → Int} {M_state : Int → Int} {M_history : Int → Int64} {M_oldLives : Int → Int} {M_safe : Int → Int} {M_mined : Int → Int} {M_used : Int → Int} {M_partOf : Int → Int} {M_placeOf : Int → Int} {M_partSize : Int → Int} {M_ways : Int → Int} {M_with : Int → Int} {M_masks : Int → Int} {M_rests : Int → Int} {M_bits : Int → Int} {M_reach : Int → Int} {M_more : Int → Int} {M_reason : Int → Int} {M_big : Int → Int64} {M_region : Int → Int} (x1 : Int) (x2 : Int) (x3 : Int) (rx1 : inR x1) (rx2 : inR x2) (rx3 : inR x3) (post : (Int → Int64) → Prop) (h : P_X12_sumUp post M_big x1 x2 x3) : mV l yX12_sumUp (Cond.code yX12_sumUp cX12_sumUp 5 none :: GT) ({ frames := 5, cells := 0, slots := 0, locals := 300 } : Room) [.ref (ad 0), .int (iI x1), .int (iI x2), .int (iI x3)] K ad (mW M_thrown M_w M_h M_cells M_shape M_isBoard M_isBlank M_lives M_moves M_parts M_numbers M_grade M_reasons M_total M_near M_degree M_mine M_state M_history M_oldLives M_safe M_mined M_used M_partOf M_placeOf M_partSize M_ways M_with M_masks M_rests M_bits M_reach M_more M_reason M_big M_region) (fun u9 => ∃ M_big9, u9 = (mW M_thrown M_w M_h M_cells M_shape M_isBoard M_isBlank M_lives M_moves M_parts M_numbers M_grade M_reasons M_total M_near M_degree M_mine M_state M_history M_oldLives M_safe M_mined M_used M_partOf M_placeOf M_partSize M_ways M_with M_masks M_rests M_bits M_reach M_more M_reason M_big9 M_region) ∧ post M_big9) := by
  refine mV_of (lv0 := [(0, .ref (ad 0)), (1, .int (iI x1)), (2, .int (iI x2)), (3, .int (iI x3))]) (by decide) (Nat.le_of_ble_eq_true rfl) rfl ?_
  intro p e s m args below meth c Q A C ret
  replace C : Cx p ({ frames := 5, cells := 0, slots := 0, locals := 300 } : Room) m c 0 0 cX12_sumUp 5 s args RX12 K A := C
  unfold P_X12_sumUp at h
  refine wa_aload_n C 0 rfl dX12_sumUp_0 rfl ?_
  refine wa_iload_n C 3 rfl dX12_sumUp_1 rfl ?_
  refine wa_callVv C (k := 0) (As := [.int (iI x3)]) (rest := []) (c_X12_choose l K ad x3 rx3 _ h) gw_1641 gw_1638 mW_0 rfl gw_1640 gs_108 gw_12 q_X12_choose rfl rfl rfl ⟨by decide, by decide⟩ rfl (Nat.le_of_ble_eq_true rfl) dX12_sumUp_2 (fun u9 hp => ?_)
  obtain ⟨M_big_1, rfl, h⟩ := hp
  refine wa_aload_n C 0 rfl dX12_sumUp_5 rfl ?_
  refine wa_iload_n C 1 rfl dX12_sumUp_6 rfl ?_
  refine wa_lconst C (v := 0) dX12_sumUp_7 rfl ?_
  refine wa_callVv C (k := 0) (As := [.int (iI x1), .long (0 : Int64)]) (rest := []) (c_X12_put l K ad x1 (0 : Int64) rx1 _ h) gw_1620 gw_1617 mW_0 rfl gw_1619 gs_103 gw_12 q_X12_put rfl rfl rfl ⟨by decide, by decide⟩ rfl (Nat.le_of_ble_eq_true rfl) dX12_sumUp_8 (fun u9 hp => ?_)
  obtain ⟨M_big_2, rfl, h⟩ := hp
  refine wa_iconst C (z := 0) dX12_sumUp_11 rfl ?_
  refine wa_istore C dX12_sumUp_12 (by decide) rfl ?_
  obtain ⟨Inv_3, ⟨n_4, h0Inv_3⟩, hInv_3⟩ := h
  have k_7 : ∀ (n_5 : Nat) (x4_8 : Int) (M_big_9 : Int → Int64), inR x4_8 → Inv_3 n_5 x4_8 M_big_9 → WA p l e ({ frames := 5, cells := 0, slots := 0, locals := 300 } : Room) s m args below meth c 0 0 Q K ad 5 A 14 [(0, .ref (ad 0)), (1, .int (iI x1)), (2, .int (iI x2)), (3, .int (iI x3)), (4, .int (iI x4_8))] [] (mW M_thrown M_w M_h M_cells M_shape M_isBoard M_isBlank M_lives M_moves M_parts M_numbers M_grade M_reasons M_total M_near M_degree M_mine M_state M_history M_oldLives M_safe M_mined M_used M_partOf M_placeOf M_partSize M_ways M_with M_masks M_rests M_bits M_reach M_more M_reason M_big_9 M_region) := by
    intro n_5
    induction n_5 using Nat.strongRecOn with
    | ind n_5 ih_6 =>
      intro x4_8 M_big_9 rx4_8 h
      replace h := hInv_3 n_5 x4_8 M_big_9 rx4_8 h
      refine wa_iload C 4 rfl dX12_sumUp_14 ?_
      refine wa_sipush C (z := 145) dX12_sumUp_16 (by decide) ?_
      refine wa_icmp_ge C (tgt := 57) rx4_8 (inR_k 145 rfl) dX12_sumUp_19 (by decide) (fun c_10 => ?_) (fun c_10 => ?_)
      · replace h := h.1 c_10
        exact ret dX12_sumUp_57 ⟨_, rfl, h⟩
      · replace h := h.2 c_10
        refine wa_iload_n C 2 rfl dX12_sumUp_22 rfl ?_
        refine wa_iload C 4 rfl dX12_sumUp_23 ?_
        refine wa_isub C dX12_sumUp_25 ?_
        refine wa_iconst C (z := 0) dX12_sumUp_26 rfl ?_
        refine wa_iload_n C 3 rfl dX12_sumUp_27 rfl ?_
        obtain ⟨r_11, h⟩ := h
        refine wa_callSi C (As := [.int (iI (x2 - x4_8)), .int (iI 0), .int (iI x3)]) (rest := []) (c_X12_within l K ad (x2 - x4_8) 0 x3 r_11 (inR_k 0 rfl) rx3 _ h) gw_1354 gw_1352 gw_1353 gw_12 q_X12_within rfl rfl rfl ⟨by decide, by decide⟩ rfl (Nat.le_of_ble_eq_true rfl) dX12_sumUp_28 (fun c_12 u9 rc_12 hp => ?_)
        obtain ⟨bc_12, rfl, h⟩ := hp
        replace h := h bc_12
        obtain ⟨J_13, h, hJ_13⟩ := h
        have k_14 : ∀ (M_big_15 : Int → Int64), J_13 M_big_15 → WA p l e ({ frames := 5, cells := 0, slots := 0, locals := 300 } : Room) s m args below meth c 0 0 Q K ad 5 A 51 [(0, .ref (ad 0)), (1, .int (iI x1)), (2, .int (iI x2)), (3, .int (iI x3)), (4, .int (iI x4_8))] [] (mW M_thrown M_w M_h M_cells M_shape M_isBoard M_isBlank M_lives M_moves M_parts M_numbers M_grade M_reasons M_total M_near M_degree M_mine M_state M_history M_oldLives M_safe M_mined M_used M_partOf M_placeOf M_partSize M_ways M_with M_masks M_rests M_bits M_reach M_more M_reason M_big_15 M_region) := by
          intro M_big_15 h
          replace h := hJ_13 M_big_15 h
          obtain ⟨r_16, h⟩ := h
          refine wa_iinc C (lv' := fun w9 => [(4, .int (iI w9)), (0, .ref (ad 0)), (1, .int (iI x1)), (2, .int (iI x2)), (3, .int (iI x3))]) 4 rfl dX12_sumUp_51 (by decide) (fun _ => rfl) (fun x4_17 ex4_17 => ?_)
          replace h := h x4_17 ex4_17
          have rx4_17 : inR x4_17 := by rw [ex4_17]; exact r_16
          refine wa_goto C (tgt := 14) dX12_sumUp_54 (by decide) ?_
          obtain ⟨n_18, ln_18, h⟩ := h
          refine wa_sub C [1, 2, 3, 4, 0] rfl ?_
          exact ih_6 n_18 ln_18 x4_17 M_big_15 rx4_17 h
        refine wa_if_eq C (tgt := 51) (inR_b bc_12) dX12_sumUp_31 (by decide) (fun c_19 => ?_) (fun c_19 => ?_)
        · replace h := h.1 c_19
          refine wa_sub C [0, 1, 2, 3, 4] rfl ?_
          exact k_14 M_big_9 h
        · replace h := h.2 c_19
          refine wa_aload_n C 0 rfl dX12_sumUp_34 rfl ?_
          refine wa_iload_n C 1 rfl dX12_sumUp_35 rfl ?_
          refine wa_iconst C (z := 0) dX12_sumUp_36 rfl ?_
          refine wa_iload C 4 rfl dX12_sumUp_37 ?_
          refine wa_iadd C dX12_sumUp_39 ?_
          refine wa_sipush C (z := 290) dX12_sumUp_40 (by decide) ?_
          refine wa_iload_n C 2 rfl dX12_sumUp_43 rfl ?_
          refine wa_iadd C dX12_sumUp_44 ?_
          refine wa_iload C 4 rfl dX12_sumUp_45 ?_
          refine wa_isub C dX12_sumUp_47 ?_
          obtain ⟨r_20, h⟩ := h
          obtain ⟨r_21, h⟩ := h
          refine wa_callVv C (k := 0) (As := [.int (iI x1), .int (iI (0 + x4_8)), .int (iI ((290 + x2) - x4_8))]) (rest := []) (c_X12_addProduct l K ad x1 (0 + x4_8) ((290 + x2) - x4_8) rx1 r_20 r_21 _ h) gw_1645 gw_1642 mW_0 rfl gw_1644 gs_109 gw_12 q_X12_addProduct rfl rfl rfl ⟨by decide, by decide⟩ rfl (Nat.le_of_ble_eq_true rfl) dX12_sumUp_48 (fun u9 hp => ?_)
          obtain ⟨M_big_22, rfl, h⟩ := hp
          refine wa_sub C [0, 1, 2, 3, 4] rfl ?_
          exact k_14 M_big_22 h
  refine wa_sub C [1, 2, 3, 4, 0] rfl ?_
  exact k_7 n_4 0 M_big_2 (inR_k 0 rfl) h0Inv_3
def P_X12_countAll (post : Int → (Int) → (Int) → (Int → Int) → (Int → Int) → (Int → Int) → (Int → Int) → (Int → Int) → (Int → Int) → (Int → Int) → (Int → Int) → (Int → Int64) → Prop) (M_cells : Int) (M_parts : Int) (M_numbers : Int) (M_near : Int → Int) (M_degree : Int → Int) (M_mine : Int → Int) (M_state : Int → Int) (M_used : Int → Int) (M_partOf : Int → Int) (M_placeOf : Int → Int) (M_partSize : Int → Int) (M_ways : Int → Int) (M_with : Int → Int) (M_masks : Int → Int) (M_rests : Int → Int) (M_bits : Int → Int) (M_big : Int → Int64) : Prop :=
  P_X12_useAll (fun (M_used_1 : Int → Int) => (P_X12_countParts (fun (c_2 : Int) (M_parts_3 : Int) (M_numbers_4 : Int) (M_partOf_5 : Int → Int) (M_placeOf_6 : Int → Int) (M_partSize_7 : Int → Int) (M_ways_8 : Int → Int) (M_with_9 : Int → Int) (M_masks_10 : Int → Int) (M_rests_11 : Int → Int) => (c_2 = 0 ∨ c_2 = 1) → ((¬ c_2 = 0 → (P_X12_multiplyParts (fun (M_big_13 : Int → Int64) => (P_X12_minesLeft (fun (c_14 : Int) => inR c_14 → (P_X12_freeCells (fun (c_15 : Int) => inR c_15 → (P_X12_sumUp (fun (M_big_16 : Int → Int64) => (post 1 M_parts_3 M_numbers_4 M_used_1 M_partOf_5 M_placeOf_6 M_partSize_7 M_ways_8 M_with_9 M_masks_10 M_rests_11 M_big_16)) M_big_13 435 c_14 c_15)) M_cells M_state M_partOf_5 )) M_cells M_mine M_state )) M_parts_3 M_partOf_5 M_placeOf_6 M_partSize_7 M_ways_8 M_with_9 M_big (-1))) ∧ (c_2 = 0 → (post 0 M_parts_3 M_numbers_4 M_used_1 M_partOf_5 M_placeOf_6 M_partSize_7 M_ways_8 M_with_9 M_masks_10 M_rests_11 M_big)))) M_cells M_parts M_numbers M_near M_degree M_mine M_state M_used_1 M_partOf M_placeOf M_partSize M_ways M_with M_masks M_rests M_bits )) M_cells M_near M_degree M_state M_used 
set_option maxRecDepth 100000 in
set_option maxHeartbeats 4000000 in
theorem c_X12_countAll (l : Launch) (K : wK) (ad : Nat → Nat) {M_thrown : Int} {M_w : Int} {M_h : Int} {M_cells : Int} {M_shape : Int} {M_isBoard : Int} {M_isBlank : Int} {M_lives : Int} {M_moves : Int} {M_parts : Int} {M_numbers : Int} {M_grade : Int} {M_reasons : Int} {M_total : Int} {M_near : Int → Int} {M_degree : Int → Int} {M_mine : Int → Int} {M_state : Int → Int} {M_history : Int → Int64} {M_oldLives : Int → Int} {M_safe : Int → Int} {M_mined : Int → Int} {M_used : Int → Int} {M_partOf : Int → Int} {M_placeOf : Int → Int} {M_partSize : Int → Int} {M_ways : Int → Int} {M_with : Int → Int} {M_masks : Int → Int} {M_rests : Int → Int} {M_bits : Int → Int} {M_reach : Int → Int} {M_more : Int → Int} {M_reason : Int → Int} {M_big : Int → Int64} {M_region : Int → Int}   (post : Int → (Int) → (Int) → (Int → Int) → (Int → Int) → (Int → Int) → (Int → Int) → (Int → Int) → (Int → Int) → (Int → Int) → (Int → Int) → (Int → Int64) → Prop) (h : P_X12_countAll post M_cells M_parts M_numbers M_near M_degree M_mine M_state M_used M_partOf M_placeOf M_partSize M_ways M_with M_masks M_rests M_bits M_big) : mI l yX12_countAll (Cond.code yX12_countAll cX12_countAll 1 (some .boolean) :: GT) ({ frames := 7, cells := 0, slots := 0, locals := 420 } : Room) [.ref (ad 0)] K ad (mW M_thrown M_w M_h M_cells M_shape M_isBoard M_isBlank M_lives M_moves M_parts M_numbers M_grade M_reasons M_total M_near M_degree M_mine M_state M_history M_oldLives M_safe M_mined M_used M_partOf M_placeOf M_partSize M_ways M_with M_masks M_rests M_bits M_reach M_more M_reason M_big M_region) (fun z9 u9 => (z9 = 0 ∨ z9 = 1) ∧ ∃ M_parts9 M_numbers9 M_used9 M_partOf9 M_placeOf9 M_partSize9 M_ways9 M_with9 M_masks9 M_rests9 M_big9, u9 = (mW M_thrown M_w M_h M_cells M_shape M_isBoard M_isBlank M_lives M_moves M_parts9 M_numbers9 M_grade M_reasons M_total M_near M_degree M_mine M_state M_history M_oldLives M_safe M_mined M_used9 M_partOf9 M_placeOf9 M_partSize9 M_ways9 M_with9 M_masks9 M_rests9 M_bits M_reach M_more M_reason M_big9 M_region) ∧ post z9 M_parts9 M_numbers9 M_used9 M_partOf9 M_placeOf9 M_partSize9 M_ways9 M_with9 M_masks9 M_rests9 M_big9) := by
  refine mZ_of (lv0 := [(0, .ref (ad 0))]) (by decide) (Nat.le_of_ble_eq_true rfl) rfl ?_
  intro p e s m args below meth c Q A C ret
  replace C : Cx p ({ frames := 7, cells := 0, slots := 0, locals := 420 } : Room) m c 0 0 cX12_countAll 1 s args RX12 K A := C
  unfold P_X12_countAll at h
  refine wa_aload_n C 0 rfl dX12_countAll_0 rfl ?_
  refine wa_callVv C (k := 0) (As := []) (rest := []) (c_X12_useAll l K ad  _ h) gw_1463 gw_1460 mW_0 rfl gw_1462 gs_76 gw_12 q_X12_useAll rfl rfl rfl ⟨by decide, by decide⟩ rfl (Nat.le_of_ble_eq_true rfl) dX12_countAll_1 (fun u9 hp => ?_)
  obtain ⟨M_used_1, rfl, h⟩ := hp
  refine wa_aload_n C 0 rfl dX12_countAll_4 rfl ?_
  refine wa_callVi C (k := 0) (As := []) (rest := []) (c_X12_countParts l K ad  _ h) gw_1467 gw_1464 mW_0 rfl gw_1466 gs_77 gw_12 q_X12_countParts rfl rfl rfl ⟨by decide, by decide⟩ rfl (Nat.le_of_ble_eq_true rfl) dX12_countAll_5 (fun c_2 u9 rc_2 hp => ?_)
  obtain ⟨bc_2, M_parts_3, M_numbers_4, M_partOf_5, M_placeOf_6, M_partSize_7, M_ways_8, M_with_9, M_masks_10, M_rests_11, rfl, h⟩ := hp
  replace h := h bc_2
  refine wa_if_ne C (tgt := 13) (inR_b bc_2) dX12_countAll_8 (by decide) (fun c_12 => ?_) (fun c_12 => ?_)
  · replace h := h.1 c_12
    refine wa_aload_n C 0 rfl dX12_countAll_13 rfl ?_
    refine wa_iconst C (z := -1) dX12_countAll_14 rfl ?_
    refine wa_callVv C (k := 0) (As := [.int (iI (-1))]) (rest := []) (c_X12_multiplyParts l K ad (-1) (inR_k (-1) rfl) _ h) gw_1616 gw_1613 mW_0 rfl gw_1615 gs_102 gw_12 q_X12_multiplyParts rfl rfl rfl ⟨by decide, by decide⟩ rfl (Nat.le_of_ble_eq_true rfl) dX12_countAll_15 (fun u9 hp => ?_)
    obtain ⟨M_big_13, rfl, h⟩ := hp
    refine wa_aload_n C 0 rfl dX12_countAll_18 rfl ?_
    refine wa_sipush C (z := 435) dX12_countAll_19 (by decide) ?_
    refine wa_aload_n C 0 rfl dX12_countAll_22 rfl ?_
    refine wa_callVi C (k := 0) (As := []) (rest := [.int (iI 435), .ref (ad 0)]) (c_X12_minesLeft l K ad  _ h) gw_1499 gw_1496 mW_0 rfl gw_1498 gs_85 gw_12 q_X12_minesLeft rfl rfl rfl ⟨by decide, by decide⟩ rfl (Nat.le_of_ble_eq_true rfl) dX12_countAll_23 (fun c_14 u9 rc_14 hp => ?_)
    obtain ⟨rfl, h⟩ := hp
    replace h := h rc_14
    refine wa_aload_n C 0 rfl dX12_countAll_26 rfl ?_
    refine wa_callVi C (k := 0) (As := []) (rest := [.int (iI c_14), .int (iI 435), .ref (ad 0)]) (c_X12_freeCells l K ad  _ h) gw_1511 gw_1508 mW_0 rfl gw_1510 gs_88 gw_12 q_X12_freeCells rfl rfl rfl ⟨by decide, by decide⟩ rfl (Nat.le_of_ble_eq_true rfl) dX12_countAll_27 (fun c_15 u9 rc_15 hp => ?_)
    obtain ⟨rfl, h⟩ := hp
    replace h := h rc_15
    refine wa_callVv C (k := 0) (As := [.int (iI 435), .int (iI c_14), .int (iI c_15)]) (rest := []) (c_X12_sumUp l K ad 435 c_14 c_15 (inR_k 435 rfl) rc_14 rc_15 _ h) gw_1637 gw_1634 mW_0 rfl gw_1636 gs_107 gw_12 q_X12_sumUp rfl rfl rfl ⟨by decide, by decide⟩ rfl (Nat.le_of_ble_eq_true rfl) dX12_countAll_30 (fun u9 hp => ?_)
    obtain ⟨M_big_16, rfl, h⟩ := hp
    refine wa_iconst C (z := 1) dX12_countAll_33 rfl ?_
    exact ret dX12_countAll_34 (Or.inr rfl) ⟨(Or.inr rfl), _, _, _, _, _, _, _, _, _, _, _, rfl, h⟩
  · replace h := h.2 c_12
    refine wa_iconst C (z := 0) dX12_countAll_11 rfl ?_
    exact ret dX12_countAll_12 (Or.inl rfl) ⟨(Or.inl rfl), _, _, _, _, _, _, _, _, _, _, _, rfl, h⟩
def P_X12_ways (post : Int → (Int) → (Int) → (Int) → (Int → Int) → (Int → Int) → (Int → Int) → (Int → Int) → (Int → Int) → (Int → Int) → (Int → Int) → (Int → Int) → (Int → Int64) → Prop) (M_thrown : Int) (M_cells : Int) (M_isBoard : Int) (M_parts : Int) (M_numbers : Int) (M_near : Int → Int) (M_degree : Int → Int) (M_mine : Int → Int) (M_state : Int → Int) (M_used : Int → Int) (M_partOf : Int → Int) (M_placeOf : Int → Int) (M_partSize : Int → Int) (M_ways : Int → Int) (M_with : Int → Int) (M_masks : Int → Int) (M_rests : Int → Int) (M_bits : Int → Int) (M_big : Int → Int64) : Prop :=
  (¬ M_isBoard = 0 → (P_X12_countAll (fun (c_3 : Int) (M_parts_4 : Int) (M_numbers_5 : Int) (M_used_6 : Int → Int) (M_partOf_7 : Int → Int) (M_placeOf_8 : Int → Int) (M_partSize_9 : Int → Int) (M_ways_10 : Int → Int) (M_with_11 : Int → Int) (M_masks_12 : Int → Int) (M_rests_13 : Int → Int) (M_big_14 : Int → Int64) => (c_3 = 0 ∨ c_3 = 1) → ((¬ c_3 = 0 → (∃ Inv_16 : Nat → (Int64) → (Int) → Prop, (∃ n_17 : Nat, Inv_16 n_17 (0 : Int64) 5) ∧ ∀ (n_18 : Nat) (x1_21 : Int64) (x3_22 : Int), inR x3_22 → Inv_16 n_18 x1_21 x3_22 → ((x3_22 < 0 → (post (l2I x1_21) 0 M_parts_4 M_numbers_5 M_used_6 M_partOf_7 M_placeOf_8 M_partSize_9 M_ways_10 M_with_11 M_masks_12 M_rests_13 M_big_14)) ∧ (¬ x3_22 < 0 → ((0 ≤ (2610 + x3_22) ∧ (2610 + x3_22) < 2700) ∧ (∀ v_25 : Int64, v_25 = M_big_14 (2610 + x3_22) → (¬ (1000000007 : Int64) = 0 ∧ (∀ x1_27 : Int64, x1_27 = (((x1_21 * (2147483648 : Int64)) + v_25) - ((x1_21 * (2147483648 : Int64)) + v_25) / (1000000007 : Int64) * (1000000007 : Int64)) → (inR (x3_22 + (-1)) ∧ (∀ x3_29 : Int, x3_29 = (x3_22 + (-1)) → (∃ n_30 : Nat, n_30 < n_18 ∧ Inv_16 n_30 x1_27 x3_29))))))))))) ∧ (c_3 = 0 → (post (-1) 0 M_parts_4 M_numbers_5 M_used_6 M_partOf_7 M_placeOf_8 M_partSize_9 M_ways_10 M_with_11 M_masks_12 M_rests_13 M_big_14)))) M_cells M_parts M_numbers M_near M_degree M_mine M_state M_used M_partOf M_placeOf M_partSize M_ways M_with M_masks M_rests M_bits M_big )) ∧ (M_isBoard = 0 → (P_X12_fail (fun (c_31 : Int) (M_thrown_32 : Int) => inR c_31 → (post c_31 M_thrown_32 M_parts M_numbers M_used M_partOf M_placeOf M_partSize M_ways M_with M_masks M_rests M_big)) 0 1))
set_option maxRecDepth 100000 in
set_option maxHeartbeats 4000000 in
theorem c_X12_ways (l : Launch) (K : wK) (ad : Nat → Nat) {M_thrown : Int} {M_w : Int} {M_h : Int} {M_cells : Int} {M_shape : Int} {M_isBoard : Int} {M_isBlank : Int} {M_lives : Int} {M_moves : Int} {M_parts : Int} {M_numbers : Int} {M_grade : Int} {M_reasons : Int} {M_total : Int} {M_near : Int → Int} {M_degree : Int → Int} {M_mine : Int → Int} {M_state : Int → Int} {M_history : Int → Int64} {M_oldLives : Int → Int} {M_safe : Int → Int} {M_mined : Int → Int} {M_used : Int → Int} {M_partOf : Int → Int} {M_placeOf : Int → Int} {M_partSize : Int → Int} {M_ways : Int → Int} {M_with : Int → Int} {M_masks : Int → Int} {M_rests : Int → Int} {M_bits : Int → Int} {M_reach : Int → Int} {M_more : Int → Int} {M_reason : Int → Int} {M_big : Int → Int64} {M_region : Int → Int}   (post : Int → (Int) → (Int) → (Int) → (Int → Int) → (Int → Int) → (Int → Int) → (Int → Int) → (Int → Int) → (Int → Int) → (Int → Int) → (Int → Int) → (Int → Int64) → Prop) (h : P_X12_ways post M_thrown M_cells M_isBoard M_parts M_numbers M_near M_degree M_mine M_state M_used M_partOf M_placeOf M_partSize M_ways M_with M_masks M_rests M_bits M_big) : mI l yX12_ways (Cond.code yX12_ways cX12_ways 4 (some .int) :: GT) ({ frames := 8, cells := 0, slots := 0, locals := 480 } : Room) [.ref (ad 0)] K ad (mW M_thrown M_w M_h M_cells M_shape M_isBoard M_isBlank M_lives M_moves M_parts M_numbers M_grade M_reasons M_total M_near M_degree M_mine M_state M_history M_oldLives M_safe M_mined M_used M_partOf M_placeOf M_partSize M_ways M_with M_masks M_rests M_bits M_reach M_more M_reason M_big M_region) (fun z9 u9 => ∃ M_thrown9 M_parts9 M_numbers9 M_used9 M_partOf9 M_placeOf9 M_partSize9 M_ways9 M_with9 M_masks9 M_rests9 M_big9, u9 = (mW M_thrown9 M_w M_h M_cells M_shape M_isBoard M_isBlank M_lives M_moves M_parts9 M_numbers9 M_grade M_reasons M_total M_near M_degree M_mine M_state M_history M_oldLives M_safe M_mined M_used9 M_partOf9 M_placeOf9 M_partSize9 M_ways9 M_with9 M_masks9 M_rests9 M_bits M_reach M_more M_reason M_big9 M_region) ∧ post z9 M_thrown9 M_parts9 M_numbers9 M_used9 M_partOf9 M_placeOf9 M_partSize9 M_ways9 M_with9 M_masks9 M_rests9 M_big9) := by
  refine mI_of (lv0 := [(0, .ref (ad 0))]) (by decide) (Nat.le_of_ble_eq_true rfl) rfl ?_
  intro p e s m args below meth c Q A C ret
  replace C : Cx p ({ frames := 8, cells := 0, slots := 0, locals := 480 } : Room) m c 0 0 cX12_ways 4 s args RX12 K A := C
  unfold P_X12_ways at h
  refine wa_aload_n C 0 rfl dX12_ways_0 rfl ?_
  refine wa_iconst C (z := 0) dX12_ways_1 rfl ?_
  refine wa_putI C (ws' := (mW 0 M_w M_h M_cells M_shape M_isBoard M_isBlank M_lives M_moves M_parts M_numbers M_grade M_reasons M_total M_near M_degree M_mine M_state M_history M_oldLives M_safe M_mined M_used M_partOf M_placeOf M_partSize M_ways M_with M_masks M_rests M_bits M_reach M_more M_reason M_big M_region)) 0 0 mW_0 rfl (by decide) okX12 gw_1232 rfl rfl (Nat.le_of_ble_eq_true rfl) (inR_k 0 rfl) (mWp_0_0 _) dX12_ways_2 ?_
  refine wa_aload_n C 0 rfl dX12_ways_5 rfl ?_
  refine wa_getZ C 0 5 mW_0 rfl rfl (by decide) okX12 gw_1237 dX12_ways_6 (fun r_1 => ?_)
  refine wa_if_ne C (tgt := 18) (inR_b r_1) dX12_ways_9 (by decide) (fun c_2 => ?_) (fun c_2 => ?_)
  · replace h := h.1 c_2
    refine wa_aload_n C 0 rfl dX12_ways_18 rfl ?_
    refine wa_callVi C (k := 0) (As := []) (rest := []) (c_X12_countAll l K ad  _ h) gw_1612 gw_1609 mW_0 rfl gw_1611 gs_101 gw_12 q_X12_countAll rfl rfl rfl ⟨by decide, by decide⟩ rfl (Nat.le_of_ble_eq_true rfl) dX12_ways_19 (fun c_3 u9 rc_3 hp => ?_)
    obtain ⟨bc_3, M_parts_4, M_numbers_5, M_used_6, M_partOf_7, M_placeOf_8, M_partSize_9, M_ways_10, M_with_11, M_masks_12, M_rests_13, M_big_14, rfl, h⟩ := hp
    replace h := h bc_3
    refine wa_if_ne C (tgt := 27) (inR_b bc_3) dX12_ways_22 (by decide) (fun c_15 => ?_) (fun c_15 => ?_)
    · replace h := h.1 c_15
      refine wa_lconst C (v := 0) dX12_ways_27 rfl ?_
      refine wa_lstore_n C dX12_ways_28 rfl (by decide) rfl ?_
      refine wa_iconst C (z := 5) dX12_ways_29 rfl ?_
      refine wa_istore_n C dX12_ways_30 rfl (by decide) rfl ?_
      obtain ⟨Inv_16, ⟨n_17, h0Inv_16⟩, hInv_16⟩ := h
      have k_20 : ∀ (n_18 : Nat) (x1_21 : Int64) (x3_22 : Int), inR x3_22 → Inv_16 n_18 x1_21 x3_22 → WA p l e ({ frames := 8, cells := 0, slots := 0, locals := 480 } : Room) s m args below meth c 0 0 Q K ad 4 A 31 [(0, .ref (ad 0)), (1, .long x1_21), (3, .int (iI x3_22))] [] (mW 0 M_w M_h M_cells M_shape M_isBoard M_isBlank M_lives M_moves M_parts_4 M_numbers_5 M_grade M_reasons M_total M_near M_degree M_mine M_state M_history M_oldLives M_safe M_mined M_used_6 M_partOf_7 M_placeOf_8 M_partSize_9 M_ways_10 M_with_11 M_masks_12 M_rests_13 M_bits M_reach M_more M_reason M_big_14 M_region) := by
        intro n_18
        induction n_18 using Nat.strongRecOn with
        | ind n_18 ih_19 =>
          intro x1_21 x3_22 rx3_22 h
          replace h := hInv_16 n_18 x1_21 x3_22 rx3_22 h
          refine wa_iload_n C 2 rfl dX12_ways_31 rfl ?_
          refine wa_if_lt C (tgt := 62) rx3_22 dX12_ways_32 (by decide) (fun c_23 => ?_) (fun c_23 => ?_)
          · replace h := h.1 c_23
            refine wa_lload_n C 1 rfl dX12_ways_62 rfl ?_
            refine wa_l2i C dX12_ways_63 ?_
            exact ret dX12_ways_64 (l2I_r _) ⟨_, _, _, _, _, _, _, _, _, _, _, _, rfl, h⟩
          · replace h := h.2 c_23
            refine wa_lload_n C 1 rfl dX12_ways_35 rfl ?_
            refine wa_ldc2 C gw_1646 dX12_ways_36 ?_
            refine wa_lmul C dX12_ways_39 ?_
            refine wa_aload_n C 0 rfl dX12_ways_40 rfl ?_
            refine wa_getR C 0 34 mW_0 rfl rfl (by decide) okX12 gw_1266 dX12_ways_41 ?_
            refine wa_sipush C (z := 2610) dX12_ways_44 (by decide) ?_
            refine wa_iload_n C 2 rfl dX12_ways_47 rfl ?_
            refine wa_iadd C dX12_ways_48 ?_
            obtain ⟨t_24, h⟩ := h
            refine wa_lald C 21 mW_21 dX12_ways_49 t_24.1 t_24.2 (fun v_25 ev_25 => ?_)
            replace h := h v_25 ev_25
            refine wa_ladd C dX12_ways_50 ?_
            refine wa_ldc2 C gw_1647 dX12_ways_51 ?_
            obtain ⟨q_26, h⟩ := h
            refine wa_lrem C dX12_ways_54 q_26 ?_
            refine wa_nml (fun x1_27 ex1_27 => ?_)
            replace h := h x1_27 ex1_27
            refine wa_lstore_n C dX12_ways_55 rfl (by decide) rfl ?_
            obtain ⟨r_28, h⟩ := h
            refine wa_iinc C (lv' := fun w9 => [(3, .int (iI w9)), (1, .long x1_27), (0, .ref (ad 0))]) 2 rfl dX12_ways_56 (by decide) (fun _ => rfl) (fun x3_29 ex3_29 => ?_)
            replace h := h x3_29 ex3_29
            have rx3_29 : inR x3_29 := by rw [ex3_29]; exact r_28
            refine wa_goto C (tgt := 31) dX12_ways_59 (by decide) ?_
            obtain ⟨n_30, ln_30, h⟩ := h
            refine wa_sub C [2, 1, 0] rfl ?_
            exact ih_19 n_30 ln_30 x1_27 x3_29 rx3_29 h
      refine wa_sub C [2, 1, 0] rfl ?_
      exact k_20 n_17 (0 : Int64) 5 (inR_k 5 rfl) h0Inv_16
    · replace h := h.2 c_15
      refine wa_iconst C (z := -1) dX12_ways_25 rfl ?_
      exact ret dX12_ways_26 (inR_k (-1) rfl) ⟨_, _, _, _, _, _, _, _, _, _, _, _, rfl, h⟩
  · replace h := h.2 c_2
    refine wa_aload_n C 0 rfl dX12_ways_12 rfl ?_
    refine wa_iconst C (z := 1) dX12_ways_13 rfl ?_
    refine wa_callVi C (k := 0) (As := [.int (iI 1)]) (rest := []) (c_X12_fail l K ad 1 (inR_k 1 rfl) _ h) gw_1365 gw_1362 mW_0 rfl gw_1364 gs_52 gw_12 q_X12_fail rfl rfl rfl ⟨by decide, by decide⟩ rfl (Nat.le_of_ble_eq_true rfl) dX12_ways_14 (fun c_31 u9 rc_31 hp => ?_)
    obtain ⟨M_thrown_32, rfl, h⟩ := hp
    replace h := h rc_31
    exact ret dX12_ways_17 rc_31 ⟨_, _, _, _, _, _, _, _, _, _, _, _, rfl, h⟩
def P_X12_isNothing (post : Int → Prop) (M_big : Int → Int64) (x1 : Int) : Prop :=
  ∃ Inv_1 : Nat → (Int) → (Int) → Prop, (∃ n_2 : Nat, Inv_1 n_2 1 0) ∧ ∀ (n_3 : Nat) (x2_6 : Int) (x3_7 : Int), inR x2_6 → inR x3_7 → Inv_1 n_3 x2_6 x3_7 → ((6 ≤ x3_7 → ((x2_6 = 0 ∨ x2_6 = 1) ∧ (post x2_6))) ∧ (¬ 6 ≤ x3_7 → (∃ J_10 : (Int) → Prop, (∃ J_16 : Prop, ((x2_6 = 0 → (J_16)) ∧ (¬ x2_6 = 0 → ((0 ≤ ((6 * x1) + x3_7) ∧ ((6 * x1) + x3_7) < 2700) ∧ (∀ v_20 : Int64, v_20 = M_big ((6 * x1) + x3_7) → ((¬ (lcI v_20 (0 : Int64)) = 0 → (J_16)) ∧ ((lcI v_20 (0 : Int64)) = 0 → (J_10 1))))))) ∧ (J_16 → (J_10 0))) ∧ (∀ (z_12 : Int), inR z_12 → J_10 z_12 → (inR (x3_7 + 1) ∧ (∀ x3_14 : Int, x3_14 = (x3_7 + 1) → (∃ n_15 : Nat, n_15 < n_3 ∧ Inv_1 n_15 z_12 x3_14)))))))
set_option maxRecDepth 100000 in
set_option maxHeartbeats 4000000 in
theorem c_X12_isNothing (l : Launch) (K : wK) (ad : Nat → Nat) {M_thrown : Int} {M_w : Int} {M_h : Int} {M_cells : Int} {M_shape : Int} {M_isBoard : Int} {M_isBlank : Int} {M_lives : Int} {M_moves : Int} {M_parts : Int} {M_numbers : Int} {M_grade : Int} {M_reasons : Int} {M_total : Int} {M_near : Int → Int} {M_degree : Int → Int} {M_mine : Int → Int} {M_state : Int → Int} {M_history : Int → Int64} {M_oldLives : Int → Int} {M_safe : Int → Int} {M_mined : Int → Int} {M_used : Int → Int} {M_partOf : Int → Int} {M_placeOf : Int → Int} {M_partSize : Int → Int} {M_ways : Int → Int} {M_with : Int → Int} {M_masks : Int → Int} {M_rests : Int → Int} {M_bits : Int → Int} {M_reach : Int → Int} {M_more : Int → Int} {M_reason : Int → Int} {M_big : Int → Int64} {M_region : Int → Int} (x1 : Int) (rx1 : inR x1) (post : Int → Prop) (h : P_X12_isNothing post M_big x1) : mI l yX12_isNothing (Cond.code yX12_isNothing cX12_isNothing 4 (some .boolean) :: GT) ({ frames := 2, cells := 0, slots := 0, locals := 120 } : Room) [.ref (ad 0), .int (iI x1)] K ad (mW M_thrown M_w M_h M_cells M_shape M_isBoard M_isBlank M_lives M_moves M_parts M_numbers M_grade M_reasons M_total M_near M_degree M_mine M_state M_history M_oldLives M_safe M_mined M_used M_partOf M_placeOf M_partSize M_ways M_with M_masks M_rests M_bits M_reach M_more M_reason M_big M_region) (fun z9 u9 => (z9 = 0 ∨ z9 = 1) ∧ u9 = (mW M_thrown M_w M_h M_cells M_shape M_isBoard M_isBlank M_lives M_moves M_parts M_numbers M_grade M_reasons M_total M_near M_degree M_mine M_state M_history M_oldLives M_safe M_mined M_used M_partOf M_placeOf M_partSize M_ways M_with M_masks M_rests M_bits M_reach M_more M_reason M_big M_region) ∧ post z9) := by
  refine mZ_of (lv0 := [(0, .ref (ad 0)), (1, .int (iI x1))]) (by decide) (Nat.le_of_ble_eq_true rfl) rfl ?_
  intro p e s m args below meth c Q A C ret
  replace C : Cx p ({ frames := 2, cells := 0, slots := 0, locals := 120 } : Room) m c 0 0 cX12_isNothing 4 s args RX12 K A := C
  unfold P_X12_isNothing at h
  refine wa_iconst C (z := 1) dX12_isNothing_0 rfl ?_
  refine wa_istore_n C dX12_isNothing_1 rfl (by decide) rfl ?_
  refine wa_iconst C (z := 0) dX12_isNothing_2 rfl ?_
  refine wa_istore_n C dX12_isNothing_3 rfl (by decide) rfl ?_
  obtain ⟨Inv_1, ⟨n_2, h0Inv_1⟩, hInv_1⟩ := h
  have k_5 : ∀ (n_3 : Nat) (x2_6 : Int) (x3_7 : Int), inR x2_6 → inR x3_7 → Inv_1 n_3 x2_6 x3_7 → WA p l e ({ frames := 2, cells := 0, slots := 0, locals := 120 } : Room) s m args below meth c 0 0 Q K ad 4 A 4 [(0, .ref (ad 0)), (1, .int (iI x1)), (2, .int (iI x2_6)), (3, .int (iI x3_7))] [] (mW M_thrown M_w M_h M_cells M_shape M_isBoard M_isBlank M_lives M_moves M_parts M_numbers M_grade M_reasons M_total M_near M_degree M_mine M_state M_history M_oldLives M_safe M_mined M_used M_partOf M_placeOf M_partSize M_ways M_with M_masks M_rests M_bits M_reach M_more M_reason M_big M_region) := by
    intro n_3
    induction n_3 using Nat.strongRecOn with
    | ind n_3 ih_4 =>
      intro x2_6 x3_7 rx2_6 rx3_7 h
      replace h := hInv_1 n_3 x2_6 x3_7 rx2_6 rx3_7 h
      refine wa_iload_n C 3 rfl dX12_isNothing_4 rfl ?_
      refine wa_bipush C (z := 6) dX12_isNothing_5 (by decide) ?_
      refine wa_icmp_ge C (tgt := 42) rx3_7 (inR_k 6 rfl) dX12_isNothing_7 (by decide) (fun c_8 => ?_) (fun c_8 => ?_)
      · replace h := h.1 c_8
        refine wa_iload_n C 2 rfl dX12_isNothing_42 rfl ?_
        obtain ⟨b_9, h⟩ := h
        exact ret dX12_isNothing_43 b_9 ⟨b_9, rfl, h⟩
      · replace h := h.2 c_8
        refine wa_iload_n C 2 rfl dX12_isNothing_10 rfl ?_
        obtain ⟨J_10, h, hJ_10⟩ := h
        have k_11 : ∀ (z_12 : Int), inR z_12 → J_10 z_12 → WA p l e ({ frames := 2, cells := 0, slots := 0, locals := 120 } : Room) s m args below meth c 0 0 Q K ad 4 A 35 [(0, .ref (ad 0)), (1, .int (iI x1)), (3, .int (iI x3_7))] [.int (iI z_12)] (mW M_thrown M_w M_h M_cells M_shape M_isBoard M_isBlank M_lives M_moves M_parts M_numbers M_grade M_reasons M_total M_near M_degree M_mine M_state M_history M_oldLives M_safe M_mined M_used M_partOf M_placeOf M_partSize M_ways M_with M_masks M_rests M_bits M_reach M_more M_reason M_big M_region) := by
          intro z_12 rz_12 h
          replace h := hJ_10 z_12 rz_12 h
          refine wa_istore_n C dX12_isNothing_35 rfl (by decide) rfl ?_
          obtain ⟨r_13, h⟩ := h
          refine wa_iinc C (lv' := fun w9 => [(3, .int (iI w9)), (2, .int (iI z_12)), (0, .ref (ad 0)), (1, .int (iI x1))]) 3 rfl dX12_isNothing_36 (by decide) (fun _ => rfl) (fun x3_14 ex3_14 => ?_)
          replace h := h x3_14 ex3_14
          have rx3_14 : inR x3_14 := by rw [ex3_14]; exact r_13
          refine wa_goto C (tgt := 4) dX12_isNothing_39 (by decide) ?_
          obtain ⟨n_15, ln_15, h⟩ := h
          refine wa_sub C [2, 3, 1, 0] rfl ?_
          exact ih_4 n_15 ln_15 z_12 x3_14 rz_12 rx3_14 h
        obtain ⟨J_16, h, hJ_16⟩ := h
        have k_17 : J_16 → WA p l e ({ frames := 2, cells := 0, slots := 0, locals := 120 } : Room) s m args below meth c 0 0 Q K ad 4 A 34 [(0, .ref (ad 0)), (1, .int (iI x1)), (3, .int (iI x3_7))] [] (mW M_thrown M_w M_h M_cells M_shape M_isBoard M_isBlank M_lives M_moves M_parts M_numbers M_grade M_reasons M_total M_near M_degree M_mine M_state M_history M_oldLives M_safe M_mined M_used M_partOf M_placeOf M_partSize M_ways M_with M_masks M_rests M_bits M_reach M_more M_reason M_big M_region) := by
          intro h
          replace h := hJ_16 h
          refine wa_iconst C (z := 0) dX12_isNothing_34 rfl ?_
          refine wa_sub C [0, 1, 2] rfl ?_
          exact k_11 0 (inR_k 0 rfl) h
        refine wa_if_eq C (tgt := 34) rx2_6 dX12_isNothing_11 (by decide) (fun c_18 => ?_) (fun c_18 => ?_)
        · replace h := h.1 c_18
          refine wa_sub C [0, 1, 3] rfl ?_
          exact k_17 h
        · replace h := h.2 c_18
          refine wa_aload_n C 0 rfl dX12_isNothing_14 rfl ?_
          refine wa_getR C 0 34 mW_0 rfl rfl (by decide) okX12 gw_1266 dX12_isNothing_15 ?_
          refine wa_bipush C (z := 6) dX12_isNothing_18 (by decide) ?_
          refine wa_iload_n C 1 rfl dX12_isNothing_20 rfl ?_
          refine wa_imul C dX12_isNothing_21 ?_
          refine wa_iload_n C 3 rfl dX12_isNothing_22 rfl ?_
          refine wa_iadd C dX12_isNothing_23 ?_
          obtain ⟨t_19, h⟩ := h
          refine wa_lald C 21 mW_21 dX12_isNothing_24 t_19.1 t_19.2 (fun v_20 ev_20 => ?_)
          replace h := h v_20 ev_20
          refine wa_lconst C (v := 0) dX12_isNothing_25 rfl ?_
          refine wa_lcmp C dX12_isNothing_26 ?_
          refine wa_if_ne C (tgt := 34) (lcI_r _ _) dX12_isNothing_27 (by decide) (fun c_21 => ?_) (fun c_21 => ?_)
          · replace h := h.1 c_21
            refine wa_sub C [0, 1, 3] rfl ?_
            exact k_17 h
          · replace h := h.2 c_21
            refine wa_iconst C (z := 1) dX12_isNothing_30 rfl ?_
            refine wa_goto C (tgt := 35) dX12_isNothing_31 (by decide) ?_
            refine wa_sub C [0, 1, 3] rfl ?_
            exact k_11 1 (inR_k 1 rfl) h
  refine wa_sub C [2, 3, 1, 0] rfl ?_
  exact k_5 n_2 1 0 (inR_k 1 rfl) (inR_k 0 rfl) h0Inv_1
def P_X12_hasShare (post : Int → (Int) → (Int) → (Int → Int) → (Int → Int) → (Int → Int) → (Int → Int) → (Int → Int) → (Int → Int) → (Int → Int) → (Int → Int) → (Int → Int64) → Prop) (M_cells : Int) (M_parts : Int) (M_numbers : Int) (M_near : Int → Int) (M_degree : Int → Int) (M_mine : Int → Int) (M_state : Int → Int) (M_used : Int → Int) (M_partOf : Int → Int) (M_placeOf : Int → Int) (M_partSize : Int → Int) (M_ways : Int → Int) (M_with : Int → Int) (M_masks : Int → Int) (M_rests : Int → Int) (M_bits : Int → Int) (M_big : Int → Int64) (x1 : Int) : Prop :=
  P_X12_isUnknown (fun (c_1 : Int) => (c_1 = 0 ∨ c_1 = 1) → ((c_1 = 0 → (post 0 M_parts M_numbers M_used M_partOf M_placeOf M_partSize M_ways M_with M_masks M_rests M_big)) ∧ (¬ c_1 = 0 → (P_X12_countAll (fun (c_3 : Int) (M_parts_4 : Int) (M_numbers_5 : Int) (M_used_6 : Int → Int) (M_partOf_7 : Int → Int) (M_placeOf_8 : Int → Int) (M_partSize_9 : Int → Int) (M_ways_10 : Int → Int) (M_with_11 : Int → Int) (M_masks_12 : Int → Int) (M_rests_13 : Int → Int) (M_big_14 : Int → Int64) => (c_3 = 0 ∨ c_3 = 1) → ((c_3 = 0 → (post 0 M_parts_4 M_numbers_5 M_used_6 M_partOf_7 M_placeOf_8 M_partSize_9 M_ways_10 M_with_11 M_masks_12 M_rests_13 M_big_14)) ∧ (¬ c_3 = 0 → (P_X12_isNothing (fun (c_16 : Int) => (c_16 = 0 ∨ c_16 = 1) → ((c_16 = 0 → (P_X12_copy (fun (M_big_18 : Int → Int64) => ((0 ≤ x1 ∧ x1 < 144) ∧ (∀ v_20 : Int, v_20 = M_partOf_7 x1 → inR v_20 → ((v_20 < 0 → (P_X12_minesLeft (fun (c_22 : Int) => inR c_22 → (P_X12_freeCells (fun (c_23 : Int) => inR c_23 → (inR (c_22 - 1) ∧ (inR (c_23 - 1) ∧ (P_X12_sumUp (fun (M_big_26 : Int → Int64) => (post 1 M_parts_4 M_numbers_5 M_used_6 M_partOf_7 M_placeOf_8 M_partSize_9 M_ways_10 M_with_11 M_masks_12 M_rests_13 M_big_26)) M_big_18 436 (c_22 - 1) (c_23 - 1))))) M_cells M_state M_partOf_7 )) M_cells M_mine M_state )) ∧ (¬ v_20 < 0 → (P_X12_multiplyParts (fun (M_big_27 : Int → Int64) => (P_X12_minesLeft (fun (c_28 : Int) => inR c_28 → (P_X12_freeCells (fun (c_29 : Int) => inR c_29 → (P_X12_sumUp (fun (M_big_30 : Int → Int64) => (post 1 M_parts_4 M_numbers_5 M_used_6 M_partOf_7 M_placeOf_8 M_partSize_9 M_ways_10 M_with_11 M_masks_12 M_rests_13 M_big_30)) M_big_27 436 c_28 c_29)) M_cells M_state M_partOf_7 )) M_cells M_mine M_state )) M_parts_4 M_partOf_7 M_placeOf_8 M_partSize_9 M_ways_10 M_with_11 M_big_18 x1)))))) M_big_14 435 440)) ∧ (¬ c_16 = 0 → (post 0 M_parts_4 M_numbers_5 M_used_6 M_partOf_7 M_placeOf_8 M_partSize_9 M_ways_10 M_with_11 M_masks_12 M_rests_13 M_big_14)))) M_big_14 435)))) M_cells M_parts M_numbers M_near M_degree M_mine M_state M_used M_partOf M_placeOf M_partSize M_ways M_with M_masks M_rests M_bits M_big )))) M_state x1
set_option maxRecDepth 100000 in
set_option maxHeartbeats 4000000 in
theorem c_X12_hasShare (l : Launch) (K : wK) (ad : Nat → Nat) {M_thrown : Int} {M_w : Int} {M_h : Int} {M_cells : Int} {M_shape : Int} {M_isBoard : Int} {M_isBlank : Int} {M_lives : Int} {M_moves : Int} {M_parts : Int} {M_numbers : Int} {M_grade : Int} {M_reasons : Int} {M_total : Int} {M_near : Int → Int} {M_degree : Int → Int} {M_mine : Int → Int} {M_state : Int → Int} {M_history : Int → Int64} {M_oldLives : Int → Int} {M_safe : Int → Int} {M_mined : Int → Int} {M_used : Int → Int} {M_partOf : Int → Int} {M_placeOf : Int → Int} {M_partSize : Int → Int} {M_ways : Int → Int} {M_with : Int → Int} {M_masks : Int → Int} {M_rests : Int → Int} {M_bits : Int → Int} {M_reach : Int → Int} {M_more : Int → Int} {M_reason : Int → Int} {M_big : Int → Int64} {M_region : Int → Int} (x1 : Int) (rx1 : inR x1) (post : Int → (Int) → (Int) → (Int → Int) → (Int → Int) → (Int → Int) → (Int → Int) → (Int → Int) → (Int → Int) → (Int → Int) → (Int → Int) → (Int → Int64) → Prop) (h : P_X12_hasShare post M_cells M_parts M_numbers M_near M_degree M_mine M_state M_used M_partOf M_placeOf M_partSize M_ways M_with M_masks M_rests M_bits M_big x1) : mI l yX12_hasShare (Cond.code yX12_hasShare cX12_hasShare 2 (some .boolean) :: GT) ({ frames := 8, cells := 0, slots := 0, locals := 480 } : Room) [.ref (ad 0), .int (iI x1)] K ad (mW M_thrown M_w M_h M_cells M_shape M_isBoard M_isBlank M_lives M_moves M_parts M_numbers M_grade M_reasons M_total M_near M_degree M_mine M_state M_history M_oldLives M_safe M_mined M_used M_partOf M_placeOf M_partSize M_ways M_with M_masks M_rests M_bits M_reach M_more M_reason M_big M_region) (fun z9 u9 => (z9 = 0 ∨ z9 = 1) ∧ ∃ M_parts9 M_numbers9 M_used9 M_partOf9 M_placeOf9 M_partSize9 M_ways9 M_with9 M_masks9 M_rests9 M_big9, u9 = (mW M_thrown M_w M_h M_cells M_shape M_isBoard M_isBlank M_lives M_moves M_parts9 M_numbers9 M_grade M_reasons M_total M_near M_degree M_mine M_state M_history M_oldLives M_safe M_mined M_used9 M_partOf9 M_placeOf9 M_partSize9 M_ways9 M_with9 M_masks9 M_rests9 M_bits M_reach M_more M_reason M_big9 M_region) ∧ post z9 M_parts9 M_numbers9 M_used9 M_partOf9 M_placeOf9 M_partSize9 M_ways9 M_with9 M_masks9 M_rests9 M_big9) := by
  refine mZ_of (lv0 := [(0, .ref (ad 0)), (1, .int (iI x1))]) (by decide) (Nat.le_of_ble_eq_true rfl) rfl ?_
  intro p e s m args below meth c Q A C ret
  replace C : Cx p ({ frames := 8, cells := 0, slots := 0, locals := 480 } : Room) m c 0 0 cX12_hasShare 2 s args RX12 K A := C
  unfold P_X12_hasShare at h
  refine wa_aload_n C 0 rfl dX12_hasShare_0 rfl ?_
  refine wa_iload_n C 1 rfl dX12_hasShare_1 rfl ?_
  refine wa_callVi C (k := 0) (As := [.int (iI x1)]) (rest := []) (c_X12_isUnknown l K ad x1 rx1 _ h) gw_1411 gw_1408 mW_0 rfl gw_1410 gs_63 gw_12 q_X12_isUnknown rfl rfl rfl ⟨by decide, by decide⟩ rfl (Nat.le_of_ble_eq_true rfl) dX12_hasShare_2 (fun c_1 u9 rc_1 hp => ?_)
  obtain ⟨bc_1, rfl, h⟩ := hp
  replace h := h bc_1
  refine wa_if_eq C (tgt := 25) (inR_b bc_1) dX12_hasShare_5 (by decide) (fun c_2 => ?_) (fun c_2 => ?_)
  · replace h := h.1 c_2
    refine wa_iconst C (z := 0) dX12_hasShare_25 rfl ?_
    exact ret dX12_hasShare_26 (Or.inl rfl) ⟨(Or.inl rfl), _, _, _, _, _, _, _, _, _, _, _, rfl, h⟩
  · replace h := h.2 c_2
    refine wa_aload_n C 0 rfl dX12_hasShare_8 rfl ?_
    refine wa_callVi C (k := 0) (As := []) (rest := []) (c_X12_countAll l K ad  _ h) gw_1612 gw_1609 mW_0 rfl gw_1611 gs_101 gw_12 q_X12_countAll rfl rfl rfl ⟨by decide, by decide⟩ rfl (Nat.le_of_ble_eq_true rfl) dX12_hasShare_9 (fun c_3 u9 rc_3 hp => ?_)
    obtain ⟨bc_3, M_parts_4, M_numbers_5, M_used_6, M_partOf_7, M_placeOf_8, M_partSize_9, M_ways_10, M_with_11, M_masks_12, M_rests_13, M_big_14, rfl, h⟩ := hp
    replace h := h bc_3
    refine wa_if_eq C (tgt := 25) (inR_b bc_3) dX12_hasShare_12 (by decide) (fun c_15 => ?_) (fun c_15 => ?_)
    · replace h := h.1 c_15
      refine wa_iconst C (z := 0) dX12_hasShare_25 rfl ?_
      exact ret dX12_hasShare_26 (Or.inl rfl) ⟨(Or.inl rfl), _, _, _, _, _, _, _, _, _, _, _, rfl, h⟩
    · replace h := h.2 c_15
      refine wa_aload_n C 0 rfl dX12_hasShare_15 rfl ?_
      refine wa_sipush C (z := 435) dX12_hasShare_16 (by decide) ?_
      refine wa_callVi C (k := 0) (As := [.int (iI 435)]) (rest := []) (c_X12_isNothing l K ad 435 (inR_k 435 rfl) _ h) gw_1659 gw_1656 mW_0 rfl gw_1658 gs_111 gw_12 q_X12_isNothing rfl rfl rfl ⟨by decide, by decide⟩ rfl (Nat.le_of_ble_eq_true rfl) dX12_hasShare_19 (fun c_16 u9 rc_16 hp => ?_)
      obtain ⟨bc_16, rfl, h⟩ := hp
      replace h := h bc_16
      refine wa_if_eq C (tgt := 27) (inR_b bc_16) dX12_hasShare_22 (by decide) (fun c_17 => ?_) (fun c_17 => ?_)
      · replace h := h.1 c_17
        refine wa_aload_n C 0 rfl dX12_hasShare_27 rfl ?_
        refine wa_sipush C (z := 435) dX12_hasShare_28 (by decide) ?_
        refine wa_sipush C (z := 440) dX12_hasShare_31 (by decide) ?_
        refine wa_callVv C (k := 0) (As := [.int (iI 435), .int (iI 440)]) (rest := []) (c_X12_copy l K ad 435 440 (inR_k 435 rfl) (inR_k 440 rfl) _ h) gw_1633 gw_1630 mW_0 rfl gw_1632 gs_106 gw_12 q_X12_copy rfl rfl rfl ⟨by decide, by decide⟩ rfl (Nat.le_of_ble_eq_true rfl) dX12_hasShare_34 (fun u9 hp => ?_)
        obtain ⟨M_big_18, rfl, h⟩ := hp
        refine wa_aload_n C 0 rfl dX12_hasShare_37 rfl ?_
        refine wa_getR C 0 18 mW_0 rfl rfl (by decide) okX12 gw_1250 dX12_hasShare_38 ?_
        refine wa_iload_n C 1 rfl dX12_hasShare_41 rfl ?_
        obtain ⟨t_19, h⟩ := h
        refine wa_iald C 10 mW_10 dX12_hasShare_42 t_19.1 t_19.2 (fun v_20 ev_20 rv_20 => ?_)
        replace h := h v_20 ev_20 rv_20
        refine wa_if_lt C (tgt := 69) rv_20 dX12_hasShare_43 (by decide) (fun c_21 => ?_) (fun c_21 => ?_)
        · replace h := h.1 c_21
          refine wa_aload_n C 0 rfl dX12_hasShare_69 rfl ?_
          refine wa_sipush C (z := 436) dX12_hasShare_70 (by decide) ?_
          refine wa_aload_n C 0 rfl dX12_hasShare_73 rfl ?_
          refine wa_callVi C (k := 0) (As := []) (rest := [.int (iI 436), .ref (ad 0)]) (c_X12_minesLeft l K ad  _ h) gw_1499 gw_1496 mW_0 rfl gw_1498 gs_85 gw_12 q_X12_minesLeft rfl rfl rfl ⟨by decide, by decide⟩ rfl (Nat.le_of_ble_eq_true rfl) dX12_hasShare_74 (fun c_22 u9 rc_22 hp => ?_)
          obtain ⟨rfl, h⟩ := hp
          replace h := h rc_22
          refine wa_iconst C (z := 1) dX12_hasShare_77 rfl ?_
          refine wa_isub C dX12_hasShare_78 ?_
          refine wa_aload_n C 0 rfl dX12_hasShare_79 rfl ?_
          refine wa_callVi C (k := 0) (As := []) (rest := [.int (iI (c_22 - 1)), .int (iI 436), .ref (ad 0)]) (c_X12_freeCells l K ad  _ h) gw_1511 gw_1508 mW_0 rfl gw_1510 gs_88 gw_12 q_X12_freeCells rfl rfl rfl ⟨by decide, by decide⟩ rfl (Nat.le_of_ble_eq_true rfl) dX12_hasShare_80 (fun c_23 u9 rc_23 hp => ?_)
          obtain ⟨rfl, h⟩ := hp
          replace h := h rc_23
          refine wa_iconst C (z := 1) dX12_hasShare_83 rfl ?_
          refine wa_isub C dX12_hasShare_84 ?_
          obtain ⟨r_24, h⟩ := h
          obtain ⟨r_25, h⟩ := h
          refine wa_callVv C (k := 0) (As := [.int (iI 436), .int (iI (c_22 - 1)), .int (iI (c_23 - 1))]) (rest := []) (c_X12_sumUp l K ad 436 (c_22 - 1) (c_23 - 1) (inR_k 436 rfl) r_24 r_25 _ h) gw_1637 gw_1634 mW_0 rfl gw_1636 gs_107 gw_12 q_X12_sumUp rfl rfl rfl ⟨by decide, by decide⟩ rfl (Nat.le_of_ble_eq_true rfl) dX12_hasShare_85 (fun u9 hp => ?_)
          obtain ⟨M_big_26, rfl, h⟩ := hp
          refine wa_iconst C (z := 1) dX12_hasShare_88 rfl ?_
          exact ret dX12_hasShare_89 (Or.inr rfl) ⟨(Or.inr rfl), _, _, _, _, _, _, _, _, _, _, _, rfl, h⟩
        · replace h := h.2 c_21
          refine wa_aload_n C 0 rfl dX12_hasShare_46 rfl ?_
          refine wa_iload_n C 1 rfl dX12_hasShare_47 rfl ?_
          refine wa_callVv C (k := 0) (As := [.int (iI x1)]) (rest := []) (c_X12_multiplyParts l K ad x1 rx1 _ h) gw_1616 gw_1613 mW_0 rfl gw_1615 gs_102 gw_12 q_X12_multiplyParts rfl rfl rfl ⟨by decide, by decide⟩ rfl (Nat.le_of_ble_eq_true rfl) dX12_hasShare_48 (fun u9 hp => ?_)
          obtain ⟨M_big_27, rfl, h⟩ := hp
          refine wa_aload_n C 0 rfl dX12_hasShare_51 rfl ?_
          refine wa_sipush C (z := 436) dX12_hasShare_52 (by decide) ?_
          refine wa_aload_n C 0 rfl dX12_hasShare_55 rfl ?_
          refine wa_callVi C (k := 0) (As := []) (rest := [.int (iI 436), .ref (ad 0)]) (c_X12_minesLeft l K ad  _ h) gw_1499 gw_1496 mW_0 rfl gw_1498 gs_85 gw_12 q_X12_minesLeft rfl rfl rfl ⟨by decide, by decide⟩ rfl (Nat.le_of_ble_eq_true rfl) dX12_hasShare_56 (fun c_28 u9 rc_28 hp => ?_)
          obtain ⟨rfl, h⟩ := hp
          replace h := h rc_28
          refine wa_aload_n C 0 rfl dX12_hasShare_59 rfl ?_
          refine wa_callVi C (k := 0) (As := []) (rest := [.int (iI c_28), .int (iI 436), .ref (ad 0)]) (c_X12_freeCells l K ad  _ h) gw_1511 gw_1508 mW_0 rfl gw_1510 gs_88 gw_12 q_X12_freeCells rfl rfl rfl ⟨by decide, by decide⟩ rfl (Nat.le_of_ble_eq_true rfl) dX12_hasShare_60 (fun c_29 u9 rc_29 hp => ?_)
          obtain ⟨rfl, h⟩ := hp
          replace h := h rc_29
          refine wa_callVv C (k := 0) (As := [.int (iI 436), .int (iI c_28), .int (iI c_29)]) (rest := []) (c_X12_sumUp l K ad 436 c_28 c_29 (inR_k 436 rfl) rc_28 rc_29 _ h) gw_1637 gw_1634 mW_0 rfl gw_1636 gs_107 gw_12 q_X12_sumUp rfl rfl rfl ⟨by decide, by decide⟩ rfl (Nat.le_of_ble_eq_true rfl) dX12_hasShare_63 (fun u9 hp => ?_)
          obtain ⟨M_big_30, rfl, h⟩ := hp
          refine wa_goto C (tgt := 88) dX12_hasShare_66 (by decide) ?_
          refine wa_iconst C (z := 1) dX12_hasShare_88 rfl ?_
          exact ret dX12_hasShare_89 (Or.inr rfl) ⟨(Or.inr rfl), _, _, _, _, _, _, _, _, _, _, _, rfl, h⟩
      · replace h := h.2 c_17
        refine wa_iconst C (z := 0) dX12_hasShare_25 rfl ?_
        exact ret dX12_hasShare_26 (Or.inl rfl) ⟨(Or.inl rfl), _, _, _, _, _, _, _, _, _, _, _, rfl, h⟩
def P_X12_twice (post : (Int → Int64) → Prop) (M_big : Int → Int64) (x1 : Int) : Prop :=
  ∃ Inv_1 : Nat → (Int) → (Int → Int64) → Prop, (∃ n_2 : Nat, Inv_1 n_2 0 M_big) ∧ ∀ (n_3 : Nat) (x2_6 : Int) (M_big_7 : Int → Int64), inR x2_6 → Inv_1 n_3 x2_6 M_big_7 → ((6 ≤ x2_6 → (P_X12_settle (fun (M_big_9 : Int → Int64) => (post M_big_9)) M_big_7 x1)) ∧ (¬ 6 ≤ x2_6 → ((0 ≤ ((6 * x1) + x2_6) ∧ ((6 * x1) + x2_6) < 2700) ∧ (∀ v_11 : Int64, v_11 = M_big_7 ((6 * x1) + x2_6) → ((0 ≤ ((6 * x1) + x2_6) ∧ ((6 * x1) + x2_6) < 2700) ∧ (∀ M_big_13 : Int → Int64, M_big_13 = upZ M_big_7 ((6 * x1) + x2_6) (v_11 * (2 : Int64)) → (inR (x2_6 + 1) ∧ (∀ x2_15 : Int, x2_15 = (x2_6 + 1) → (∃ n_16 : Nat, n_16 < n_3 ∧ Inv_1 n_16 x2_15 M_big_13)))))))))
set_option maxRecDepth 100000 in
set_option maxHeartbeats 4000000 in
theorem c_X12_twice (l : Launch) (K : wK) (ad : Nat → Nat) {M_thrown : Int} {M_w : Int} {M_h : Int} {M_cells : Int} {M_shape : Int} {M_isBoard : Int} {M_isBlank : Int} {M_lives : Int} {M_moves : Int} {M_parts : Int} {M_numbers : Int} {M_grade : Int} {M_reasons : Int} {M_total : Int} {M_near : Int → Int} {M_degree : Int → Int} {M_mine : Int → Int} {M_state : Int → Int} {M_history : Int → Int64} {M_oldLives : Int → Int} {M_safe : Int → Int} {M_mined : Int → Int} {M_used : Int → Int} {M_partOf : Int → Int} {M_placeOf : Int → Int} {M_partSize : Int → Int} {M_ways : Int → Int} {M_with : Int → Int} {M_masks : Int → Int} {M_rests : Int → Int} {M_bits : Int → Int} {M_reach : Int → Int} {M_more : Int → Int} {M_reason : Int → Int} {M_big : Int → Int64} {M_region : Int → Int} (x1 : Int) (rx1 : inR x1) (post : (Int → Int64) → Prop) (h : P_X12_twice post M_big x1) : mV l yX12_twice (Cond.code yX12_twice cX12_twice 3 none :: GT) ({ frames := 3, cells := 0, slots := 0, locals := 180 } : Room) [.ref (ad 0), .int (iI x1)] K ad (mW M_thrown M_w M_h M_cells M_shape M_isBoard M_isBlank M_lives M_moves M_parts M_numbers M_grade M_reasons M_total M_near M_degree M_mine M_state M_history M_oldLives M_safe M_mined M_used M_partOf M_placeOf M_partSize M_ways M_with M_masks M_rests M_bits M_reach M_more M_reason M_big M_region) (fun u9 => ∃ M_big9, u9 = (mW M_thrown M_w M_h M_cells M_shape M_isBoard M_isBlank M_lives M_moves M_parts M_numbers M_grade M_reasons M_total M_near M_degree M_mine M_state M_history M_oldLives M_safe M_mined M_used M_partOf M_placeOf M_partSize M_ways M_with M_masks M_rests M_bits M_reach M_more M_reason M_big9 M_region) ∧ post M_big9) := by
  refine mV_of (lv0 := [(0, .ref (ad 0)), (1, .int (iI x1))]) (by decide) (Nat.le_of_ble_eq_true rfl) rfl ?_
  intro p e s m args below meth c Q A C ret
  replace C : Cx p ({ frames := 3, cells := 0, slots := 0, locals := 180 } : Room) m c 0 0 cX12_twice 3 s args RX12 K A := C
  unfold P_X12_twice at h
  refine wa_iconst C (z := 0) dX12_twice_0 rfl ?_
  refine wa_istore_n C dX12_twice_1 rfl (by decide) rfl ?_
  obtain ⟨Inv_1, ⟨n_2, h0Inv_1⟩, hInv_1⟩ := h
  have k_5 : ∀ (n_3 : Nat) (x2_6 : Int) (M_big_7 : Int → Int64), inR x2_6 → Inv_1 n_3 x2_6 M_big_7 → WA p l e ({ frames := 3, cells := 0, slots := 0, locals := 180 } : Room) s m args below meth c 0 0 Q K ad 3 A 2 [(0, .ref (ad 0)), (1, .int (iI x1)), (2, .int (iI x2_6))] [] (mW M_thrown M_w M_h M_cells M_shape M_isBoard M_isBlank M_lives M_moves M_parts M_numbers M_grade M_reasons M_total M_near M_degree M_mine M_state M_history M_oldLives M_safe M_mined M_used M_partOf M_placeOf M_partSize M_ways M_with M_masks M_rests M_bits M_reach M_more M_reason M_big_7 M_region) := by
    intro n_3
    induction n_3 using Nat.strongRecOn with
    | ind n_3 ih_4 =>
      intro x2_6 M_big_7 rx2_6 h
      replace h := hInv_1 n_3 x2_6 M_big_7 rx2_6 h
      refine wa_iload_n C 2 rfl dX12_twice_2 rfl ?_
      refine wa_bipush C (z := 6) dX12_twice_3 (by decide) ?_
      refine wa_icmp_ge C (tgt := 31) rx2_6 (inR_k 6 rfl) dX12_twice_5 (by decide) (fun c_8 => ?_) (fun c_8 => ?_)
      · replace h := h.1 c_8
        refine wa_aload_n C 0 rfl dX12_twice_31 rfl ?_
        refine wa_iload_n C 1 rfl dX12_twice_32 rfl ?_
        refine wa_callVv C (k := 0) (As := [.int (iI x1)]) (rest := []) (c_X12_settle l K ad x1 rx1 _ h) gw_1628 gw_1625 mW_0 rfl gw_1627 gs_105 gw_12 q_X12_settle rfl rfl rfl ⟨by decide, by decide⟩ rfl (Nat.le_of_ble_eq_true rfl) dX12_twice_33 (fun u9 hp => ?_)
        obtain ⟨M_big_9, rfl, h⟩ := hp
        exact ret dX12_twice_36 ⟨_, rfl, h⟩
      · replace h := h.2 c_8
        refine wa_aload_n C 0 rfl dX12_twice_8 rfl ?_
        refine wa_getR C 0 34 mW_0 rfl rfl (by decide) okX12 gw_1266 dX12_twice_9 ?_
        refine wa_bipush C (z := 6) dX12_twice_12 (by decide) ?_
        refine wa_iload_n C 1 rfl dX12_twice_14 rfl ?_
        refine wa_imul C dX12_twice_15 ?_
        refine wa_iload_n C 2 rfl dX12_twice_16 rfl ?_
        refine wa_iadd C dX12_twice_17 ?_
        refine wa_dup2 C dX12_twice_18 rfl rfl ?_
        obtain ⟨t_10, h⟩ := h
        refine wa_lald C 21 mW_21 dX12_twice_19 t_10.1 t_10.2 (fun v_11 ev_11 => ?_)
        replace h := h v_11 ev_11
        refine wa_ldc2 C gw_1672 dX12_twice_20 ?_
        refine wa_lmul C dX12_twice_23 ?_
        obtain ⟨t_12, h⟩ := h
        refine wa_last C (ws' := fun w9 => (mW M_thrown M_w M_h M_cells M_shape M_isBoard M_isBlank M_lives M_moves M_parts M_numbers M_grade M_reasons M_total M_near M_degree M_mine M_state M_history M_oldLives M_safe M_mined M_used M_partOf M_placeOf M_partSize M_ways M_with M_masks M_rests M_bits M_reach M_more M_reason w9 M_region)) 21 mW_21 dX12_twice_24 t_12.1 t_12.2 mWs_21 (fun M_big_13 eM_big_13 => ?_)
        replace h := h M_big_13 eM_big_13
        obtain ⟨r_14, h⟩ := h
        refine wa_iinc C (lv' := fun w9 => [(2, .int (iI w9)), (0, .ref (ad 0)), (1, .int (iI x1))]) 2 rfl dX12_twice_25 (by decide) (fun _ => rfl) (fun x2_15 ex2_15 => ?_)
        replace h := h x2_15 ex2_15
        have rx2_15 : inR x2_15 := by rw [ex2_15]; exact r_14
        refine wa_goto C (tgt := 2) dX12_twice_28 (by decide) ?_
        obtain ⟨n_16, ln_16, h⟩ := h
        refine wa_sub C [1, 2, 0] rfl ?_
        exact ih_4 n_16 ln_16 x2_15 M_big_13 rx2_15 h
  refine wa_sub C [1, 2, 0] rfl ?_
  exact k_5 n_2 0 M_big (inR_k 0 rfl) h0Inv_1
def P_X12_compare (post : Int → Prop) (M_big : Int → Int64) (x1 : Int) (x2 : Int) : Prop :=
  ∃ Inv_1 : Nat → (Int) → (Int) → Prop, (∃ n_2 : Nat, Inv_1 n_2 0 0) ∧ ∀ (n_3 : Nat) (x3_6 : Int) (x4_7 : Int), inR x3_6 → inR x4_7 → Inv_1 n_3 x3_6 x4_7 → ((6 ≤ x4_7 → (post x3_6)) ∧ (¬ 6 ≤ x4_7 → ((0 ≤ ((6 * x1) + x4_7) ∧ ((6 * x1) + x4_7) < 2700) ∧ (∀ v_10 : Int64, v_10 = M_big ((6 * x1) + x4_7) → ((0 ≤ ((6 * x2) + x4_7) ∧ ((6 * x2) + x4_7) < 2700) ∧ (∀ v_12 : Int64, v_12 = M_big ((6 * x2) + x4_7) → (∀ x5_13 : Int64, x5_13 = (v_10 - v_12) → (∃ J_14 : (Int) → Prop, ((0 ≤ (lcI x5_13 (0 : Int64)) → (((lcI x5_13 (0 : Int64)) ≤ 0 → (J_14 x3_6)) ∧ (¬ (lcI x5_13 (0 : Int64)) ≤ 0 → (J_14 1)))) ∧ (¬ 0 ≤ (lcI x5_13 (0 : Int64)) → (J_14 (-1)))) ∧ (∀ (z_16 : Int), inR z_16 → J_14 z_16 → (inR (x4_7 + 1) ∧ (∀ x4_18 : Int, x4_18 = (x4_7 + 1) → (∃ n_19 : Nat, n_19 < n_3 ∧ Inv_1 n_19 z_16 x4_18))))))))))))
set_option maxRecDepth 100000 in
set_option maxHeartbeats 4000000 in
theorem c_X12_compare (l : Launch) (K : wK) (ad : Nat → Nat) {M_thrown : Int} {M_w : Int} {M_h : Int} {M_cells : Int} {M_shape : Int} {M_isBoard : Int} {M_isBlank : Int} {M_lives : Int} {M_moves : Int} {M_parts : Int} {M_numbers : Int} {M_grade : Int} {M_reasons : Int} {M_total : Int} {M_near : Int → Int} {M_degree : Int → Int} {M_mine : Int → Int} {M_state : Int → Int} {M_history : Int → Int64} {M_oldLives : Int → Int} {M_safe : Int → Int} {M_mined : Int → Int} {M_used : Int → Int} {M_partOf : Int → Int} {M_placeOf : Int → Int} {M_partSize : Int → Int} {M_ways : Int → Int} {M_with : Int → Int} {M_masks : Int → Int} {M_rests : Int → Int} {M_bits : Int → Int} {M_reach : Int → Int} {M_more : Int → Int} {M_reason : Int → Int} {M_big : Int → Int64} {M_region : Int → Int} (x1 : Int) (x2 : Int) (rx1 : inR x1) (rx2 : inR x2) (post : Int → Prop) (h : P_X12_compare post M_big x1 x2) : mI l yX12_compare (Cond.code yX12_compare cX12_compare 7 (some .int) :: GT) ({ frames := 2, cells := 0, slots := 0, locals := 120 } : Room) [.ref (ad 0), .int (iI x1), .int (iI x2)] K ad (mW M_thrown M_w M_h M_cells M_shape M_isBoard M_isBlank M_lives M_moves M_parts M_numbers M_grade M_reasons M_total M_near M_degree M_mine M_state M_history M_oldLives M_safe M_mined M_used M_partOf M_placeOf M_partSize M_ways M_with M_masks M_rests M_bits M_reach M_more M_reason M_big M_region) (fun z9 u9 => u9 = (mW M_thrown M_w M_h M_cells M_shape M_isBoard M_isBlank M_lives M_moves M_parts M_numbers M_grade M_reasons M_total M_near M_degree M_mine M_state M_history M_oldLives M_safe M_mined M_used M_partOf M_placeOf M_partSize M_ways M_with M_masks M_rests M_bits M_reach M_more M_reason M_big M_region) ∧ post z9) := by
  refine mI_of (lv0 := [(0, .ref (ad 0)), (1, .int (iI x1)), (2, .int (iI x2))]) (by decide) (Nat.le_of_ble_eq_true rfl) rfl ?_
  intro p e s m args below meth c Q A C ret
  replace C : Cx p ({ frames := 2, cells := 0, slots := 0, locals := 120 } : Room) m c 0 0 cX12_compare 7 s args RX12 K A := C
  unfold P_X12_compare at h
  refine wa_iconst C (z := 0) dX12_compare_0 rfl ?_
  refine wa_istore_n C dX12_compare_1 rfl (by decide) rfl ?_
  refine wa_iconst C (z := 0) dX12_compare_2 rfl ?_
  refine wa_istore C dX12_compare_3 (by decide) rfl ?_
  obtain ⟨Inv_1, ⟨n_2, h0Inv_1⟩, hInv_1⟩ := h
  have k_5 : ∀ (n_3 : Nat) (x3_6 : Int) (x4_7 : Int), inR x3_6 → inR x4_7 → Inv_1 n_3 x3_6 x4_7 → WA p l e ({ frames := 2, cells := 0, slots := 0, locals := 120 } : Room) s m args below meth c 0 0 Q K ad 7 A 5 [(0, .ref (ad 0)), (1, .int (iI x1)), (2, .int (iI x2)), (3, .int (iI x3_6)), (4, .int (iI x4_7))] [] (mW M_thrown M_w M_h M_cells M_shape M_isBoard M_isBlank M_lives M_moves M_parts M_numbers M_grade M_reasons M_total M_near M_degree M_mine M_state M_history M_oldLives M_safe M_mined M_used M_partOf M_placeOf M_partSize M_ways M_with M_masks M_rests M_bits M_reach M_more M_reason M_big M_region) := by
    intro n_3
    induction n_3 using Nat.strongRecOn with
    | ind n_3 ih_4 =>
      intro x3_6 x4_7 rx3_6 rx4_7 h
      replace h := hInv_1 n_3 x3_6 x4_7 rx3_6 rx4_7 h
      refine wa_iload C 4 rfl dX12_compare_5 ?_
      refine wa_bipush C (z := 6) dX12_compare_7 (by decide) ?_
      refine wa_icmp_ge C (tgt := 69) rx4_7 (inR_k 6 rfl) dX12_compare_9 (by decide) (fun c_8 => ?_) (fun c_8 => ?_)
      · replace h := h.1 c_8
        refine wa_iload_n C 3 rfl dX12_compare_69 rfl ?_
        exact ret dX12_compare_70 rx3_6 ⟨rfl, h⟩
      · replace h := h.2 c_8
        refine wa_aload_n C 0 rfl dX12_compare_12 rfl ?_
        refine wa_getR C 0 34 mW_0 rfl rfl (by decide) okX12 gw_1266 dX12_compare_13 ?_
        refine wa_bipush C (z := 6) dX12_compare_16 (by decide) ?_
        refine wa_iload_n C 1 rfl dX12_compare_18 rfl ?_
        refine wa_imul C dX12_compare_19 ?_
        refine wa_iload C 4 rfl dX12_compare_20 ?_
        refine wa_iadd C dX12_compare_22 ?_
        obtain ⟨t_9, h⟩ := h
        refine wa_lald C 21 mW_21 dX12_compare_23 t_9.1 t_9.2 (fun v_10 ev_10 => ?_)
        replace h := h v_10 ev_10
        refine wa_aload_n C 0 rfl dX12_compare_24 rfl ?_
        refine wa_getR C 0 34 mW_0 rfl rfl (by decide) okX12 gw_1266 dX12_compare_25 ?_
        refine wa_bipush C (z := 6) dX12_compare_28 (by decide) ?_
        refine wa_iload_n C 2 rfl dX12_compare_30 rfl ?_
        refine wa_imul C dX12_compare_31 ?_
        refine wa_iload C 4 rfl dX12_compare_32 ?_
        refine wa_iadd C dX12_compare_34 ?_
        obtain ⟨t_11, h⟩ := h
        refine wa_lald C 21 mW_21 dX12_compare_35 t_11.1 t_11.2 (fun v_12 ev_12 => ?_)
        replace h := h v_12 ev_12
        refine wa_lsub C dX12_compare_36 ?_
        refine wa_nml (fun x5_13 ex5_13 => ?_)
        replace h := h x5_13 ex5_13
        refine wa_lstore C dX12_compare_37 (by decide) rfl ?_
        refine wa_lload C 0 rfl dX12_compare_39 ?_
        refine wa_lconst C (v := 0) dX12_compare_41 rfl ?_
        refine wa_lcmp C dX12_compare_42 ?_
        obtain ⟨J_14, h, hJ_14⟩ := h
        have k_15 : ∀ (z_16 : Int), inR z_16 → J_14 z_16 → WA p l e ({ frames := 2, cells := 0, slots := 0, locals := 120 } : Room) s m args below meth c 0 0 Q K ad 7 A 62 [(0, .ref (ad 0)), (1, .int (iI x1)), (2, .int (iI x2)), (4, .int (iI x4_7))] [.int (iI z_16)] (mW M_thrown M_w M_h M_cells M_shape M_isBoard M_isBlank M_lives M_moves M_parts M_numbers M_grade M_reasons M_total M_near M_degree M_mine M_state M_history M_oldLives M_safe M_mined M_used M_partOf M_placeOf M_partSize M_ways M_with M_masks M_rests M_bits M_reach M_more M_reason M_big M_region) := by
          intro z_16 rz_16 h
          replace h := hJ_14 z_16 rz_16 h
          refine wa_istore_n C dX12_compare_62 rfl (by decide) rfl ?_
          obtain ⟨r_17, h⟩ := h
          refine wa_iinc C (lv' := fun w9 => [(4, .int (iI w9)), (3, .int (iI z_16)), (0, .ref (ad 0)), (1, .int (iI x1)), (2, .int (iI x2))]) 4 rfl dX12_compare_63 (by decide) (fun _ => rfl) (fun x4_18 ex4_18 => ?_)
          replace h := h x4_18 ex4_18
          have rx4_18 : inR x4_18 := by rw [ex4_18]; exact r_17
          refine wa_goto C (tgt := 5) dX12_compare_66 (by decide) ?_
          obtain ⟨n_19, ln_19, h⟩ := h
          refine wa_sub C [2, 3, 4, 1, 0] rfl ?_
          exact ih_4 n_19 ln_19 z_16 x4_18 rz_16 rx4_18 h
        refine wa_if_ge C (tgt := 50) (lcI_r _ _) dX12_compare_43 (by decide) (fun c_20 => ?_) (fun c_20 => ?_)
        · replace h := h.1 c_20
          refine wa_lload C 0 rfl dX12_compare_50 ?_
          refine wa_lconst C (v := 0) dX12_compare_52 rfl ?_
          refine wa_lcmp C dX12_compare_53 ?_
          refine wa_if_le C (tgt := 61) (lcI_r _ _) dX12_compare_54 (by decide) (fun c_21 => ?_) (fun c_21 => ?_)
          · replace h := h.1 c_21
            refine wa_iload_n C 4 rfl dX12_compare_61 rfl ?_
            refine wa_sub C [1, 2, 3, 5] rfl ?_
            exact k_15 x3_6 rx3_6 h
          · replace h := h.2 c_21
            refine wa_iconst C (z := 1) dX12_compare_57 rfl ?_
            refine wa_goto C (tgt := 62) dX12_compare_58 (by decide) ?_
            refine wa_sub C [1, 2, 3, 5] rfl ?_
            exact k_15 1 (inR_k 1 rfl) h
        · replace h := h.2 c_20
          refine wa_iconst C (z := -1) dX12_compare_46 rfl ?_
          refine wa_goto C (tgt := 62) dX12_compare_47 (by decide) ?_
          refine wa_sub C [1, 2, 3, 5] rfl ?_
          exact k_15 (-1) (inR_k (-1) rfl) h
  refine wa_sub C [2, 3, 4, 1, 0] rfl ?_
  exact k_5 n_2 0 0 (inR_k 0 rfl) (inR_k 0 rfl) h0Inv_1
def P_X12_take (post : (Int → Int64) → Prop) (M_big : Int → Int64) (x1 : Int) (x2 : Int) : Prop :=
  ∃ Inv_1 : Nat → (Int) → (Int → Int64) → Prop, (∃ n_2 : Nat, Inv_1 n_2 0 M_big) ∧ ∀ (n_3 : Nat) (x3_6 : Int) (M_big_7 : Int → Int64), inR x3_6 → Inv_1 n_3 x3_6 M_big_7 → ((6 ≤ x3_6 → (P_X12_settle (fun (M_big_9 : Int → Int64) => (post M_big_9)) M_big_7 x1)) ∧ (¬ 6 ≤ x3_6 → ((0 ≤ ((6 * x1) + x3_6) ∧ ((6 * x1) + x3_6) < 2700) ∧ (∀ v_11 : Int64, v_11 = M_big_7 ((6 * x1) + x3_6) → ((0 ≤ ((6 * x2) + x3_6) ∧ ((6 * x2) + x3_6) < 2700) ∧ (∀ v_13 : Int64, v_13 = M_big_7 ((6 * x2) + x3_6) → ((0 ≤ ((6 * x1) + x3_6) ∧ ((6 * x1) + x3_6) < 2700) ∧ (∀ M_big_15 : Int → Int64, M_big_15 = upZ M_big_7 ((6 * x1) + x3_6) (v_11 - v_13) → (inR (x3_6 + 1) ∧ (∀ x3_17 : Int, x3_17 = (x3_6 + 1) → (∃ n_18 : Nat, n_18 < n_3 ∧ Inv_1 n_18 x3_17 M_big_15)))))))))))
set_option maxRecDepth 100000 in
set_option maxHeartbeats 4000000 in
theorem c_X12_take (l : Launch) (K : wK) (ad : Nat → Nat) {M_thrown : Int} {M_w : Int} {M_h : Int} {M_cells : Int} {M_shape : Int} {M_isBoard : Int} {M_isBlank : Int} {M_lives : Int} {M_moves : Int} {M_parts : Int} {M_numbers : Int} {M_grade : Int} {M_reasons : Int} {M_total : Int} {M_near : Int → Int} {M_degree : Int → Int} {M_mine : Int → Int} {M_state : Int → Int} {M_history : Int → Int64} {M_oldLives : Int → Int} {M_safe : Int → Int} {M_mined : Int → Int} {M_used : Int → Int} {M_partOf : Int → Int} {M_placeOf : Int → Int} {M_partSize : Int → Int} {M_ways : Int → Int} {M_with : Int → Int} {M_masks : Int → Int} {M_rests : Int → Int} {M_bits : Int → Int} {M_reach : Int → Int} {M_more : Int → Int} {M_reason : Int → Int} {M_big : Int → Int64} {M_region : Int → Int} (x1 : Int) (x2 : Int) (rx1 : inR x1) (rx2 : inR x2) (post : (Int → Int64) → Prop) (h : P_X12_take post M_big x1 x2) : mV l yX12_take (Cond.code yX12_take cX12_take 4 none :: GT) ({ frames := 3, cells := 0, slots := 0, locals := 180 } : Room) [.ref (ad 0), .int (iI x1), .int (iI x2)] K ad (mW M_thrown M_w M_h M_cells M_shape M_isBoard M_isBlank M_lives M_moves M_parts M_numbers M_grade M_reasons M_total M_near M_degree M_mine M_state M_history M_oldLives M_safe M_mined M_used M_partOf M_placeOf M_partSize M_ways M_with M_masks M_rests M_bits M_reach M_more M_reason M_big M_region) (fun u9 => ∃ M_big9, u9 = (mW M_thrown M_w M_h M_cells M_shape M_isBoard M_isBlank M_lives M_moves M_parts M_numbers M_grade M_reasons M_total M_near M_degree M_mine M_state M_history M_oldLives M_safe M_mined M_used M_partOf M_placeOf M_partSize M_ways M_with M_masks M_rests M_bits M_reach M_more M_reason M_big9 M_region) ∧ post M_big9) := by
  refine mV_of (lv0 := [(0, .ref (ad 0)), (1, .int (iI x1)), (2, .int (iI x2))]) (by decide) (Nat.le_of_ble_eq_true rfl) rfl ?_
  intro p e s m args below meth c Q A C ret
  replace C : Cx p ({ frames := 3, cells := 0, slots := 0, locals := 180 } : Room) m c 0 0 cX12_take 4 s args RX12 K A := C
  unfold P_X12_take at h
  refine wa_iconst C (z := 0) dX12_take_0 rfl ?_
  refine wa_istore_n C dX12_take_1 rfl (by decide) rfl ?_
  obtain ⟨Inv_1, ⟨n_2, h0Inv_1⟩, hInv_1⟩ := h
  have k_5 : ∀ (n_3 : Nat) (x3_6 : Int) (M_big_7 : Int → Int64), inR x3_6 → Inv_1 n_3 x3_6 M_big_7 → WA p l e ({ frames := 3, cells := 0, slots := 0, locals := 180 } : Room) s m args below meth c 0 0 Q K ad 4 A 2 [(0, .ref (ad 0)), (1, .int (iI x1)), (2, .int (iI x2)), (3, .int (iI x3_6))] [] (mW M_thrown M_w M_h M_cells M_shape M_isBoard M_isBlank M_lives M_moves M_parts M_numbers M_grade M_reasons M_total M_near M_degree M_mine M_state M_history M_oldLives M_safe M_mined M_used M_partOf M_placeOf M_partSize M_ways M_with M_masks M_rests M_bits M_reach M_more M_reason M_big_7 M_region) := by
    intro n_3
    induction n_3 using Nat.strongRecOn with
    | ind n_3 ih_4 =>
      intro x3_6 M_big_7 rx3_6 h
      replace h := hInv_1 n_3 x3_6 M_big_7 rx3_6 h
      refine wa_iload_n C 3 rfl dX12_take_2 rfl ?_
      refine wa_bipush C (z := 6) dX12_take_3 (by decide) ?_
      refine wa_icmp_ge C (tgt := 39) rx3_6 (inR_k 6 rfl) dX12_take_5 (by decide) (fun c_8 => ?_) (fun c_8 => ?_)
      · replace h := h.1 c_8
        refine wa_aload_n C 0 rfl dX12_take_39 rfl ?_
        refine wa_iload_n C 1 rfl dX12_take_40 rfl ?_
        refine wa_callVv C (k := 0) (As := [.int (iI x1)]) (rest := []) (c_X12_settle l K ad x1 rx1 _ h) gw_1628 gw_1625 mW_0 rfl gw_1627 gs_105 gw_12 q_X12_settle rfl rfl rfl ⟨by decide, by decide⟩ rfl (Nat.le_of_ble_eq_true rfl) dX12_take_41 (fun u9 hp => ?_)
        obtain ⟨M_big_9, rfl, h⟩ := hp
        exact ret dX12_take_44 ⟨_, rfl, h⟩
      · replace h := h.2 c_8
        refine wa_aload_n C 0 rfl dX12_take_8 rfl ?_
        refine wa_getR C 0 34 mW_0 rfl rfl (by decide) okX12 gw_1266 dX12_take_9 ?_
        refine wa_bipush C (z := 6) dX12_take_12 (by decide) ?_
        refine wa_iload_n C 1 rfl dX12_take_14 rfl ?_
        refine wa_imul C dX12_take_15 ?_
        refine wa_iload_n C 3 rfl dX12_take_16 rfl ?_
        refine wa_iadd C dX12_take_17 ?_
        refine wa_dup2 C dX12_take_18 rfl rfl ?_
        obtain ⟨t_10, h⟩ := h
        refine wa_lald C 21 mW_21 dX12_take_19 t_10.1 t_10.2 (fun v_11 ev_11 => ?_)
        replace h := h v_11 ev_11
        refine wa_aload_n C 0 rfl dX12_take_20 rfl ?_
        refine wa_getR C 0 34 mW_0 rfl rfl (by decide) okX12 gw_1266 dX12_take_21 ?_
        refine wa_bipush C (z := 6) dX12_take_24 (by decide) ?_
        refine wa_iload_n C 2 rfl dX12_take_26 rfl ?_
        refine wa_imul C dX12_take_27 ?_
        refine wa_iload_n C 3 rfl dX12_take_28 rfl ?_
        refine wa_iadd C dX12_take_29 ?_
        obtain ⟨t_12, h⟩ := h
        refine wa_lald C 21 mW_21 dX12_take_30 t_12.1 t_12.2 (fun v_13 ev_13 => ?_)
        replace h := h v_13 ev_13
        refine wa_lsub C dX12_take_31 ?_
        obtain ⟨t_14, h⟩ := h
        refine wa_last C (ws' := fun w9 => (mW M_thrown M_w M_h M_cells M_shape M_isBoard M_isBlank M_lives M_moves M_parts M_numbers M_grade M_reasons M_total M_near M_degree M_mine M_state M_history M_oldLives M_safe M_mined M_used M_partOf M_placeOf M_partSize M_ways M_with M_masks M_rests M_bits M_reach M_more M_reason w9 M_region)) 21 mW_21 dX12_take_32 t_14.1 t_14.2 mWs_21 (fun M_big_15 eM_big_15 => ?_)
        replace h := h M_big_15 eM_big_15
        obtain ⟨r_16, h⟩ := h
        refine wa_iinc C (lv' := fun w9 => [(3, .int (iI w9)), (0, .ref (ad 0)), (1, .int (iI x1)), (2, .int (iI x2))]) 3 rfl dX12_take_33 (by decide) (fun _ => rfl) (fun x3_17 ex3_17 => ?_)
        replace h := h x3_17 ex3_17
        have rx3_17 : inR x3_17 := by rw [ex3_17]; exact r_16
        refine wa_goto C (tgt := 2) dX12_take_36 (by decide) ?_
        obtain ⟨n_18, ln_18, h⟩ := h
        refine wa_sub C [1, 2, 3, 0] rfl ?_
        exact ih_4 n_18 ln_18 x3_17 M_big_15 rx3_17 h
  refine wa_sub C [1, 2, 3, 0] rfl ?_
  exact k_5 n_2 0 M_big (inR_k 0 rfl) h0Inv_1
def P_X12_divideBy (post : (Int → Int64) → Prop) (M_big : Int → Int64) (x1 : Int) (x2 : Int) : Prop :=
  P_X12_put (fun (M_big_1 : Int → Int64) => (∃ Inv_2 : Nat → (Int) → (Int → Int64) → Prop, (∃ n_3 : Nat, Inv_2 n_3 185 M_big_1) ∧ ∀ (n_4 : Nat) (x3_7 : Int) (M_big_8 : Int → Int64), inR x3_7 → Inv_2 n_4 x3_7 M_big_8 → ((x3_7 < 0 → (post M_big_8)) ∧ (¬ x3_7 < 0 → (P_X12_twice (fun (M_big_10 : Int → Int64) => (∀ v_11 : Int64, v_11 = M_big_10 2634 → ((0 ≤ ((6 * x1) + (x3_7.tdiv 31)) ∧ ((6 * x1) + (x3_7.tdiv 31)) < 2700) ∧ (∀ v_13 : Int64, v_13 = M_big_10 ((6 * x1) + (x3_7.tdiv 31)) → (∀ M_big_14 : Int → Int64, M_big_14 = upZ M_big_10 2634 (v_11 + ((shrL v_13 (x3_7.tmod 31)) &&& (1 : Int64))) → (P_X12_compare (fun (c_15 : Int) => inR c_15 → (∃ J_16 : (Int) → Prop, ((c_15 < 0 → (J_16 0)) ∧ (¬ c_15 < 0 → (J_16 1))) ∧ (∀ (z_18 : Int), inR z_18 → J_16 z_18 → (∃ J_19 : (Int → Int64) → Prop, ((z_18 = 0 → (J_19 M_big_14)) ∧ (¬ z_18 = 0 → (P_X12_take (fun (M_big_37 : Int → Int64) => (J_19 M_big_37)) M_big_14 439 x2))) ∧ (∀ (M_big_21 : Int → Int64), J_19 M_big_21 → (∀ x5_22 : Int64, x5_22 = (shlL (1 : Int64) (x3_7.tmod 31)) → (∃ J_23 : (Int64) → Prop, ((z_18 = 0 → ((0 ≤ ((6 * x1) + (x3_7.tdiv 31)) ∧ ((6 * x1) + (x3_7.tdiv 31)) < 2700) ∧ (∀ v_33 : Int64, v_33 = M_big_21 ((6 * x1) + (x3_7.tdiv 31)) → (J_23 (v_33 &&& (x5_22 ^^^ (-1 : Int64))))))) ∧ (¬ z_18 = 0 → ((0 ≤ ((6 * x1) + (x3_7.tdiv 31)) ∧ ((6 * x1) + (x3_7.tdiv 31)) < 2700) ∧ (∀ v_35 : Int64, v_35 = M_big_21 ((6 * x1) + (x3_7.tdiv 31)) → (J_23 (v_35 ||| x5_22)))))) ∧ (∀ (z_25 : Int64), J_23 z_25 → ((0 ≤ ((6 * x1) + (x3_7.tdiv 31)) ∧ ((6 * x1) + (x3_7.tdiv 31)) < 2700) ∧ (∀ M_big_27 : Int → Int64, M_big_27 = upZ M_big_21 ((6 * x1) + (x3_7.tdiv 31)) z_25 → (inR (x3_7 + (-1)) ∧ (∀ x3_29 : Int, x3_29 = (x3_7 + (-1)) → (∃ n_30 : Nat, n_30 < n_4 ∧ Inv_2 n_30 x3_29 M_big_27))))))))))))) M_big_14 439 x2)))))) M_big_8 439))))) M_big 439 (0 : Int64)
set_option maxRecDepth 100000 in
set_option maxHeartbeats 4000000 in
theorem c_X12_divideBy (l : Launch) (K : wK) (ad : Nat → Nat) {M_thrown : Int} {M_w : Int} {M_h : Int} {M_cells : Int} {M_shape : Int} {M_isBoard : Int} {M_isBlank : Int} {M_lives : Int} {M_moves : Int} {M_parts : Int} {M_numbers : Int} {M_grade : Int} {M_reasons : Int} {M_total : Int} {M_near : Int → Int} {M_degree : Int → Int} {M_mine : Int → Int} {M_state : Int → Int} {M_history : Int → Int64} {M_oldLives : Int → Int} {M_safe : Int → Int} {M_mined : Int → Int} {M_used : Int → Int} {M_partOf : Int → Int} {M_placeOf : Int → Int} {M_partSize : Int → Int} {M_ways : Int → Int} {M_with : Int → Int} {M_masks : Int → Int} {M_rests : Int → Int} {M_bits : Int → Int} {M_reach : Int → Int} {M_more : Int → Int} {M_reason : Int → Int} {M_big : Int → Int64} {M_region : Int → Int} (x1 : Int) (x2 : Int) (rx1 : inR x1) (rx2 : inR x2) (post : (Int → Int64) → Prop) (h : P_X12_divideBy post M_big x1 x2) : mV l yX12_divideBy (Cond.code yX12_divideBy cX12_divideBy 7 none :: GT) ({ frames := 4, cells := 0, slots := 0, locals := 240 } : Room) [.ref (ad 0), .int (iI x1), .int (iI x2)] K ad (mW M_thrown M_w M_h M_cells M_shape M_isBoard M_isBlank M_lives M_moves M_parts M_numbers M_grade M_reasons M_total M_near M_degree M_mine M_state M_history M_oldLives M_safe M_mined M_used M_partOf M_placeOf M_partSize M_ways M_with M_masks M_rests M_bits M_reach M_more M_reason M_big M_region) (fun u9 => ∃ M_big9, u9 = (mW M_thrown M_w M_h M_cells M_shape M_isBoard M_isBlank M_lives M_moves M_parts M_numbers M_grade M_reasons M_total M_near M_degree M_mine M_state M_history M_oldLives M_safe M_mined M_used M_partOf M_placeOf M_partSize M_ways M_with M_masks M_rests M_bits M_reach M_more M_reason M_big9 M_region) ∧ post M_big9) := by
  refine mV_of (lv0 := [(0, .ref (ad 0)), (1, .int (iI x1)), (2, .int (iI x2))]) (by decide) (Nat.le_of_ble_eq_true rfl) rfl ?_
  intro p e s m args below meth c Q A C ret
  replace C : Cx p ({ frames := 4, cells := 0, slots := 0, locals := 240 } : Room) m c 0 0 cX12_divideBy 7 s args RX12 K A := C
  unfold P_X12_divideBy at h
  refine wa_aload_n C 0 rfl dX12_divideBy_0 rfl ?_
  refine wa_sipush C (z := 439) dX12_divideBy_1 (by decide) ?_
  refine wa_lconst C (v := 0) dX12_divideBy_4 rfl ?_
  refine wa_callVv C (k := 0) (As := [.int (iI 439), .long (0 : Int64)]) (rest := []) (c_X12_put l K ad 439 (0 : Int64) (inR_k 439 rfl) _ h) gw_1620 gw_1617 mW_0 rfl gw_1619 gs_103 gw_12 q_X12_put rfl rfl rfl ⟨by decide, by decide⟩ rfl (Nat.le_of_ble_eq_true rfl) dX12_divideBy_5 (fun u9 hp => ?_)
  obtain ⟨M_big_1, rfl, h⟩ := hp
  refine wa_sipush C (z := 185) dX12_divideBy_8 (by decide) ?_
  refine wa_istore_n C dX12_divideBy_11 rfl (by decide) rfl ?_
  obtain ⟨Inv_2, ⟨n_3, h0Inv_2⟩, hInv_2⟩ := h
  have k_6 : ∀ (n_4 : Nat) (x3_7 : Int) (M_big_8 : Int → Int64), inR x3_7 → Inv_2 n_4 x3_7 M_big_8 → WA p l e ({ frames := 4, cells := 0, slots := 0, locals := 240 } : Room) s m args below meth c 0 0 Q K ad 7 A 12 [(0, .ref (ad 0)), (1, .int (iI x1)), (2, .int (iI x2)), (3, .int (iI x3_7))] [] (mW M_thrown M_w M_h M_cells M_shape M_isBoard M_isBlank M_lives M_moves M_parts M_numbers M_grade M_reasons M_total M_near M_degree M_mine M_state M_history M_oldLives M_safe M_mined M_used M_partOf M_placeOf M_partSize M_ways M_with M_masks M_rests M_bits M_reach M_more M_reason M_big_8 M_region) := by
    intro n_4
    induction n_4 using Nat.strongRecOn with
    | ind n_4 ih_5 =>
      intro x3_7 M_big_8 rx3_7 h
      replace h := hInv_2 n_4 x3_7 M_big_8 rx3_7 h
      refine wa_iload_n C 3 rfl dX12_divideBy_12 rfl ?_
      refine wa_if_lt C (tgt := 160) rx3_7 dX12_divideBy_13 (by decide) (fun c_9 => ?_) (fun c_9 => ?_)
      · replace h := h.1 c_9
        exact ret dX12_divideBy_160 ⟨_, rfl, h⟩
      · replace h := h.2 c_9
        refine wa_aload_n C 0 rfl dX12_divideBy_16 rfl ?_
        refine wa_sipush C (z := 439) dX12_divideBy_17 (by decide) ?_
        refine wa_callVv C (k := 0) (As := [.int (iI 439)]) (rest := []) (c_X12_twice l K ad 439 (inR_k 439 rfl) _ h) gw_1671 gw_1668 mW_0 rfl gw_1670 gs_114 gw_12 q_X12_twice rfl rfl rfl ⟨by decide, by decide⟩ rfl (Nat.le_of_ble_eq_true rfl) dX12_divideBy_20 (fun u9 hp => ?_)
        obtain ⟨M_big_10, rfl, h⟩ := hp
        refine wa_aload_n C 0 rfl dX12_divideBy_23 rfl ?_
        refine wa_getR C 0 34 mW_0 rfl rfl (by decide) okX12 gw_1266 dX12_divideBy_24 ?_
        refine wa_sipush C (z := 2634) dX12_divideBy_27 (by decide) ?_
        refine wa_dup2 C dX12_divideBy_30 rfl rfl ?_
        refine wa_lald C 21 mW_21 dX12_divideBy_31 (by decide) (by decide) (fun v_11 ev_11 => ?_)
        replace h := h v_11 ev_11
        refine wa_aload_n C 0 rfl dX12_divideBy_32 rfl ?_
        refine wa_getR C 0 34 mW_0 rfl rfl (by decide) okX12 gw_1266 dX12_divideBy_33 ?_
        refine wa_bipush C (z := 6) dX12_divideBy_36 (by decide) ?_
        refine wa_iload_n C 1 rfl dX12_divideBy_38 rfl ?_
        refine wa_imul C dX12_divideBy_39 ?_
        refine wa_iload_n C 3 rfl dX12_divideBy_40 rfl ?_
        refine wa_bipush C (z := 31) dX12_divideBy_41 (by decide) ?_
        refine wa_idiv C dX12_divideBy_43 rx3_7 (inR_k 31 rfl) (by decide) ?_
        refine wa_iadd C dX12_divideBy_44 ?_
        obtain ⟨t_12, h⟩ := h
        refine wa_lald C 21 mW_21 dX12_divideBy_45 t_12.1 t_12.2 (fun v_13 ev_13 => ?_)
        replace h := h v_13 ev_13
        refine wa_iload_n C 3 rfl dX12_divideBy_46 rfl ?_
        refine wa_bipush C (z := 31) dX12_divideBy_47 (by decide) ?_
        refine wa_irem C dX12_divideBy_49 rx3_7 (inR_k 31 rfl) (by decide) ?_
        refine wa_lshr C dX12_divideBy_50 ?_
        refine wa_lconst C (v := 1) dX12_divideBy_51 rfl ?_
        refine wa_land C dX12_divideBy_52 ?_
        refine wa_ladd C dX12_divideBy_53 ?_
        refine wa_last C (ws' := fun w9 => (mW M_thrown M_w M_h M_cells M_shape M_isBoard M_isBlank M_lives M_moves M_parts M_numbers M_grade M_reasons M_total M_near M_degree M_mine M_state M_history M_oldLives M_safe M_mined M_used M_partOf M_placeOf M_partSize M_ways M_with M_masks M_rests M_bits M_reach M_more M_reason w9 M_region)) 21 mW_21 dX12_divideBy_54 (by decide) (by decide) mWs_21 (fun M_big_14 eM_big_14 => ?_)
        replace h := h M_big_14 eM_big_14
        refine wa_aload_n C 0 rfl dX12_divideBy_55 rfl ?_
        refine wa_sipush C (z := 439) dX12_divideBy_56 (by decide) ?_
        refine wa_iload_n C 2 rfl dX12_divideBy_59 rfl ?_
        refine wa_callVi C (k := 0) (As := [.int (iI 439), .int (iI x2)]) (rest := []) (c_X12_compare l K ad 439 x2 (inR_k 439 rfl) rx2 _ h) gw_1676 gw_1673 mW_0 rfl gw_1675 gs_115 gw_12 q_X12_compare rfl rfl rfl ⟨by decide, by decide⟩ rfl (Nat.le_of_ble_eq_true rfl) dX12_divideBy_60 (fun c_15 u9 rc_15 hp => ?_)
        obtain ⟨rfl, h⟩ := hp
        replace h := h rc_15
        obtain ⟨J_16, h, hJ_16⟩ := h
        have k_17 : ∀ (z_18 : Int), inR z_18 → J_16 z_18 → WA p l e ({ frames := 4, cells := 0, slots := 0, locals := 240 } : Room) s m args below meth c 0 0 Q K ad 7 A 71 [(0, .ref (ad 0)), (1, .int (iI x1)), (2, .int (iI x2)), (3, .int (iI x3_7))] [.int (iI z_18)] (mW M_thrown M_w M_h M_cells M_shape M_isBoard M_isBlank M_lives M_moves M_parts M_numbers M_grade M_reasons M_total M_near M_degree M_mine M_state M_history M_oldLives M_safe M_mined M_used M_partOf M_placeOf M_partSize M_ways M_with M_masks M_rests M_bits M_reach M_more M_reason M_big_14 M_region) := by
          intro z_18 rz_18 h
          replace h := hJ_16 z_18 rz_18 h
          refine wa_istore C dX12_divideBy_71 (by decide) rfl ?_
          refine wa_iload C 0 rfl dX12_divideBy_73 ?_
          obtain ⟨J_19, h, hJ_19⟩ := h
          have k_20 : ∀ (M_big_21 : Int → Int64), J_19 M_big_21 → WA p l e ({ frames := 4, cells := 0, slots := 0, locals := 240 } : Room) s m args below meth c 0 0 Q K ad 7 A 86 [(0, .ref (ad 0)), (1, .int (iI x1)), (2, .int (iI x2)), (3, .int (iI x3_7)), (4, .int (iI z_18))] [] (mW M_thrown M_w M_h M_cells M_shape M_isBoard M_isBlank M_lives M_moves M_parts M_numbers M_grade M_reasons M_total M_near M_degree M_mine M_state M_history M_oldLives M_safe M_mined M_used M_partOf M_placeOf M_partSize M_ways M_with M_masks M_rests M_bits M_reach M_more M_reason M_big_21 M_region) := by
            intro M_big_21 h
            replace h := hJ_19 M_big_21 h
            refine wa_lconst C (v := 1) dX12_divideBy_86 rfl ?_
            refine wa_iload_n C 3 rfl dX12_divideBy_87 rfl ?_
            refine wa_bipush C (z := 31) dX12_divideBy_88 (by decide) ?_
            refine wa_irem C dX12_divideBy_90 rx3_7 (inR_k 31 rfl) (by decide) ?_
            refine wa_lshl C dX12_divideBy_91 ?_
            refine wa_nml (fun x5_22 ex5_22 => ?_)
            replace h := h x5_22 ex5_22
            refine wa_lstore C dX12_divideBy_92 (by decide) rfl ?_
            refine wa_aload_n C 1 rfl dX12_divideBy_94 rfl ?_
            refine wa_getR C 0 34 mW_0 rfl rfl (by decide) okX12 gw_1266 dX12_divideBy_95 ?_
            refine wa_bipush C (z := 6) dX12_divideBy_98 (by decide) ?_
            refine wa_iload_n C 2 rfl dX12_divideBy_100 rfl ?_
            refine wa_imul C dX12_divideBy_101 ?_
            refine wa_iload_n C 4 rfl dX12_divideBy_102 rfl ?_
            refine wa_bipush C (z := 31) dX12_divideBy_103 (by decide) ?_
            refine wa_idiv C dX12_divideBy_105 rx3_7 (inR_k 31 rfl) (by decide) ?_
            refine wa_iadd C dX12_divideBy_106 ?_
            refine wa_iload C 5 rfl dX12_divideBy_107 ?_
            obtain ⟨J_23, h, hJ_23⟩ := h
            have k_24 : ∀ (z_25 : Int64), J_23 z_25 → WA p l e ({ frames := 4, cells := 0, slots := 0, locals := 240 } : Room) s m args below meth c 0 0 Q K ad 7 A 153 [(0, .ref (ad 0)), (1, .int (iI x1)), (2, .int (iI x2)), (3, .int (iI x3_7))] [.long z_25, .int (iI ((6 * x1) + (x3_7.tdiv 31))), .ref (ad 21)] (mW M_thrown M_w M_h M_cells M_shape M_isBoard M_isBlank M_lives M_moves M_parts M_numbers M_grade M_reasons M_total M_near M_degree M_mine M_state M_history M_oldLives M_safe M_mined M_used M_partOf M_placeOf M_partSize M_ways M_with M_masks M_rests M_bits M_reach M_more M_reason M_big_21 M_region) := by
              intro z_25 h
              replace h := hJ_23 z_25 h
              obtain ⟨t_26, h⟩ := h
              refine wa_last C (ws' := fun w9 => (mW M_thrown M_w M_h M_cells M_shape M_isBoard M_isBlank M_lives M_moves M_parts M_numbers M_grade M_reasons M_total M_near M_degree M_mine M_state M_history M_oldLives M_safe M_mined M_used M_partOf M_placeOf M_partSize M_ways M_with M_masks M_rests M_bits M_reach M_more M_reason w9 M_region)) 21 mW_21 dX12_divideBy_153 t_26.1 t_26.2 mWs_21 (fun M_big_27 eM_big_27 => ?_)
              replace h := h M_big_27 eM_big_27
              obtain ⟨r_28, h⟩ := h
              refine wa_iinc C (lv' := fun w9 => [(3, .int (iI w9)), (0, .ref (ad 0)), (1, .int (iI x1)), (2, .int (iI x2))]) 3 rfl dX12_divideBy_154 (by decide) (fun _ => rfl) (fun x3_29 ex3_29 => ?_)
              replace h := h x3_29 ex3_29
              have rx3_29 : inR x3_29 := by rw [ex3_29]; exact r_28
              refine wa_goto C (tgt := 12) dX12_divideBy_157 (by decide) ?_
              obtain ⟨n_30, ln_30, h⟩ := h
              refine wa_sub C [1, 2, 3, 0] rfl ?_
              exact ih_5 n_30 ln_30 x3_29 M_big_27 rx3_29 h
            refine wa_if_eq C (tgt := 132) rz_18 dX12_divideBy_109 (by decide) (fun c_31 => ?_) (fun c_31 => ?_)
            · replace h := h.1 c_31
              refine wa_aload_n C 1 rfl dX12_divideBy_132 rfl ?_
              refine wa_getR C 0 34 mW_0 rfl rfl (by decide) okX12 gw_1266 dX12_divideBy_133 ?_
              refine wa_bipush C (z := 6) dX12_divideBy_136 (by decide) ?_
              refine wa_iload_n C 2 rfl dX12_divideBy_138 rfl ?_
              refine wa_imul C dX12_divideBy_139 ?_
              refine wa_iload_n C 4 rfl dX12_divideBy_140 rfl ?_
              refine wa_bipush C (z := 31) dX12_divideBy_141 (by decide) ?_
              refine wa_idiv C dX12_divideBy_143 rx3_7 (inR_k 31 rfl) (by decide) ?_
              refine wa_iadd C dX12_divideBy_144 ?_
              obtain ⟨t_32, h⟩ := h
              refine wa_lald C 21 mW_21 dX12_divideBy_145 t_32.1 t_32.2 (fun v_33 ev_33 => ?_)
              replace h := h v_33 ev_33
              refine wa_lload C 0 rfl dX12_divideBy_146 ?_
              refine wa_ldc2 C gw_1681 dX12_divideBy_148 ?_
              refine wa_lxor C dX12_divideBy_151 ?_
              refine wa_land C dX12_divideBy_152 ?_
              refine wa_sub C [1, 2, 3, 4] rfl ?_
              exact k_24 (v_33 &&& (x5_22 ^^^ (-1 : Int64))) h
            · replace h := h.2 c_31
              refine wa_aload_n C 1 rfl dX12_divideBy_112 rfl ?_
              refine wa_getR C 0 34 mW_0 rfl rfl (by decide) okX12 gw_1266 dX12_divideBy_113 ?_
              refine wa_bipush C (z := 6) dX12_divideBy_116 (by decide) ?_
              refine wa_iload_n C 2 rfl dX12_divideBy_118 rfl ?_
              refine wa_imul C dX12_divideBy_119 ?_
              refine wa_iload_n C 4 rfl dX12_divideBy_120 rfl ?_
              refine wa_bipush C (z := 31) dX12_divideBy_121 (by decide) ?_
              refine wa_idiv C dX12_divideBy_123 rx3_7 (inR_k 31 rfl) (by decide) ?_
              refine wa_iadd C dX12_divideBy_124 ?_
              obtain ⟨t_34, h⟩ := h
              refine wa_lald C 21 mW_21 dX12_divideBy_125 t_34.1 t_34.2 (fun v_35 ev_35 => ?_)
              replace h := h v_35 ev_35
              refine wa_lload C 0 rfl dX12_divideBy_126 ?_
              refine wa_lor C dX12_divideBy_128 ?_
              refine wa_goto C (tgt := 153) dX12_divideBy_129 (by decide) ?_
              refine wa_sub C [1, 2, 3, 4] rfl ?_
              exact k_24 (v_35 ||| x5_22) h
          refine wa_if_eq C (tgt := 86) rz_18 dX12_divideBy_75 (by decide) (fun c_36 => ?_) (fun c_36 => ?_)
          · replace h := h.1 c_36
            refine wa_sub C [1, 2, 3, 4, 0] rfl ?_
            exact k_20 M_big_14 h
          · replace h := h.2 c_36
            refine wa_aload_n C 1 rfl dX12_divideBy_78 rfl ?_
            refine wa_sipush C (z := 439) dX12_divideBy_79 (by decide) ?_
            refine wa_iload_n C 3 rfl dX12_divideBy_82 rfl ?_
            refine wa_callVv C (k := 0) (As := [.int (iI 439), .int (iI x2)]) (rest := []) (c_X12_take l K ad 439 x2 (inR_k 439 rfl) rx2 _ h) gw_1680 gw_1677 mW_0 rfl gw_1679 gs_116 gw_12 q_X12_take rfl rfl rfl ⟨by decide, by decide⟩ rfl (Nat.le_of_ble_eq_true rfl) dX12_divideBy_83 (fun u9 hp => ?_)
            obtain ⟨M_big_37, rfl, h⟩ := hp
            refine wa_sub C [1, 2, 3, 4, 0] rfl ?_
            exact k_20 M_big_37 h
        refine wa_if_lt C (tgt := 70) rc_15 dX12_divideBy_63 (by decide) (fun c_38 => ?_) (fun c_38 => ?_)
        · replace h := h.1 c_38
          refine wa_iconst C (z := 0) dX12_divideBy_70 rfl ?_
          refine wa_sub C [0, 1, 2, 3] rfl ?_
          exact k_17 0 (inR_k 0 rfl) h
        · replace h := h.2 c_38
          refine wa_iconst C (z := 1) dX12_divideBy_66 rfl ?_
          refine wa_goto C (tgt := 71) dX12_divideBy_67 (by decide) ?_
          refine wa_sub C [0, 1, 2, 3] rfl ?_
          exact k_17 1 (inR_k 1 rfl) h
  refine wa_sub C [1, 2, 3, 0] rfl ?_
  exact k_6 n_3 185 M_big_1 (inR_k 185 rfl) h0Inv_2
def P_X12_reduce (post : (Int → Int64) → Prop) (M_big : Int → Int64) : Prop :=
  P_X12_copy (fun (M_big_1 : Int → Int64) => (P_X12_copy (fun (M_big_2 : Int → Int64) => (∃ Inv_3 : Nat → (Int → Int64) → Prop, (∃ n_4 : Nat, Inv_3 n_4 M_big_2) ∧ ∀ (n_5 : Nat) (M_big_8 : Int → Int64), Inv_3 n_5 M_big_8 → (P_X12_isNothing (fun (c_9 : Int) => (c_9 = 0 ∨ c_9 = 1) → ((¬ c_9 = 0 → (P_X12_divideBy (fun (M_big_11 : Int → Int64) => (P_X12_divideBy (fun (M_big_12 : Int → Int64) => (post M_big_12)) M_big_11 440 438)) M_big_8 436 438)) ∧ (c_9 = 0 → (P_X12_copy (fun (M_big_13 : Int → Int64) => (P_X12_divideBy (fun (M_big_14 : Int → Int64) => (P_X12_copy (fun (M_big_15 : Int → Int64) => (P_X12_copy (fun (M_big_16 : Int → Int64) => (∃ n_17 : Nat, n_17 < n_5 ∧ Inv_3 n_17 M_big_16)) M_big_15 435 438)) M_big_14 439 437)) M_big_13 438 437)) M_big_8 437 435)))) M_big_8 437))) M_big_1 440 438)) M_big 436 437
set_option maxRecDepth 100000 in
set_option maxHeartbeats 4000000 in
theorem c_X12_reduce (l : Launch) (K : wK) (ad : Nat → Nat) {M_thrown : Int} {M_w : Int} {M_h : Int} {M_cells : Int} {M_shape : Int} {M_isBoard : Int} {M_isBlank : Int} {M_lives : Int} {M_moves : Int} {M_parts : Int} {M_numbers : Int} {M_grade : Int} {M_reasons : Int} {M_total : Int} {M_near : Int → Int} {M_degree : Int → Int} {M_mine : Int → Int} {M_state : Int → Int} {M_history : Int → Int64} {M_oldLives : Int → Int} {M_safe : Int → Int} {M_mined : Int → Int} {M_used : Int → Int} {M_partOf : Int → Int} {M_placeOf : Int → Int} {M_partSize : Int → Int} {M_ways : Int → Int} {M_with : Int → Int} {M_masks : Int → Int} {M_rests : Int → Int} {M_bits : Int → Int} {M_reach : Int → Int} {M_more : Int → Int} {M_reason : Int → Int} {M_big : Int → Int64} {M_region : Int → Int}   (post : (Int → Int64) → Prop) (h : P_X12_reduce post M_big) : mV l yX12_reduce (Cond.code yX12_reduce cX12_reduce 1 none :: GT) ({ frames := 5, cells := 0, slots := 0, locals := 300 } : Room) [.ref (ad 0)] K ad (mW M_thrown M_w M_h M_cells M_shape M_isBoard M_isBlank M_lives M_moves M_parts M_numbers M_grade M_reasons M_total M_near M_degree M_mine M_state M_history M_oldLives M_safe M_mined M_used M_partOf M_placeOf M_partSize M_ways M_with M_masks M_rests M_bits M_reach M_more M_reason M_big M_region) (fun u9 => ∃ M_big9, u9 = (mW M_thrown M_w M_h M_cells M_shape M_isBoard M_isBlank M_lives M_moves M_parts M_numbers M_grade M_reasons M_total M_near M_degree M_mine M_state M_history M_oldLives M_safe M_mined M_used M_partOf M_placeOf M_partSize M_ways M_with M_masks M_rests M_bits M_reach M_more M_reason M_big9 M_region) ∧ post M_big9) := by
  refine mV_of (lv0 := [(0, .ref (ad 0))]) (by decide) (Nat.le_of_ble_eq_true rfl) rfl ?_
  intro p e s m args below meth c Q A C ret
  replace C : Cx p ({ frames := 5, cells := 0, slots := 0, locals := 300 } : Room) m c 0 0 cX12_reduce 1 s args RX12 K A := C
  unfold P_X12_reduce at h
  refine wa_aload_n C 0 rfl dX12_reduce_0 rfl ?_
  refine wa_sipush C (z := 436) dX12_reduce_1 (by decide) ?_
  refine wa_sipush C (z := 437) dX12_reduce_4 (by decide) ?_
  refine wa_callVv C (k := 0) (As := [.int (iI 436), .int (iI 437)]) (rest := []) (c_X12_copy l K ad 436 437 (inR_k 436 rfl) (inR_k 437 rfl) _ h) gw_1633 gw_1630 mW_0 rfl gw_1632 gs_106 gw_12 q_X12_copy rfl rfl rfl ⟨by decide, by decide⟩ rfl (Nat.le_of_ble_eq_true rfl) dX12_reduce_7 (fun u9 hp => ?_)
  obtain ⟨M_big_1, rfl, h⟩ := hp
  refine wa_aload_n C 0 rfl dX12_reduce_10 rfl ?_
  refine wa_sipush C (z := 440) dX12_reduce_11 (by decide) ?_
  refine wa_sipush C (z := 438) dX12_reduce_14 (by decide) ?_
  refine wa_callVv C (k := 0) (As := [.int (iI 440), .int (iI 438)]) (rest := []) (c_X12_copy l K ad 440 438 (inR_k 440 rfl) (inR_k 438 rfl) _ h) gw_1633 gw_1630 mW_0 rfl gw_1632 gs_106 gw_12 q_X12_copy rfl rfl rfl ⟨by decide, by decide⟩ rfl (Nat.le_of_ble_eq_true rfl) dX12_reduce_17 (fun u9 hp => ?_)
  obtain ⟨M_big_2, rfl, h⟩ := hp
  obtain ⟨Inv_3, ⟨n_4, h0Inv_3⟩, hInv_3⟩ := h
  have k_7 : ∀ (n_5 : Nat) (M_big_8 : Int → Int64), Inv_3 n_5 M_big_8 → WA p l e ({ frames := 5, cells := 0, slots := 0, locals := 300 } : Room) s m args below meth c 0 0 Q K ad 1 A 20 [(0, .ref (ad 0))] [] (mW M_thrown M_w M_h M_cells M_shape M_isBoard M_isBlank M_lives M_moves M_parts M_numbers M_grade M_reasons M_total M_near M_degree M_mine M_state M_history M_oldLives M_safe M_mined M_used M_partOf M_placeOf M_partSize M_ways M_with M_masks M_rests M_bits M_reach M_more M_reason M_big_8 M_region) := by
    intro n_5
    induction n_5 using Nat.strongRecOn with
    | ind n_5 ih_6 =>
      intro M_big_8 h
      replace h := hInv_3 n_5 M_big_8 h
      refine wa_aload_n C 0 rfl dX12_reduce_20 rfl ?_
      refine wa_sipush C (z := 437) dX12_reduce_21 (by decide) ?_
      refine wa_callVi C (k := 0) (As := [.int (iI 437)]) (rest := []) (c_X12_isNothing l K ad 437 (inR_k 437 rfl) _ h) gw_1659 gw_1656 mW_0 rfl gw_1658 gs_111 gw_12 q_X12_isNothing rfl rfl rfl ⟨by decide, by decide⟩ rfl (Nat.le_of_ble_eq_true rfl) dX12_reduce_24 (fun c_9 u9 rc_9 hp => ?_)
      obtain ⟨bc_9, rfl, h⟩ := hp
      replace h := h bc_9
      refine wa_if_ne C (tgt := 73) (inR_b bc_9) dX12_reduce_27 (by decide) (fun c_10 => ?_) (fun c_10 => ?_)
      · replace h := h.1 c_10
        refine wa_aload_n C 0 rfl dX12_reduce_73 rfl ?_
        refine wa_sipush C (z := 436) dX12_reduce_74 (by decide) ?_
        refine wa_sipush C (z := 438) dX12_reduce_77 (by decide) ?_
        refine wa_callVv C (k := 0) (As := [.int (iI 436), .int (iI 438)]) (rest := []) (c_X12_divideBy l K ad 436 438 (inR_k 436 rfl) (inR_k 438 rfl) _ h) gw_1667 gw_1664 mW_0 rfl gw_1666 gs_113 gw_12 q_X12_divideBy rfl rfl rfl ⟨by decide, by decide⟩ rfl (Nat.le_of_ble_eq_true rfl) dX12_reduce_80 (fun u9 hp => ?_)
        obtain ⟨M_big_11, rfl, h⟩ := hp
        refine wa_aload_n C 0 rfl dX12_reduce_83 rfl ?_
        refine wa_sipush C (z := 440) dX12_reduce_84 (by decide) ?_
        refine wa_sipush C (z := 438) dX12_reduce_87 (by decide) ?_
        refine wa_callVv C (k := 0) (As := [.int (iI 440), .int (iI 438)]) (rest := []) (c_X12_divideBy l K ad 440 438 (inR_k 440 rfl) (inR_k 438 rfl) _ h) gw_1667 gw_1664 mW_0 rfl gw_1666 gs_113 gw_12 q_X12_divideBy rfl rfl rfl ⟨by decide, by decide⟩ rfl (Nat.le_of_ble_eq_true rfl) dX12_reduce_90 (fun u9 hp => ?_)
        obtain ⟨M_big_12, rfl, h⟩ := hp
        exact ret dX12_reduce_93 ⟨_, rfl, h⟩
      · replace h := h.2 c_10
        refine wa_aload_n C 0 rfl dX12_reduce_30 rfl ?_
        refine wa_sipush C (z := 437) dX12_reduce_31 (by decide) ?_
        refine wa_sipush C (z := 435) dX12_reduce_34 (by decide) ?_
        refine wa_callVv C (k := 0) (As := [.int (iI 437), .int (iI 435)]) (rest := []) (c_X12_copy l K ad 437 435 (inR_k 437 rfl) (inR_k 435 rfl) _ h) gw_1633 gw_1630 mW_0 rfl gw_1632 gs_106 gw_12 q_X12_copy rfl rfl rfl ⟨by decide, by decide⟩ rfl (Nat.le_of_ble_eq_true rfl) dX12_reduce_37 (fun u9 hp => ?_)
        obtain ⟨M_big_13, rfl, h⟩ := hp
        refine wa_aload_n C 0 rfl dX12_reduce_40 rfl ?_
        refine wa_sipush C (z := 438) dX12_reduce_41 (by decide) ?_
        refine wa_sipush C (z := 437) dX12_reduce_44 (by decide) ?_
        refine wa_callVv C (k := 0) (As := [.int (iI 438), .int (iI 437)]) (rest := []) (c_X12_divideBy l K ad 438 437 (inR_k 438 rfl) (inR_k 437 rfl) _ h) gw_1667 gw_1664 mW_0 rfl gw_1666 gs_113 gw_12 q_X12_divideBy rfl rfl rfl ⟨by decide, by decide⟩ rfl (Nat.le_of_ble_eq_true rfl) dX12_reduce_47 (fun u9 hp => ?_)
        obtain ⟨M_big_14, rfl, h⟩ := hp
        refine wa_aload_n C 0 rfl dX12_reduce_50 rfl ?_
        refine wa_sipush C (z := 439) dX12_reduce_51 (by decide) ?_
        refine wa_sipush C (z := 437) dX12_reduce_54 (by decide) ?_
        refine wa_callVv C (k := 0) (As := [.int (iI 439), .int (iI 437)]) (rest := []) (c_X12_copy l K ad 439 437 (inR_k 439 rfl) (inR_k 437 rfl) _ h) gw_1633 gw_1630 mW_0 rfl gw_1632 gs_106 gw_12 q_X12_copy rfl rfl rfl ⟨by decide, by decide⟩ rfl (Nat.le_of_ble_eq_true rfl) dX12_reduce_57 (fun u9 hp => ?_)
        obtain ⟨M_big_15, rfl, h⟩ := hp
        refine wa_aload_n C 0 rfl dX12_reduce_60 rfl ?_
        refine wa_sipush C (z := 435) dX12_reduce_61 (by decide) ?_
        refine wa_sipush C (z := 438) dX12_reduce_64 (by decide) ?_
        refine wa_callVv C (k := 0) (As := [.int (iI 435), .int (iI 438)]) (rest := []) (c_X12_copy l K ad 435 438 (inR_k 435 rfl) (inR_k 438 rfl) _ h) gw_1633 gw_1630 mW_0 rfl gw_1632 gs_106 gw_12 q_X12_copy rfl rfl rfl ⟨by decide, by decide⟩ rfl (Nat.le_of_ble_eq_true rfl) dX12_reduce_67 (fun u9 hp => ?_)
        obtain ⟨M_big_16, rfl, h⟩ := hp
        refine wa_goto C (tgt := 20) dX12_reduce_70 (by decide) ?_
        obtain ⟨n_17, ln_17, h⟩ := h
        refine wa_sub C [0] rfl ?_
        exact ih_6 n_17 ln_17 M_big_16 h
  refine wa_sub C [0] rfl ?_
  exact k_7 n_4 M_big_2 h0Inv_3
def P_X12_share (post : Int → (Int) → (Int) → (Int) → (Int → Int) → (Int → Int) → (Int → Int) → (Int → Int) → (Int → Int) → (Int → Int) → (Int → Int) → (Int → Int) → (Int → Int64) → Prop) (M_thrown : Int) (M_w : Int) (M_h : Int) (M_cells : Int) (M_isBoard : Int) (M_parts : Int) (M_numbers : Int) (M_near : Int → Int) (M_degree : Int → Int) (M_mine : Int → Int) (M_state : Int → Int) (M_used : Int → Int) (M_partOf : Int → Int) (M_placeOf : Int → Int) (M_partSize : Int → Int) (M_ways : Int → Int) (M_with : Int → Int) (M_masks : Int → Int) (M_rests : Int → Int) (M_bits : Int → Int) (M_big : Int → Int64) (x1 : Int) (x2 : Int) (x3 : Int) (x4 : Int) : Prop :=
  P_X12_has (fun (c_1 : Int) (M_thrown_2 : Int) => (c_1 = 0 ∨ c_1 = 1) → ((¬ c_1 = 0 → (P_X12_within (fun (c_4 : Int) => (c_4 = 0 ∨ c_4 = 1) → (∃ J_5 : Prop, ((c_4 = 0 → (J_5)) ∧ (¬ c_4 = 0 → (P_X12_within (fun (c_10 : Int) => (c_10 = 0 ∨ c_10 = 1) → ((¬ c_10 = 0 → (inR ((M_w * x1) + x2) ∧ (P_X12_hasShare (fun (c_14 : Int) (M_parts_15 : Int) (M_numbers_16 : Int) (M_used_17 : Int → Int) (M_partOf_18 : Int → Int) (M_placeOf_19 : Int → Int) (M_partSize_20 : Int → Int) (M_ways_21 : Int → Int) (M_with_22 : Int → Int) (M_masks_23 : Int → Int) (M_rests_24 : Int → Int) (M_big_25 : Int → Int64) => (c_14 = 0 ∨ c_14 = 1) → ((¬ c_14 = 0 → (P_X12_reduce (fun (M_big_27 : Int → Int64) => (∃ J_28 : (Int) → Prop, ((x4 ≤ 5 → (∃ J_32 : (Int) → Prop, ((¬ x3 = 0 → (J_32 440)) ∧ (x3 = 0 → (J_32 436))) ∧ (∀ (z_34 : Int), inR z_34 → J_32 z_34 → ((0 ≤ ((6 * z_34) + x4) ∧ ((6 * z_34) + x4) < 2700) ∧ (∀ v_36 : Int64, v_36 = M_big_27 ((6 * z_34) + x4) → (J_28 (l2I v_36))))))) ∧ (¬ x4 ≤ 5 → (J_28 0))) ∧ (∀ (z_30 : Int), inR z_30 → J_28 z_30 → (post z_30 M_thrown_2 M_parts_15 M_numbers_16 M_used_17 M_partOf_18 M_placeOf_19 M_partSize_20 M_ways_21 M_with_22 M_masks_23 M_rests_24 M_big_27)))) M_big_25 )) ∧ (c_14 = 0 → (P_X12_fail (fun (c_38 : Int) (M_thrown_39 : Int) => inR c_38 → (post c_38 M_thrown_39 M_parts_15 M_numbers_16 M_used_17 M_partOf_18 M_placeOf_19 M_partSize_20 M_ways_21 M_with_22 M_masks_23 M_rests_24 M_big_25)) M_thrown_2 3)))) M_cells M_parts M_numbers M_near M_degree M_mine M_state M_used M_partOf M_placeOf M_partSize M_ways M_with M_masks M_rests M_bits M_big ((M_w * x1) + x2)))) ∧ (c_10 = 0 → (J_5))))  x4 0 7))) ∧ (J_5 → (P_X12_fail (fun (c_7 : Int) (M_thrown_8 : Int) => inR c_7 → (post c_7 M_thrown_8 M_parts M_numbers M_used M_partOf M_placeOf M_partSize M_ways M_with M_masks M_rests M_big)) M_thrown_2 2))))  x3 0 1)) ∧ (c_1 = 0 → (post 0 M_thrown_2 M_parts M_numbers M_used M_partOf M_placeOf M_partSize M_ways M_with M_masks M_rests M_big)))) 0 M_w M_h M_isBoard x1 x2
set_option maxRecDepth 100000 in
set_option maxHeartbeats 4000000 in
theorem c_X12_share (l : Launch) (K : wK) (ad : Nat → Nat) {M_thrown : Int} {M_w : Int} {M_h : Int} {M_cells : Int} {M_shape : Int} {M_isBoard : Int} {M_isBlank : Int} {M_lives : Int} {M_moves : Int} {M_parts : Int} {M_numbers : Int} {M_grade : Int} {M_reasons : Int} {M_total : Int} {M_near : Int → Int} {M_degree : Int → Int} {M_mine : Int → Int} {M_state : Int → Int} {M_history : Int → Int64} {M_oldLives : Int → Int} {M_safe : Int → Int} {M_mined : Int → Int} {M_used : Int → Int} {M_partOf : Int → Int} {M_placeOf : Int → Int} {M_partSize : Int → Int} {M_ways : Int → Int} {M_with : Int → Int} {M_masks : Int → Int} {M_rests : Int → Int} {M_bits : Int → Int} {M_reach : Int → Int} {M_more : Int → Int} {M_reason : Int → Int} {M_big : Int → Int64} {M_region : Int → Int} (x1 : Int) (x2 : Int) (x3 : Int) (x4 : Int) (rx1 : inR x1) (rx2 : inR x2) (rx3 : inR x3) (rx4 : inR x4) (post : Int → (Int) → (Int) → (Int) → (Int → Int) → (Int → Int) → (Int → Int) → (Int → Int) → (Int → Int) → (Int → Int) → (Int → Int) → (Int → Int) → (Int → Int64) → Prop) (h : P_X12_share post M_thrown M_w M_h M_cells M_isBoard M_parts M_numbers M_near M_degree M_mine M_state M_used M_partOf M_placeOf M_partSize M_ways M_with M_masks M_rests M_bits M_big x1 x2 x3 x4) : mI l yX12_share (Cond.code yX12_share cX12_share 5 (some .int) :: GT) ({ frames := 9, cells := 0, slots := 0, locals := 540 } : Room) [.ref (ad 0), .int (iI x1), .int (iI x2), .int (iI x3), .int (iI x4)] K ad (mW M_thrown M_w M_h M_cells M_shape M_isBoard M_isBlank M_lives M_moves M_parts M_numbers M_grade M_reasons M_total M_near M_degree M_mine M_state M_history M_oldLives M_safe M_mined M_used M_partOf M_placeOf M_partSize M_ways M_with M_masks M_rests M_bits M_reach M_more M_reason M_big M_region) (fun z9 u9 => ∃ M_thrown9 M_parts9 M_numbers9 M_used9 M_partOf9 M_placeOf9 M_partSize9 M_ways9 M_with9 M_masks9 M_rests9 M_big9, u9 = (mW M_thrown9 M_w M_h M_cells M_shape M_isBoard M_isBlank M_lives M_moves M_parts9 M_numbers9 M_grade M_reasons M_total M_near M_degree M_mine M_state M_history M_oldLives M_safe M_mined M_used9 M_partOf9 M_placeOf9 M_partSize9 M_ways9 M_with9 M_masks9 M_rests9 M_bits M_reach M_more M_reason M_big9 M_region) ∧ post z9 M_thrown9 M_parts9 M_numbers9 M_used9 M_partOf9 M_placeOf9 M_partSize9 M_ways9 M_with9 M_masks9 M_rests9 M_big9) := by
  refine mI_of (lv0 := [(0, .ref (ad 0)), (1, .int (iI x1)), (2, .int (iI x2)), (3, .int (iI x3)), (4, .int (iI x4))]) (by decide) (Nat.le_of_ble_eq_true rfl) rfl ?_
  intro p e s m args below meth c Q A C ret
  replace C : Cx p ({ frames := 9, cells := 0, slots := 0, locals := 540 } : Room) m c 0 0 cX12_share 5 s args RX12 K A := C
  unfold P_X12_share at h
  refine wa_aload_n C 0 rfl dX12_share_0 rfl ?_
  refine wa_iconst C (z := 0) dX12_share_1 rfl ?_
  refine wa_putI C (ws' := (mW 0 M_w M_h M_cells M_shape M_isBoard M_isBlank M_lives M_moves M_parts M_numbers M_grade M_reasons M_total M_near M_degree M_mine M_state M_history M_oldLives M_safe M_mined M_used M_partOf M_placeOf M_partSize M_ways M_with M_masks M_rests M_bits M_reach M_more M_reason M_big M_region)) 0 0 mW_0 rfl (by decide) okX12 gw_1232 rfl rfl (Nat.le_of_ble_eq_true rfl) (inR_k 0 rfl) (mWp_0_0 _) dX12_share_2 ?_
  refine wa_aload_n C 0 rfl dX12_share_5 rfl ?_
  refine wa_iload_n C 1 rfl dX12_share_6 rfl ?_
  refine wa_iload_n C 2 rfl dX12_share_7 rfl ?_
  refine wa_callVi C (k := 0) (As := [.int (iI x1), .int (iI x2)]) (rest := []) (c_X12_has l K ad x1 x2 rx1 rx2 _ h) gw_1539 gw_1536 mW_0 rfl gw_1538 gs_93 gw_12 q_X12_has rfl rfl rfl ⟨by decide, by decide⟩ rfl (Nat.le_of_ble_eq_true rfl) dX12_share_8 (fun c_1 u9 rc_1 hp => ?_)
  obtain ⟨bc_1, M_thrown_2, rfl, h⟩ := hp
  replace h := h bc_1
  refine wa_if_ne C (tgt := 16) (inR_b bc_1) dX12_share_11 (by decide) (fun c_3 => ?_) (fun c_3 => ?_)
  · replace h := h.1 c_3
    refine wa_iload_n C 3 rfl dX12_share_16 rfl ?_
    refine wa_iconst C (z := 0) dX12_share_17 rfl ?_
    refine wa_iconst C (z := 1) dX12_share_18 rfl ?_
    refine wa_callSi C (As := [.int (iI x3), .int (iI 0), .int (iI 1)]) (rest := []) (c_X12_within l K ad x3 0 1 rx3 (inR_k 0 rfl) (inR_k 1 rfl) _ h) gw_1354 gw_1352 gw_1353 gw_12 q_X12_within rfl rfl rfl ⟨by decide, by decide⟩ rfl (Nat.le_of_ble_eq_true rfl) dX12_share_19 (fun c_4 u9 rc_4 hp => ?_)
    obtain ⟨bc_4, rfl, h⟩ := hp
    replace h := h bc_4
    obtain ⟨J_5, h, hJ_5⟩ := h
    have k_6 : J_5 → WA p l e ({ frames := 9, cells := 0, slots := 0, locals := 540 } : Room) s m args below meth c 0 0 Q K ad 5 A 36 [(0, .ref (ad 0))] [] (mW M_thrown_2 M_w M_h M_cells M_shape M_isBoard M_isBlank M_lives M_moves M_parts M_numbers M_grade M_reasons M_total M_near M_degree M_mine M_state M_history M_oldLives M_safe M_mined M_used M_partOf M_placeOf M_partSize M_ways M_with M_masks M_rests M_bits M_reach M_more M_reason M_big M_region) := by
      intro h
      replace h := hJ_5 h
      refine wa_aload_n C 0 rfl dX12_share_36 rfl ?_
      refine wa_iconst C (z := 2) dX12_share_37 rfl ?_
      refine wa_callVi C (k := 0) (As := [.int (iI 2)]) (rest := []) (c_X12_fail l K ad 2 (inR_k 2 rfl) _ h) gw_1365 gw_1362 mW_0 rfl gw_1364 gs_52 gw_12 q_X12_fail rfl rfl rfl ⟨by decide, by decide⟩ rfl (Nat.le_of_ble_eq_true rfl) dX12_share_38 (fun c_7 u9 rc_7 hp => ?_)
      obtain ⟨M_thrown_8, rfl, h⟩ := hp
      replace h := h rc_7
      exact ret dX12_share_41 rc_7 ⟨_, _, _, _, _, _, _, _, _, _, _, _, rfl, h⟩
    refine wa_if_eq C (tgt := 36) (inR_b bc_4) dX12_share_22 (by decide) (fun c_9 => ?_) (fun c_9 => ?_)
    · replace h := h.1 c_9
      refine wa_sub C [0] rfl ?_
      exact k_6 h
    · replace h := h.2 c_9
      refine wa_iload C 4 rfl dX12_share_25 ?_
      refine wa_iconst C (z := 0) dX12_share_27 rfl ?_
      refine wa_bipush C (z := 7) dX12_share_28 (by decide) ?_
      refine wa_callSi C (As := [.int (iI x4), .int (iI 0), .int (iI 7)]) (rest := []) (c_X12_within l K ad x4 0 7 rx4 (inR_k 0 rfl) (inR_k 7 rfl) _ h) gw_1354 gw_1352 gw_1353 gw_12 q_X12_within rfl rfl rfl ⟨by decide, by decide⟩ rfl (Nat.le_of_ble_eq_true rfl) dX12_share_30 (fun c_10 u9 rc_10 hp => ?_)
      obtain ⟨bc_10, rfl, h⟩ := hp
      replace h := h bc_10
      refine wa_if_ne C (tgt := 42) (inR_b bc_10) dX12_share_33 (by decide) (fun c_11 => ?_) (fun c_11 => ?_)
      · replace h := h.1 c_11
        refine wa_aload_n C 0 rfl dX12_share_42 rfl ?_
        refine wa_aload_n C 0 rfl dX12_share_43 rfl ?_
        refine wa_getI C 0 1 mW_0 rfl rfl (by decide) okX12 gw_1233 dX12_share_44 (fun r_12 => ?_)
        refine wa_iload_n C 1 rfl dX12_share_47 rfl ?_
        refine wa_imul C dX12_share_48 ?_
        refine wa_iload_n C 2 rfl dX12_share_49 rfl ?_
        refine wa_iadd C dX12_share_50 ?_
        obtain ⟨r_13, h⟩ := h
        refine wa_callVi C (k := 0) (As := [.int (iI ((M_w * x1) + x2))]) (rest := []) (c_X12_hasShare l K ad ((M_w * x1) + x2) r_13 _ h) gw_1655 gw_1652 mW_0 rfl gw_1654 gs_110 gw_12 q_X12_hasShare rfl rfl rfl ⟨by decide, by decide⟩ rfl (Nat.le_of_ble_eq_true rfl) dX12_share_51 (fun c_14 u9 rc_14 hp => ?_)
        obtain ⟨bc_14, M_parts_15, M_numbers_16, M_used_17, M_partOf_18, M_placeOf_19, M_partSize_20, M_ways_21, M_with_22, M_masks_23, M_rests_24, M_big_25, rfl, h⟩ := hp
        replace h := h bc_14
        refine wa_if_ne C (tgt := 63) (inR_b bc_14) dX12_share_54 (by decide) (fun c_26 => ?_) (fun c_26 => ?_)
        · replace h := h.1 c_26
          refine wa_aload_n C 0 rfl dX12_share_63 rfl ?_
          refine wa_callVv C (k := 0) (As := []) (rest := []) (c_X12_reduce l K ad  _ h) gw_1663 gw_1660 mW_0 rfl gw_1662 gs_112 gw_12 q_X12_reduce rfl rfl rfl ⟨by decide, by decide⟩ rfl (Nat.le_of_ble_eq_true rfl) dX12_share_64 (fun u9 hp => ?_)
          obtain ⟨M_big_27, rfl, h⟩ := hp
          refine wa_iload C 4 rfl dX12_share_67 ?_
          refine wa_iconst C (z := 5) dX12_share_69 rfl ?_
          obtain ⟨J_28, h, hJ_28⟩ := h
          have k_29 : ∀ (z_30 : Int), inR z_30 → J_28 z_30 → WA p l e ({ frames := 9, cells := 0, slots := 0, locals := 540 } : Room) s m args below meth c 0 0 Q K ad 5 A 102 [] [.int (iI z_30)] (mW M_thrown_2 M_w M_h M_cells M_shape M_isBoard M_isBlank M_lives M_moves M_parts_15 M_numbers_16 M_grade M_reasons M_total M_near M_degree M_mine M_state M_history M_oldLives M_safe M_mined M_used_17 M_partOf_18 M_placeOf_19 M_partSize_20 M_ways_21 M_with_22 M_masks_23 M_rests_24 M_bits M_reach M_more M_reason M_big_27 M_region) := by
            intro z_30 rz_30 h
            replace h := hJ_28 z_30 rz_30 h
            exact ret dX12_share_102 rz_30 ⟨_, _, _, _, _, _, _, _, _, _, _, _, rfl, h⟩
          refine wa_icmp_le C (tgt := 77) rx4 (inR_k 5 rfl) dX12_share_70 (by decide) (fun c_31 => ?_) (fun c_31 => ?_)
          · replace h := h.1 c_31
            refine wa_aload_n C 0 rfl dX12_share_77 rfl ?_
            refine wa_getR C 0 34 mW_0 rfl rfl (by decide) okX12 gw_1266 dX12_share_78 ?_
            refine wa_bipush C (z := 6) dX12_share_81 (by decide) ?_
            refine wa_iload_n C 3 rfl dX12_share_83 rfl ?_
            obtain ⟨J_32, h, hJ_32⟩ := h
            have k_33 : ∀ (z_34 : Int), inR z_34 → J_32 z_34 → WA p l e ({ frames := 9, cells := 0, slots := 0, locals := 540 } : Room) s m args below meth c 0 0 Q K ad 5 A 96 [(4, .int (iI x4))] [.int (iI z_34), .int (iI 6), .ref (ad 21)] (mW M_thrown_2 M_w M_h M_cells M_shape M_isBoard M_isBlank M_lives M_moves M_parts_15 M_numbers_16 M_grade M_reasons M_total M_near M_degree M_mine M_state M_history M_oldLives M_safe M_mined M_used_17 M_partOf_18 M_placeOf_19 M_partSize_20 M_ways_21 M_with_22 M_masks_23 M_rests_24 M_bits M_reach M_more M_reason M_big_27 M_region) := by
              intro z_34 rz_34 h
              replace h := hJ_32 z_34 rz_34 h
              refine wa_imul C dX12_share_96 ?_
              refine wa_iload C 0 rfl dX12_share_97 ?_
              refine wa_iadd C dX12_share_99 ?_
              obtain ⟨t_35, h⟩ := h
              refine wa_lald C 21 mW_21 dX12_share_100 t_35.1 t_35.2 (fun v_36 ev_36 => ?_)
              replace h := h v_36 ev_36
              refine wa_l2i C dX12_share_101 ?_
              refine wa_sub C [] rfl ?_
              exact k_29 (l2I v_36) (l2I_r _) h
            refine wa_if_ne C (tgt := 93) rx3 dX12_share_84 (by decide) (fun c_37 => ?_) (fun c_37 => ?_)
            · replace h := h.1 c_37
              refine wa_sipush C (z := 440) dX12_share_93 (by decide) ?_
              refine wa_sub C [4] rfl ?_
              exact k_33 440 (inR_k 440 rfl) h
            · replace h := h.2 c_37
              refine wa_sipush C (z := 436) dX12_share_87 (by decide) ?_
              refine wa_goto C (tgt := 96) dX12_share_90 (by decide) ?_
              refine wa_sub C [4] rfl ?_
              exact k_33 436 (inR_k 436 rfl) h
          · replace h := h.2 c_31
            refine wa_iconst C (z := 0) dX12_share_73 rfl ?_
            refine wa_goto C (tgt := 102) dX12_share_74 (by decide) ?_
            refine wa_sub C [] rfl ?_
            exact k_29 0 (inR_k 0 rfl) h
        · replace h := h.2 c_26
          refine wa_aload_n C 0 rfl dX12_share_57 rfl ?_
          refine wa_iconst C (z := 3) dX12_share_58 rfl ?_
          refine wa_callVi C (k := 0) (As := [.int (iI 3)]) (rest := []) (c_X12_fail l K ad 3 (inR_k 3 rfl) _ h) gw_1365 gw_1362 mW_0 rfl gw_1364 gs_52 gw_12 q_X12_fail rfl rfl rfl ⟨by decide, by decide⟩ rfl (Nat.le_of_ble_eq_true rfl) dX12_share_59 (fun c_38 u9 rc_38 hp => ?_)
          obtain ⟨M_thrown_39, rfl, h⟩ := hp
          replace h := h rc_38
          exact ret dX12_share_62 rc_38 ⟨_, _, _, _, _, _, _, _, _, _, _, _, rfl, h⟩
      · replace h := h.2 c_11
        refine wa_sub C [0] rfl ?_
        exact k_6 h
  · replace h := h.2 c_3
    refine wa_iconst C (z := 0) dX12_share_14 rfl ?_
    exact ret dX12_share_15 (inR_k 0 rfl) ⟨_, _, _, _, _, _, _, _, _, _, _, _, rfl, h⟩
def P_X12_permille (post : Int → (Int) → (Int) → (Int) → (Int → Int) → (Int → Int) → (Int → Int) → (Int → Int) → (Int → Int) → (Int → Int) → (Int → Int) → (Int → Int) → (Int → Int64) → Prop) (M_thrown : Int) (M_w : Int) (M_h : Int) (M_cells : Int) (M_isBoard : Int) (M_parts : Int) (M_numbers : Int) (M_near : Int → Int) (M_degree : Int → Int) (M_mine : Int → Int) (M_state : Int → Int) (M_used : Int → Int) (M_partOf : Int → Int) (M_placeOf : Int → Int) (M_partSize : Int → Int) (M_ways : Int → Int) (M_with : Int → Int) (M_masks : Int → Int) (M_rests : Int → Int) (M_bits : Int → Int) (M_big : Int → Int64) (x1 : Int) (x2 : Int) : Prop :=
  P_X12_has (fun (c_1 : Int) (M_thrown_2 : Int) => (c_1 = 0 ∨ c_1 = 1) → ((¬ c_1 = 0 → (inR ((M_w * x1) + x2) ∧ (P_X12_hasShare (fun (c_6 : Int) (M_parts_7 : Int) (M_numbers_8 : Int) (M_used_9 : Int → Int) (M_partOf_10 : Int → Int) (M_placeOf_11 : Int → Int) (M_partSize_12 : Int → Int) (M_ways_13 : Int → Int) (M_with_14 : Int → Int) (M_masks_15 : Int → Int) (M_rests_16 : Int → Int) (M_big_17 : Int → Int64) => (c_6 = 0 ∨ c_6 = 1) → ((¬ c_6 = 0 → (P_X12_put (fun (M_big_19 : Int → Int64) => (P_X12_add (fun (M_big_20 : Int → Int64) => (P_X12_divideBy (fun (M_big_21 : Int → Int64) => (∀ v_22 : Int64, v_22 = M_big_21 2622 → (post (l2I v_22) M_thrown_2 M_parts_7 M_numbers_8 M_used_9 M_partOf_10 M_placeOf_11 M_partSize_12 M_ways_13 M_with_14 M_masks_15 M_rests_16 M_big_21))) M_big_20 437 440)) M_big_19 437 436 (1000 : Int64))) M_big_17 437 (0 : Int64))) ∧ (c_6 = 0 → (P_X12_fail (fun (c_23 : Int) (M_thrown_24 : Int) => inR c_23 → (post c_23 M_thrown_24 M_parts_7 M_numbers_8 M_used_9 M_partOf_10 M_placeOf_11 M_partSize_12 M_ways_13 M_with_14 M_masks_15 M_rests_16 M_big_17)) M_thrown_2 3)))) M_cells M_parts M_numbers M_near M_degree M_mine M_state M_used M_partOf M_placeOf M_partSize M_ways M_with M_masks M_rests M_bits M_big ((M_w * x1) + x2)))) ∧ (c_1 = 0 → (post 0 M_thrown_2 M_parts M_numbers M_used M_partOf M_placeOf M_partSize M_ways M_with M_masks M_rests M_big)))) 0 M_w M_h M_isBoard x1 x2
set_option maxRecDepth 100000 in
set_option maxHeartbeats 4000000 in
theorem c_X12_permille (l : Launch) (K : wK) (ad : Nat → Nat) {M_thrown : Int} {M_w : Int} {M_h : Int} {M_cells : Int} {M_shape : Int} {M_isBoard : Int} {M_isBlank : Int} {M_lives : Int} {M_moves : Int} {M_parts : Int} {M_numbers : Int} {M_grade : Int} {M_reasons : Int} {M_total : Int} {M_near : Int → Int} {M_degree : Int → Int} {M_mine : Int → Int} {M_state : Int → Int} {M_history : Int → Int64} {M_oldLives : Int → Int} {M_safe : Int → Int} {M_mined : Int → Int} {M_used : Int → Int} {M_partOf : Int → Int} {M_placeOf : Int → Int} {M_partSize : Int → Int} {M_ways : Int → Int} {M_with : Int → Int} {M_masks : Int → Int} {M_rests : Int → Int} {M_bits : Int → Int} {M_reach : Int → Int} {M_more : Int → Int} {M_reason : Int → Int} {M_big : Int → Int64} {M_region : Int → Int} (x1 : Int) (x2 : Int) (rx1 : inR x1) (rx2 : inR x2) (post : Int → (Int) → (Int) → (Int) → (Int → Int) → (Int → Int) → (Int → Int) → (Int → Int) → (Int → Int) → (Int → Int) → (Int → Int) → (Int → Int) → (Int → Int64) → Prop) (h : P_X12_permille post M_thrown M_w M_h M_cells M_isBoard M_parts M_numbers M_near M_degree M_mine M_state M_used M_partOf M_placeOf M_partSize M_ways M_with M_masks M_rests M_bits M_big x1 x2) : mI l yX12_permille (Cond.code yX12_permille cX12_permille 3 (some .int) :: GT) ({ frames := 9, cells := 0, slots := 0, locals := 540 } : Room) [.ref (ad 0), .int (iI x1), .int (iI x2)] K ad (mW M_thrown M_w M_h M_cells M_shape M_isBoard M_isBlank M_lives M_moves M_parts M_numbers M_grade M_reasons M_total M_near M_degree M_mine M_state M_history M_oldLives M_safe M_mined M_used M_partOf M_placeOf M_partSize M_ways M_with M_masks M_rests M_bits M_reach M_more M_reason M_big M_region) (fun z9 u9 => ∃ M_thrown9 M_parts9 M_numbers9 M_used9 M_partOf9 M_placeOf9 M_partSize9 M_ways9 M_with9 M_masks9 M_rests9 M_big9, u9 = (mW M_thrown9 M_w M_h M_cells M_shape M_isBoard M_isBlank M_lives M_moves M_parts9 M_numbers9 M_grade M_reasons M_total M_near M_degree M_mine M_state M_history M_oldLives M_safe M_mined M_used9 M_partOf9 M_placeOf9 M_partSize9 M_ways9 M_with9 M_masks9 M_rests9 M_bits M_reach M_more M_reason M_big9 M_region) ∧ post z9 M_thrown9 M_parts9 M_numbers9 M_used9 M_partOf9 M_placeOf9 M_partSize9 M_ways9 M_with9 M_masks9 M_rests9 M_big9) := by
  refine mI_of (lv0 := [(0, .ref (ad 0)), (1, .int (iI x1)), (2, .int (iI x2))]) (by decide) (Nat.le_of_ble_eq_true rfl) rfl ?_
  intro p e s m args below meth c Q A C ret
  replace C : Cx p ({ frames := 9, cells := 0, slots := 0, locals := 540 } : Room) m c 0 0 cX12_permille 3 s args RX12 K A := C
  unfold P_X12_permille at h
  refine wa_aload_n C 0 rfl dX12_permille_0 rfl ?_
  refine wa_iconst C (z := 0) dX12_permille_1 rfl ?_
  refine wa_putI C (ws' := (mW 0 M_w M_h M_cells M_shape M_isBoard M_isBlank M_lives M_moves M_parts M_numbers M_grade M_reasons M_total M_near M_degree M_mine M_state M_history M_oldLives M_safe M_mined M_used M_partOf M_placeOf M_partSize M_ways M_with M_masks M_rests M_bits M_reach M_more M_reason M_big M_region)) 0 0 mW_0 rfl (by decide) okX12 gw_1232 rfl rfl (Nat.le_of_ble_eq_true rfl) (inR_k 0 rfl) (mWp_0_0 _) dX12_permille_2 ?_
  refine wa_aload_n C 0 rfl dX12_permille_5 rfl ?_
  refine wa_iload_n C 1 rfl dX12_permille_6 rfl ?_
  refine wa_iload_n C 2 rfl dX12_permille_7 rfl ?_
  refine wa_callVi C (k := 0) (As := [.int (iI x1), .int (iI x2)]) (rest := []) (c_X12_has l K ad x1 x2 rx1 rx2 _ h) gw_1539 gw_1536 mW_0 rfl gw_1538 gs_93 gw_12 q_X12_has rfl rfl rfl ⟨by decide, by decide⟩ rfl (Nat.le_of_ble_eq_true rfl) dX12_permille_8 (fun c_1 u9 rc_1 hp => ?_)
  obtain ⟨bc_1, M_thrown_2, rfl, h⟩ := hp
  replace h := h bc_1
  refine wa_if_ne C (tgt := 16) (inR_b bc_1) dX12_permille_11 (by decide) (fun c_3 => ?_) (fun c_3 => ?_)
  · replace h := h.1 c_3
    refine wa_aload_n C 0 rfl dX12_permille_16 rfl ?_
    refine wa_aload_n C 0 rfl dX12_permille_17 rfl ?_
    refine wa_getI C 0 1 mW_0 rfl rfl (by decide) okX12 gw_1233 dX12_permille_18 (fun r_4 => ?_)
    refine wa_iload_n C 1 rfl dX12_permille_21 rfl ?_
    refine wa_imul C dX12_permille_22 ?_
    refine wa_iload_n C 2 rfl dX12_permille_23 rfl ?_
    refine wa_iadd C dX12_permille_24 ?_
    obtain ⟨r_5, h⟩ := h
    refine wa_callVi C (k := 0) (As := [.int (iI ((M_w * x1) + x2))]) (rest := []) (c_X12_hasShare l K ad ((M_w * x1) + x2) r_5 _ h) gw_1655 gw_1652 mW_0 rfl gw_1654 gs_110 gw_12 q_X12_hasShare rfl rfl rfl ⟨by decide, by decide⟩ rfl (Nat.le_of_ble_eq_true rfl) dX12_permille_25 (fun c_6 u9 rc_6 hp => ?_)
    obtain ⟨bc_6, M_parts_7, M_numbers_8, M_used_9, M_partOf_10, M_placeOf_11, M_partSize_12, M_ways_13, M_with_14, M_masks_15, M_rests_16, M_big_17, rfl, h⟩ := hp
    replace h := h bc_6
    refine wa_if_ne C (tgt := 37) (inR_b bc_6) dX12_permille_28 (by decide) (fun c_18 => ?_) (fun c_18 => ?_)
    · replace h := h.1 c_18
      refine wa_aload_n C 0 rfl dX12_permille_37 rfl ?_
      refine wa_sipush C (z := 437) dX12_permille_38 (by decide) ?_
      refine wa_lconst C (v := 0) dX12_permille_41 rfl ?_
      refine wa_callVv C (k := 0) (As := [.int (iI 437), .long (0 : Int64)]) (rest := []) (c_X12_put l K ad 437 (0 : Int64) (inR_k 437 rfl) _ h) gw_1620 gw_1617 mW_0 rfl gw_1619 gs_103 gw_12 q_X12_put rfl rfl rfl ⟨by decide, by decide⟩ rfl (Nat.le_of_ble_eq_true rfl) dX12_permille_42 (fun u9 hp => ?_)
      obtain ⟨M_big_19, rfl, h⟩ := hp
      refine wa_aload_n C 0 rfl dX12_permille_45 rfl ?_
      refine wa_sipush C (z := 437) dX12_permille_46 (by decide) ?_
      refine wa_sipush C (z := 436) dX12_permille_49 (by decide) ?_
      refine wa_ldc2 C gw_1686 dX12_permille_52 ?_
      refine wa_callVv C (k := 0) (As := [.int (iI 437), .int (iI 436), .long (1000 : Int64)]) (rest := []) (c_X12_add l K ad 437 436 (1000 : Int64) (inR_k 437 rfl) (inR_k 436 rfl) _ h) gw_1624 gw_1621 mW_0 rfl gw_1623 gs_104 gw_12 q_X12_add rfl rfl rfl ⟨by decide, by decide⟩ rfl (Nat.le_of_ble_eq_true rfl) dX12_permille_55 (fun u9 hp => ?_)
      obtain ⟨M_big_20, rfl, h⟩ := hp
      refine wa_aload_n C 0 rfl dX12_permille_58 rfl ?_
      refine wa_sipush C (z := 437) dX12_permille_59 (by decide) ?_
      refine wa_sipush C (z := 440) dX12_permille_62 (by decide) ?_
      refine wa_callVv C (k := 0) (As := [.int (iI 437), .int (iI 440)]) (rest := []) (c_X12_divideBy l K ad 437 440 (inR_k 437 rfl) (inR_k 440 rfl) _ h) gw_1667 gw_1664 mW_0 rfl gw_1666 gs_113 gw_12 q_X12_divideBy rfl rfl rfl ⟨by decide, by decide⟩ rfl (Nat.le_of_ble_eq_true rfl) dX12_permille_65 (fun u9 hp => ?_)
      obtain ⟨M_big_21, rfl, h⟩ := hp
      refine wa_aload_n C 0 rfl dX12_permille_68 rfl ?_
      refine wa_getR C 0 34 mW_0 rfl rfl (by decide) okX12 gw_1266 dX12_permille_69 ?_
      refine wa_sipush C (z := 2622) dX12_permille_72 (by decide) ?_
      refine wa_lald C 21 mW_21 dX12_permille_75 (by decide) (by decide) (fun v_22 ev_22 => ?_)
      replace h := h v_22 ev_22
      refine wa_l2i C dX12_permille_76 ?_
      exact ret dX12_permille_77 (l2I_r _) ⟨_, _, _, _, _, _, _, _, _, _, _, _, rfl, h⟩
    · replace h := h.2 c_18
      refine wa_aload_n C 0 rfl dX12_permille_31 rfl ?_
      refine wa_iconst C (z := 3) dX12_permille_32 rfl ?_
      refine wa_callVi C (k := 0) (As := [.int (iI 3)]) (rest := []) (c_X12_fail l K ad 3 (inR_k 3 rfl) _ h) gw_1365 gw_1362 mW_0 rfl gw_1364 gs_52 gw_12 q_X12_fail rfl rfl rfl ⟨by decide, by decide⟩ rfl (Nat.le_of_ble_eq_true rfl) dX12_permille_33 (fun c_23 u9 rc_23 hp => ?_)
      obtain ⟨M_thrown_24, rfl, h⟩ := hp
      replace h := h rc_23
      exact ret dX12_permille_36 rc_23 ⟨_, _, _, _, _, _, _, _, _, _, _, _, rfl, h⟩
  · replace h := h.2 c_3
    refine wa_iconst C (z := 0) dX12_permille_14 rfl ?_
    exact ret dX12_permille_15 (inR_k 0 rfl) ⟨_, _, _, _, _, _, _, _, _, _, _, _, rfl, h⟩
def P_X12_isQuiet (post : Int → Prop) (M_near : Int → Int) (M_degree : Int → Int) (M_mine : Int → Int) (M_state : Int → Int) (x1 : Int) : Prop :=
  P_X12_isUnknown (fun (c_1 : Int) => (c_1 = 0 ∨ c_1 = 1) → (∃ J_2 : (Int) → Prop, (∃ J_6 : Prop, ((c_1 = 0 → (J_6)) ∧ (¬ c_1 = 0 → ((0 ≤ x1 ∧ x1 < 144) ∧ (∀ v_10 : Int, v_10 = M_mine x1 → (v_10 = 0 ∨ v_10 = 1) → ((¬ v_10 = 0 → (J_6)) ∧ (v_10 = 0 → (P_X12_numberOf (fun (c_12 : Int) => inR c_12 → ((¬ c_12 = 0 → (J_6)) ∧ (c_12 = 0 → (J_2 1)))) M_near M_degree M_mine x1))))))) ∧ (J_6 → (J_2 0))) ∧ (∀ (z_4 : Int), inR z_4 → J_2 z_4 → ((z_4 = 0 ∨ z_4 = 1) ∧ (post z_4))))) M_state x1
set_option maxRecDepth 100000 in
set_option maxHeartbeats 4000000 in
theorem c_X12_isQuiet (l : Launch) (K : wK) (ad : Nat → Nat) {M_thrown : Int} {M_w : Int} {M_h : Int} {M_cells : Int} {M_shape : Int} {M_isBoard : Int} {M_isBlank : Int} {M_lives : Int} {M_moves : Int} {M_parts : Int} {M_numbers : Int} {M_grade : Int} {M_reasons : Int} {M_total : Int} {M_near : Int → Int} {M_degree : Int → Int} {M_mine : Int → Int} {M_state : Int → Int} {M_history : Int → Int64} {M_oldLives : Int → Int} {M_safe : Int → Int} {M_mined : Int → Int} {M_used : Int → Int} {M_partOf : Int → Int} {M_placeOf : Int → Int} {M_partSize : Int → Int} {M_ways : Int → Int} {M_with : Int → Int} {M_masks : Int → Int} {M_rests : Int → Int} {M_bits : Int → Int} {M_reach : Int → Int} {M_more : Int → Int} {M_reason : Int → Int} {M_big : Int → Int64} {M_region : Int → Int} (x1 : Int) (rx1 : inR x1) (post : Int → Prop) (h : P_X12_isQuiet post M_near M_degree M_mine M_state x1) : mI l yX12_isQuiet (Cond.code yX12_isQuiet cX12_isQuiet 2 (some .boolean) :: GT) ({ frames := 3, cells := 0, slots := 0, locals := 180 } : Room) [.ref (ad 0), .int (iI x1)] K ad (mW M_thrown M_w M_h M_cells M_shape M_isBoard M_isBlank M_lives M_moves M_parts M_numbers M_grade M_reasons M_total M_near M_degree M_mine M_state M_history M_oldLives M_safe M_mined M_used M_partOf M_placeOf M_partSize M_ways M_with M_masks M_rests M_bits M_reach M_more M_reason M_big M_region) (fun z9 u9 => (z9 = 0 ∨ z9 = 1) ∧ u9 = (mW M_thrown M_w M_h M_cells M_shape M_isBoard M_isBlank M_lives M_moves M_parts M_numbers M_grade M_reasons M_total M_near M_degree M_mine M_state M_history M_oldLives M_safe M_mined M_used M_partOf M_placeOf M_partSize M_ways M_with M_masks M_rests M_bits M_reach M_more M_reason M_big M_region) ∧ post z9) := by
  refine mZ_of (lv0 := [(0, .ref (ad 0)), (1, .int (iI x1))]) (by decide) (Nat.le_of_ble_eq_true rfl) rfl ?_
  intro p e s m args below meth c Q A C ret
  replace C : Cx p ({ frames := 3, cells := 0, slots := 0, locals := 180 } : Room) m c 0 0 cX12_isQuiet 2 s args RX12 K A := C
  unfold P_X12_isQuiet at h
  refine wa_aload_n C 0 rfl dX12_isQuiet_0 rfl ?_
  refine wa_iload_n C 1 rfl dX12_isQuiet_1 rfl ?_
  refine wa_callVi C (k := 0) (As := [.int (iI x1)]) (rest := []) (c_X12_isUnknown l K ad x1 rx1 _ h) gw_1411 gw_1408 mW_0 rfl gw_1410 gs_63 gw_12 q_X12_isUnknown rfl rfl rfl ⟨by decide, by decide⟩ rfl (Nat.le_of_ble_eq_true rfl) dX12_isQuiet_2 (fun c_1 u9 rc_1 hp => ?_)
  obtain ⟨bc_1, rfl, h⟩ := hp
  replace h := h bc_1
  obtain ⟨J_2, h, hJ_2⟩ := h
  have k_3 : ∀ (z_4 : Int), inR z_4 → J_2 z_4 → WA p l e ({ frames := 3, cells := 0, slots := 0, locals := 180 } : Room) s m args below meth c 0 0 Q K ad 2 A 30 [] [.int (iI z_4)] (mW M_thrown M_w M_h M_cells M_shape M_isBoard M_isBlank M_lives M_moves M_parts M_numbers M_grade M_reasons M_total M_near M_degree M_mine M_state M_history M_oldLives M_safe M_mined M_used M_partOf M_placeOf M_partSize M_ways M_with M_masks M_rests M_bits M_reach M_more M_reason M_big M_region) := by
    intro z_4 rz_4 h
    replace h := hJ_2 z_4 rz_4 h
    obtain ⟨b_5, h⟩ := h
    exact ret dX12_isQuiet_30 b_5 ⟨b_5, rfl, h⟩
  obtain ⟨J_6, h, hJ_6⟩ := h
  have k_7 : J_6 → WA p l e ({ frames := 3, cells := 0, slots := 0, locals := 180 } : Room) s m args below meth c 0 0 Q K ad 2 A 29 [] [] (mW M_thrown M_w M_h M_cells M_shape M_isBoard M_isBlank M_lives M_moves M_parts M_numbers M_grade M_reasons M_total M_near M_degree M_mine M_state M_history M_oldLives M_safe M_mined M_used M_partOf M_placeOf M_partSize M_ways M_with M_masks M_rests M_bits M_reach M_more M_reason M_big M_region) := by
    intro h
    replace h := hJ_6 h
    refine wa_iconst C (z := 0) dX12_isQuiet_29 rfl ?_
    refine wa_sub C [] rfl ?_
    exact k_3 0 (inR_k 0 rfl) h
  refine wa_if_eq C (tgt := 29) (inR_b bc_1) dX12_isQuiet_5 (by decide) (fun c_8 => ?_) (fun c_8 => ?_)
  · replace h := h.1 c_8
    refine wa_sub C [] rfl ?_
    exact k_7 h
  · replace h := h.2 c_8
    refine wa_aload_n C 0 rfl dX12_isQuiet_8 rfl ?_
    refine wa_getR C 0 9 mW_0 rfl rfl (by decide) okX12 gw_1241 dX12_isQuiet_9 ?_
    refine wa_iload_n C 1 rfl dX12_isQuiet_12 rfl ?_
    obtain ⟨t_9, h⟩ := h
    refine wa_bald C 3 mW_3 dX12_isQuiet_13 t_9.1 t_9.2 (fun v_10 ev_10 rv_10 => ?_)
    replace h := h v_10 ev_10 rv_10
    refine wa_if_ne C (tgt := 29) (inR_b rv_10) dX12_isQuiet_14 (by decide) (fun c_11 => ?_) (fun c_11 => ?_)
    · replace h := h.1 c_11
      refine wa_sub C [] rfl ?_
      exact k_7 h
    · replace h := h.2 c_11
      refine wa_aload_n C 0 rfl dX12_isQuiet_17 rfl ?_
      refine wa_iload_n C 1 rfl dX12_isQuiet_18 rfl ?_
      refine wa_callVi C (k := 0) (As := [.int (iI x1)]) (rest := []) (c_X12_numberOf l K ad x1 rx1 _ h) gw_1407 gw_1404 mW_0 rfl gw_1406 gs_62 gw_12 q_X12_numberOf rfl rfl rfl ⟨by decide, by decide⟩ rfl (Nat.le_of_ble_eq_true rfl) dX12_isQuiet_19 (fun c_12 u9 rc_12 hp => ?_)
      obtain ⟨rfl, h⟩ := hp
      replace h := h rc_12
      refine wa_if_ne C (tgt := 29) rc_12 dX12_isQuiet_22 (by decide) (fun c_13 => ?_) (fun c_13 => ?_)
      · replace h := h.1 c_13
        refine wa_sub C [] rfl ?_
        exact k_7 h
      · replace h := h.2 c_13
        refine wa_iconst C (z := 1) dX12_isQuiet_25 rfl ?_
        refine wa_goto C (tgt := 30) dX12_isQuiet_26 (by decide) ?_
        refine wa_sub C [] rfl ?_
        exact k_3 1 (inR_k 1 rfl) h
def P_X12_clicks (post : Int → (Int → Int) → Prop) (M_cells : Int) (M_near : Int → Int) (M_degree : Int → Int) (M_mine : Int → Int) (M_state : Int → Int) (M_region : Int → Int) : Prop :=
  ∃ Inv_1 : Nat → (Int) → (Int → Int) → Prop, (∃ n_2 : Nat, Inv_1 n_2 0 M_region) ∧ ∀ (n_3 : Nat) (x2_6 : Int) (M_region_7 : Int → Int), inR x2_6 → Inv_1 n_3 x2_6 M_region_7 → ((M_cells ≤ x2_6 → (∃ Inv_10 : Nat → (Int) → (Int → Int) → Prop, (∃ n_11 : Nat, Inv_10 n_11 1 M_region_7) ∧ ∀ (n_12 : Nat) (x2_15 : Int) (M_region_16 : Int → Int), inR x2_15 → Inv_10 n_12 x2_15 M_region_16 → ((x2_15 = 0 → (∃ Inv_18 : Nat → (Int) → (Int) → Prop, (∃ n_19 : Nat, Inv_18 n_19 0 0) ∧ ∀ (n_20 : Nat) (x1_23 : Int) (x3_24 : Int), inR x1_23 → inR x3_24 → Inv_18 n_20 x1_23 x3_24 → ((M_cells ≤ x3_24 → (post x1_23 M_region_16)) ∧ (¬ M_cells ≤ x3_24 → (∃ Inv_27 : Nat → (Int) → (Int) → Prop, (∃ n_28 : Nat, Inv_27 n_28 0 0) ∧ ∀ (n_29 : Nat) (x4_32 : Int) (x5_33 : Int), inR x4_32 → inR x5_33 → Inv_27 n_29 x4_32 x5_33 → ((0 ≤ x3_24 ∧ x3_24 < 144) ∧ (∀ v_35 : Int, v_35 = M_degree x3_24 → inR v_35 → ((v_35 ≤ x5_33 → ((0 ≤ x3_24 ∧ x3_24 < 144) ∧ (∀ v_38 : Int, v_38 = M_region_16 x3_24 → inR v_38 → (∃ J_39 : (Int) → Prop, (∃ J_47 : Prop, ((v_38 = x3_24 → (J_47)) ∧ (¬ v_38 = x3_24 → (P_X12_isUnknown (fun (c_50 : Int) => (c_50 = 0 ∨ c_50 = 1) → (∃ J_51 : Prop, ((c_50 = 0 → (J_51)) ∧ (¬ c_50 = 0 → ((0 ≤ x3_24 ∧ x3_24 < 144) ∧ (∀ v_55 : Int, v_55 = M_mine x3_24 → (v_55 = 0 ∨ v_55 = 1) → ((¬ v_55 = 0 → (J_51)) ∧ (v_55 = 0 → ((0 ≤ x3_24 ∧ x3_24 < 144) ∧ (∀ v_58 : Int, v_58 = M_region_16 x3_24 → inR v_58 → ((0 ≤ v_58 → (J_51)) ∧ (¬ 0 ≤ v_58 → ((¬ x4_32 = 0 → (J_51)) ∧ (x4_32 = 0 → (J_47))))))))))))) ∧ (J_51 → (J_39 0)))) M_state x3_24))) ∧ (J_47 → (J_39 1))) ∧ (∀ (z_41 : Int), inR z_41 → J_39 z_41 → (inR (x1_23 + z_41) ∧ (∀ x1_43 : Int, x1_43 = (x1_23 + z_41) → (inR (x3_24 + 1) ∧ (∀ x3_45 : Int, x3_45 = (x3_24 + 1) → (∃ n_46 : Nat, n_46 < n_20 ∧ Inv_18 n_46 x1_43 x3_45)))))))))) ∧ (¬ v_35 ≤ x5_33 → (∃ J_61 : (Int) → Prop, (∃ J_67 : Prop, ((¬ x4_32 = 0 → (J_67)) ∧ (x4_32 = 0 → ((0 ≤ ((8 * x3_24) + x5_33) ∧ ((8 * x3_24) + x5_33) < 1152) ∧ (∀ v_71 : Int, v_71 = M_near ((8 * x3_24) + x5_33) → inR v_71 → ((0 ≤ v_71 ∧ v_71 < 144) ∧ (∀ v_73 : Int, v_73 = M_region_16 v_71 → inR v_73 → ((v_73 < 0 → (J_61 0)) ∧ (¬ v_73 < 0 → (J_67))))))))) ∧ (J_67 → (J_61 1))) ∧ (∀ (z_63 : Int), inR z_63 → J_61 z_63 → (inR (x5_33 + 1) ∧ (∀ x5_65 : Int, x5_65 = (x5_33 + 1) → (∃ n_66 : Nat, n_66 < n_29 ∧ Inv_27 n_66 z_63 x5_65)))))))))))))) ∧ (¬ x2_15 = 0 → (∃ Inv_75 : Nat → (Int) → (Int) → (Int → Int) → Prop, (∃ n_76 : Nat, Inv_75 n_76 0 0 M_region_16) ∧ ∀ (n_77 : Nat) (x2_80 : Int) (x3_81 : Int) (M_region_82 : Int → Int), inR x2_80 → inR x3_81 → Inv_75 n_77 x2_80 x3_81 M_region_82 → ((M_cells ≤ x3_81 → (∃ n_85 : Nat, n_85 < n_12 ∧ Inv_10 n_85 x2_80 M_region_82)) ∧ (¬ M_cells ≤ x3_81 → (∃ Inv_86 : Nat → (Int) → (Int) → (Int → Int) → Prop, (∃ n_87 : Nat, Inv_86 n_87 x2_80 0 M_region_82) ∧ ∀ (n_88 : Nat) (x2_91 : Int) (x4_92 : Int) (M_region_93 : Int → Int), inR x2_91 → inR x4_92 → Inv_86 n_88 x2_91 x4_92 M_region_93 → ((0 ≤ x3_81 ∧ x3_81 < 144) ∧ (∀ v_95 : Int, v_95 = M_degree x3_81 → inR v_95 → (∃ J_96 : Prop, ((v_95 ≤ x4_92 → (J_96)) ∧ (¬ v_95 ≤ x4_92 → ((0 ≤ x3_81 ∧ x3_81 < 144) ∧ (∀ v_103 : Int, v_103 = M_region_93 x3_81 → inR v_103 → ((v_103 < 0 → (J_96)) ∧ (¬ v_103 < 0 → ((0 ≤ ((8 * x3_81) + x4_92) ∧ ((8 * x3_81) + x4_92) < 1152) ∧ (∀ v_106 : Int, v_106 = M_near ((8 * x3_81) + x4_92) → inR v_106 → ((0 ≤ v_106 ∧ v_106 < 144) ∧ (∀ v_108 : Int, v_108 = M_region_93 v_106 → inR v_108 → ((0 ≤ x3_81 ∧ x3_81 < 144) ∧ (∀ v_110 : Int, v_110 = M_region_93 x3_81 → inR v_110 → (∃ J_111 : (Int) → (Int → Int) → Prop, ((v_108 ≤ v_110 → (J_111 x2_91 M_region_93)) ∧ (¬ v_108 ≤ v_110 → ((0 ≤ x3_81 ∧ x3_81 < 144) ∧ (∀ v_120 : Int, v_120 = M_region_93 x3_81 → inR v_120 → ((0 ≤ v_106 ∧ v_106 < 144) ∧ (∀ M_region_122 : Int → Int, M_region_122 = upZ M_region_93 v_106 v_120 → (J_111 1 M_region_122))))))) ∧ (∀ (x2_113 : Int) (M_region_114 : Int → Int), inR x2_113 → J_111 x2_113 M_region_114 → (inR (x4_92 + 1) ∧ (∀ x4_116 : Int, x4_116 = (x4_92 + 1) → (∃ n_117 : Nat, n_117 < n_88 ∧ Inv_86 n_117 x2_113 x4_116 M_region_114))))))))))))))))) ∧ (J_96 → (inR (x3_81 + 1) ∧ (∀ x3_99 : Int, x3_99 = (x3_81 + 1) → (∃ n_100 : Nat, n_100 < n_77 ∧ Inv_75 n_100 x2_91 x3_99 M_region_93))))))))))))))) ∧ (¬ M_cells ≤ x2_6 → (P_X12_isQuiet (fun (c_123 : Int) => (c_123 = 0 ∨ c_123 = 1) → (∃ J_124 : (Int) → Prop, ((c_123 = 0 → (J_124 (-1))) ∧ (¬ c_123 = 0 → (J_124 x2_6))) ∧ (∀ (z_126 : Int), inR z_126 → J_124 z_126 → ((0 ≤ x2_6 ∧ x2_6 < 144) ∧ (∀ M_region_128 : Int → Int, M_region_128 = upZ M_region_7 x2_6 z_126 → (inR (x2_6 + 1) ∧ (∀ x2_130 : Int, x2_130 = (x2_6 + 1) → (∃ n_131 : Nat, n_131 < n_3 ∧ Inv_1 n_131 x2_130 M_region_128)))))))) M_near M_degree M_mine M_state x2_6)))
set_option maxRecDepth 100000 in
set_option maxHeartbeats 4000000 in
theorem c_X12_clicks (l : Launch) (K : wK) (ad : Nat → Nat) {M_thrown : Int} {M_w : Int} {M_h : Int} {M_cells : Int} {M_shape : Int} {M_isBoard : Int} {M_isBlank : Int} {M_lives : Int} {M_moves : Int} {M_parts : Int} {M_numbers : Int} {M_grade : Int} {M_reasons : Int} {M_total : Int} {M_near : Int → Int} {M_degree : Int → Int} {M_mine : Int → Int} {M_state : Int → Int} {M_history : Int → Int64} {M_oldLives : Int → Int} {M_safe : Int → Int} {M_mined : Int → Int} {M_used : Int → Int} {M_partOf : Int → Int} {M_placeOf : Int → Int} {M_partSize : Int → Int} {M_ways : Int → Int} {M_with : Int → Int} {M_masks : Int → Int} {M_rests : Int → Int} {M_bits : Int → Int} {M_reach : Int → Int} {M_more : Int → Int} {M_reason : Int → Int} {M_big : Int → Int64} {M_region : Int → Int}   (post : Int → (Int → Int) → Prop) (h : P_X12_clicks post M_cells M_near M_degree M_mine M_state M_region) : mI l yX12_clicks (Cond.code yX12_clicks cX12_clicks 6 (some .int) :: GT) ({ frames := 4, cells := 0, slots := 0, locals := 240 } : Room) [.ref (ad 0)] K ad (mW M_thrown M_w M_h M_cells M_shape M_isBoard M_isBlank M_lives M_moves M_parts M_numbers M_grade M_reasons M_total M_near M_degree M_mine M_state M_history M_oldLives M_safe M_mined M_used M_partOf M_placeOf M_partSize M_ways M_with M_masks M_rests M_bits M_reach M_more M_reason M_big M_region) (fun z9 u9 => ∃ M_region9, u9 = (mW M_thrown M_w M_h M_cells M_shape M_isBoard M_isBlank M_lives M_moves M_parts M_numbers M_grade M_reasons M_total M_near M_degree M_mine M_state M_history M_oldLives M_safe M_mined M_used M_partOf M_placeOf M_partSize M_ways M_with M_masks M_rests M_bits M_reach M_more M_reason M_big M_region9) ∧ post z9 M_region9) := by
  refine mI_of (lv0 := [(0, .ref (ad 0))]) (by decide) (Nat.le_of_ble_eq_true rfl) rfl ?_
  intro p e s m args below meth c Q A C ret
  replace C : Cx p ({ frames := 4, cells := 0, slots := 0, locals := 240 } : Room) m c 0 0 cX12_clicks 6 s args RX12 K A := C
  unfold P_X12_clicks at h
  refine wa_iconst C (z := 0) dX12_clicks_0 rfl ?_
  refine wa_istore_n C dX12_clicks_1 rfl (by decide) rfl ?_
  refine wa_iconst C (z := 0) dX12_clicks_2 rfl ?_
  refine wa_istore_n C dX12_clicks_3 rfl (by decide) rfl ?_
  obtain ⟨Inv_1, ⟨n_2, h0Inv_1⟩, hInv_1⟩ := h
  have k_5 : ∀ (n_3 : Nat) (x2_6 : Int) (M_region_7 : Int → Int), inR x2_6 → Inv_1 n_3 x2_6 M_region_7 → WA p l e ({ frames := 4, cells := 0, slots := 0, locals := 240 } : Room) s m args below meth c 0 0 Q K ad 6 A 4 [(0, .ref (ad 0)), (1, .int (iI 0)), (2, .int (iI x2_6))] [] (mW M_thrown M_w M_h M_cells M_shape M_isBoard M_isBlank M_lives M_moves M_parts M_numbers M_grade M_reasons M_total M_near M_degree M_mine M_state M_history M_oldLives M_safe M_mined M_used M_partOf M_placeOf M_partSize M_ways M_with M_masks M_rests M_bits M_reach M_more M_reason M_big M_region_7) := by
    intro n_3
    induction n_3 using Nat.strongRecOn with
    | ind n_3 ih_4 =>
      intro x2_6 M_region_7 rx2_6 h
      replace h := hInv_1 n_3 x2_6 M_region_7 rx2_6 h
      refine wa_iload_n C 2 rfl dX12_clicks_4 rfl ?_
      refine wa_aload_n C 0 rfl dX12_clicks_5 rfl ?_
      refine wa_getI C 0 3 mW_0 rfl rfl (by decide) okX12 gw_1235 dX12_clicks_6 (fun r_8 => ?_)
      refine wa_icmp_ge C (tgt := 37) rx2_6 r_8 dX12_clicks_9 (by decide) (fun c_9 => ?_) (fun c_9 => ?_)
      · replace h := h.1 c_9
        refine wa_iconst C (z := 1) dX12_clicks_37 rfl ?_
        refine wa_istore_n C dX12_clicks_38 rfl (by decide) rfl ?_
        obtain ⟨Inv_10, ⟨n_11, h0Inv_10⟩, hInv_10⟩ := h
        have k_14 : ∀ (n_12 : Nat) (x2_15 : Int) (M_region_16 : Int → Int), inR x2_15 → Inv_10 n_12 x2_15 M_region_16 → WA p l e ({ frames := 4, cells := 0, slots := 0, locals := 240 } : Room) s m args below meth c 0 0 Q K ad 6 A 39 [(0, .ref (ad 0)), (1, .int (iI 0)), (2, .int (iI x2_15))] [] (mW M_thrown M_w M_h M_cells M_shape M_isBoard M_isBlank M_lives M_moves M_parts M_numbers M_grade M_reasons M_total M_near M_degree M_mine M_state M_history M_oldLives M_safe M_mined M_used M_partOf M_placeOf M_partSize M_ways M_with M_masks M_rests M_bits M_reach M_more M_reason M_big M_region_16) := by
          intro n_12
          induction n_12 using Nat.strongRecOn with
          | ind n_12 ih_13 =>
            intro x2_15 M_region_16 rx2_15 h
            replace h := hInv_10 n_12 x2_15 M_region_16 rx2_15 h
            refine wa_iload_n C 2 rfl dX12_clicks_39 rfl ?_
            refine wa_if_eq C (tgt := 138) rx2_15 dX12_clicks_40 (by decide) (fun c_17 => ?_) (fun c_17 => ?_)
            · replace h := h.1 c_17
              refine wa_iconst C (z := 0) dX12_clicks_138 rfl ?_
              refine wa_istore_n C dX12_clicks_139 rfl (by decide) rfl ?_
              obtain ⟨Inv_18, ⟨n_19, h0Inv_18⟩, hInv_18⟩ := h
              have k_22 : ∀ (n_20 : Nat) (x1_23 : Int) (x3_24 : Int), inR x1_23 → inR x3_24 → Inv_18 n_20 x1_23 x3_24 → WA p l e ({ frames := 4, cells := 0, slots := 0, locals := 240 } : Room) s m args below meth c 0 0 Q K ad 6 A 140 [(0, .ref (ad 0)), (1, .int (iI x1_23)), (3, .int (iI x3_24))] [] (mW M_thrown M_w M_h M_cells M_shape M_isBoard M_isBlank M_lives M_moves M_parts M_numbers M_grade M_reasons M_total M_near M_degree M_mine M_state M_history M_oldLives M_safe M_mined M_used M_partOf M_placeOf M_partSize M_ways M_with M_masks M_rests M_bits M_reach M_more M_reason M_big M_region_16) := by
                intro n_20
                induction n_20 using Nat.strongRecOn with
                | ind n_20 ih_21 =>
                  intro x1_23 x3_24 rx1_23 rx3_24 h
                  replace h := hInv_18 n_20 x1_23 x3_24 rx1_23 rx3_24 h
                  refine wa_iload_n C 2 rfl dX12_clicks_140 rfl ?_
                  refine wa_aload_n C 0 rfl dX12_clicks_141 rfl ?_
                  refine wa_getI C 0 3 mW_0 rfl rfl (by decide) okX12 gw_1235 dX12_clicks_142 (fun r_25 => ?_)
                  refine wa_icmp_ge C (tgt := 258) rx3_24 r_8 dX12_clicks_145 (by decide) (fun c_26 => ?_) (fun c_26 => ?_)
                  · replace h := h.1 c_26
                    refine wa_iload_n C 1 rfl dX12_clicks_258 rfl ?_
                    exact ret dX12_clicks_259 rx1_23 ⟨_, rfl, h⟩
                  · replace h := h.2 c_26
                    refine wa_iconst C (z := 0) dX12_clicks_148 rfl ?_
                    refine wa_istore C dX12_clicks_149 (by decide) rfl ?_
                    refine wa_iconst C (z := 0) dX12_clicks_151 rfl ?_
                    refine wa_istore C dX12_clicks_152 (by decide) rfl ?_
                    obtain ⟨Inv_27, ⟨n_28, h0Inv_27⟩, hInv_27⟩ := h
                    have k_31 : ∀ (n_29 : Nat) (x4_32 : Int) (x5_33 : Int), inR x4_32 → inR x5_33 → Inv_27 n_29 x4_32 x5_33 → WA p l e ({ frames := 4, cells := 0, slots := 0, locals := 240 } : Room) s m args below meth c 0 0 Q K ad 6 A 154 [(0, .ref (ad 0)), (1, .int (iI x1_23)), (3, .int (iI x3_24)), (4, .int (iI x4_32)), (5, .int (iI x5_33))] [] (mW M_thrown M_w M_h M_cells M_shape M_isBoard M_isBlank M_lives M_moves M_parts M_numbers M_grade M_reasons M_total M_near M_degree M_mine M_state M_history M_oldLives M_safe M_mined M_used M_partOf M_placeOf M_partSize M_ways M_with M_masks M_rests M_bits M_reach M_more M_reason M_big M_region_16) := by
                      intro n_29
                      induction n_29 using Nat.strongRecOn with
                      | ind n_29 ih_30 =>
                        intro x4_32 x5_33 rx4_32 rx5_33 h
                        replace h := hInv_27 n_29 x4_32 x5_33 rx4_32 rx5_33 h
                        refine wa_iload C 4 rfl dX12_clicks_154 ?_
                        refine wa_aload_n C 0 rfl dX12_clicks_156 rfl ?_
                        refine wa_getR C 0 8 mW_0 rfl rfl (by decide) okX12 gw_1240 dX12_clicks_157 ?_
                        refine wa_iload_n C 2 rfl dX12_clicks_160 rfl ?_
                        obtain ⟨t_34, h⟩ := h
                        refine wa_iald C 2 mW_2 dX12_clicks_161 t_34.1 t_34.2 (fun v_35 ev_35 rv_35 => ?_)
                        replace h := h v_35 ev_35 rv_35
                        refine wa_icmp_ge C (tgt := 203) rx5_33 rv_35 dX12_clicks_162 (by decide) (fun c_36 => ?_) (fun c_36 => ?_)
                        · replace h := h.1 c_36
                          refine wa_iload_n C 1 rfl dX12_clicks_203 rfl ?_
                          refine wa_aload_n C 0 rfl dX12_clicks_204 rfl ?_
                          refine wa_getR C 0 35 mW_0 rfl rfl (by decide) okX12 gw_1267 dX12_clicks_205 ?_
                          refine wa_iload_n C 2 rfl dX12_clicks_208 rfl ?_
                          obtain ⟨t_37, h⟩ := h
                          refine wa_iald C 22 mW_22 dX12_clicks_209 t_37.1 t_37.2 (fun v_38 ev_38 rv_38 => ?_)
                          replace h := h v_38 ev_38 rv_38
                          refine wa_iload_n C 2 rfl dX12_clicks_210 rfl ?_
                          obtain ⟨J_39, h, hJ_39⟩ := h
                          have k_40 : ∀ (z_41 : Int), inR z_41 → J_39 z_41 → WA p l e ({ frames := 4, cells := 0, slots := 0, locals := 240 } : Room) s m args below meth c 0 0 Q K ad 6 A 250 [(0, .ref (ad 0)), (3, .int (iI x3_24))] [.int (iI z_41), .int (iI x1_23)] (mW M_thrown M_w M_h M_cells M_shape M_isBoard M_isBlank M_lives M_moves M_parts M_numbers M_grade M_reasons M_total M_near M_degree M_mine M_state M_history M_oldLives M_safe M_mined M_used M_partOf M_placeOf M_partSize M_ways M_with M_masks M_rests M_bits M_reach M_more M_reason M_big M_region_16) := by
                            intro z_41 rz_41 h
                            replace h := hJ_39 z_41 rz_41 h
                            refine wa_iadd C dX12_clicks_250 ?_
                            obtain ⟨r_42, h⟩ := h
                            refine wa_nmi (fun x1_43 ex1_43 => ?_)
                            replace h := h x1_43 ex1_43
                            have rx1_43 : inR x1_43 := by rw [ex1_43]; exact r_42
                            refine wa_istore_n C dX12_clicks_251 rfl (by decide) rfl ?_
                            obtain ⟨r_44, h⟩ := h
                            refine wa_iinc C (lv' := fun w9 => [(3, .int (iI w9)), (1, .int (iI x1_43)), (0, .ref (ad 0))]) 2 rfl dX12_clicks_252 (by decide) (fun _ => rfl) (fun x3_45 ex3_45 => ?_)
                            replace h := h x3_45 ex3_45
                            have rx3_45 : inR x3_45 := by rw [ex3_45]; exact r_44
                            refine wa_goto C (tgt := 140) dX12_clicks_255 (by decide) ?_
                            obtain ⟨n_46, ln_46, h⟩ := h
                            refine wa_sub C [2, 1, 0] rfl ?_
                            exact ih_21 n_46 ln_46 x1_43 x3_45 rx1_43 rx3_45 h
                          obtain ⟨J_47, h, hJ_47⟩ := h
                          have k_48 : J_47 → WA p l e ({ frames := 4, cells := 0, slots := 0, locals := 240 } : Room) s m args below meth c 0 0 Q K ad 6 A 245 [(0, .ref (ad 0)), (3, .int (iI x3_24))] [.int (iI x1_23)] (mW M_thrown M_w M_h M_cells M_shape M_isBoard M_isBlank M_lives M_moves M_parts M_numbers M_grade M_reasons M_total M_near M_degree M_mine M_state M_history M_oldLives M_safe M_mined M_used M_partOf M_placeOf M_partSize M_ways M_with M_masks M_rests M_bits M_reach M_more M_reason M_big M_region_16) := by
                            intro h
                            replace h := hJ_47 h
                            refine wa_iconst C (z := 1) dX12_clicks_245 rfl ?_
                            refine wa_goto C (tgt := 250) dX12_clicks_246 (by decide) ?_
                            refine wa_sub C [0, 1] rfl ?_
                            exact k_40 1 (inR_k 1 rfl) h
                          refine wa_icmp_eq C (tgt := 245) rv_38 rx3_24 dX12_clicks_211 (by decide) (fun c_49 => ?_) (fun c_49 => ?_)
                          · replace h := h.1 c_49
                            refine wa_sub C [0, 2] rfl ?_
                            exact k_48 h
                          · replace h := h.2 c_49
                            refine wa_aload_n C 0 rfl dX12_clicks_214 rfl ?_
                            refine wa_iload_n C 2 rfl dX12_clicks_215 rfl ?_
                            refine wa_callVi C (k := 0) (As := [.int (iI x3_24)]) (rest := [.int (iI x1_23)]) (c_X12_isUnknown l K ad x3_24 rx3_24 _ h) gw_1411 gw_1408 mW_0 rfl gw_1410 gs_63 gw_12 q_X12_isUnknown rfl rfl rfl ⟨by decide, by decide⟩ rfl (Nat.le_of_ble_eq_true rfl) dX12_clicks_216 (fun c_50 u9 rc_50 hp => ?_)
                            obtain ⟨bc_50, rfl, h⟩ := hp
                            replace h := h bc_50
                            obtain ⟨J_51, h, hJ_51⟩ := h
                            have k_52 : J_51 → WA p l e ({ frames := 4, cells := 0, slots := 0, locals := 240 } : Room) s m args below meth c 0 0 Q K ad 6 A 249 [(0, .ref (ad 0)), (3, .int (iI x3_24))] [.int (iI x1_23)] (mW M_thrown M_w M_h M_cells M_shape M_isBoard M_isBlank M_lives M_moves M_parts M_numbers M_grade M_reasons M_total M_near M_degree M_mine M_state M_history M_oldLives M_safe M_mined M_used M_partOf M_placeOf M_partSize M_ways M_with M_masks M_rests M_bits M_reach M_more M_reason M_big M_region_16) := by
                              intro h
                              replace h := hJ_51 h
                              refine wa_iconst C (z := 0) dX12_clicks_249 rfl ?_
                              refine wa_sub C [0, 1] rfl ?_
                              exact k_40 0 (inR_k 0 rfl) h
                            refine wa_if_eq C (tgt := 249) (inR_b bc_50) dX12_clicks_219 (by decide) (fun c_53 => ?_) (fun c_53 => ?_)
                            · replace h := h.1 c_53
                              refine wa_sub C [0, 2] rfl ?_
                              exact k_52 h
                            · replace h := h.2 c_53
                              refine wa_aload_n C 0 rfl dX12_clicks_222 rfl ?_
                              refine wa_getR C 0 9 mW_0 rfl rfl (by decide) okX12 gw_1241 dX12_clicks_223 ?_
                              refine wa_iload_n C 2 rfl dX12_clicks_226 rfl ?_
                              obtain ⟨t_54, h⟩ := h
                              refine wa_bald C 3 mW_3 dX12_clicks_227 t_54.1 t_54.2 (fun v_55 ev_55 rv_55 => ?_)
                              replace h := h v_55 ev_55 rv_55
                              refine wa_if_ne C (tgt := 249) (inR_b rv_55) dX12_clicks_228 (by decide) (fun c_56 => ?_) (fun c_56 => ?_)
                              · replace h := h.1 c_56
                                refine wa_sub C [0, 2] rfl ?_
                                exact k_52 h
                              · replace h := h.2 c_56
                                refine wa_aload_n C 0 rfl dX12_clicks_231 rfl ?_
                                refine wa_getR C 0 35 mW_0 rfl rfl (by decide) okX12 gw_1267 dX12_clicks_232 ?_
                                refine wa_iload_n C 2 rfl dX12_clicks_235 rfl ?_
                                obtain ⟨t_57, h⟩ := h
                                refine wa_iald C 22 mW_22 dX12_clicks_236 t_57.1 t_57.2 (fun v_58 ev_58 rv_58 => ?_)
                                replace h := h v_58 ev_58 rv_58
                                refine wa_if_ge C (tgt := 249) rv_58 dX12_clicks_237 (by decide) (fun c_59 => ?_) (fun c_59 => ?_)
                                · replace h := h.1 c_59
                                  refine wa_sub C [0, 2] rfl ?_
                                  exact k_52 h
                                · replace h := h.2 c_59
                                  refine wa_iload C 3 rfl dX12_clicks_240 ?_
                                  refine wa_if_ne C (tgt := 249) rx4_32 dX12_clicks_242 (by decide) (fun c_60 => ?_) (fun c_60 => ?_)
                                  · replace h := h.1 c_60
                                    refine wa_sub C [0, 2] rfl ?_
                                    exact k_52 h
                                  · replace h := h.2 c_60
                                    refine wa_sub C [0, 2] rfl ?_
                                    exact k_48 h
                        · replace h := h.2 c_36
                          refine wa_iload C 3 rfl dX12_clicks_165 ?_
                          obtain ⟨J_61, h, hJ_61⟩ := h
                          have k_62 : ∀ (z_63 : Int), inR z_63 → J_61 z_63 → WA p l e ({ frames := 4, cells := 0, slots := 0, locals := 240 } : Room) s m args below meth c 0 0 Q K ad 6 A 195 [(0, .ref (ad 0)), (1, .int (iI x1_23)), (3, .int (iI x3_24)), (5, .int (iI x5_33))] [.int (iI z_63)] (mW M_thrown M_w M_h M_cells M_shape M_isBoard M_isBlank M_lives M_moves M_parts M_numbers M_grade M_reasons M_total M_near M_degree M_mine M_state M_history M_oldLives M_safe M_mined M_used M_partOf M_placeOf M_partSize M_ways M_with M_masks M_rests M_bits M_reach M_more M_reason M_big M_region_16) := by
                            intro z_63 rz_63 h
                            replace h := hJ_61 z_63 rz_63 h
                            refine wa_istore C dX12_clicks_195 (by decide) rfl ?_
                            obtain ⟨r_64, h⟩ := h
                            refine wa_iinc C (lv' := fun w9 => [(5, .int (iI w9)), (4, .int (iI z_63)), (0, .ref (ad 0)), (1, .int (iI x1_23)), (3, .int (iI x3_24))]) 4 rfl dX12_clicks_197 (by decide) (fun _ => rfl) (fun x5_65 ex5_65 => ?_)
                            replace h := h x5_65 ex5_65
                            have rx5_65 : inR x5_65 := by rw [ex5_65]; exact r_64
                            refine wa_goto C (tgt := 154) dX12_clicks_200 (by decide) ?_
                            obtain ⟨n_66, ln_66, h⟩ := h
                            refine wa_sub C [2, 3, 4, 1, 0] rfl ?_
                            exact ih_30 n_66 ln_66 z_63 x5_65 rz_63 rx5_65 h
                          obtain ⟨J_67, h, hJ_67⟩ := h
                          have k_68 : J_67 → WA p l e ({ frames := 4, cells := 0, slots := 0, locals := 240 } : Room) s m args below meth c 0 0 Q K ad 6 A 190 [(0, .ref (ad 0)), (1, .int (iI x1_23)), (3, .int (iI x3_24)), (5, .int (iI x5_33))] [] (mW M_thrown M_w M_h M_cells M_shape M_isBoard M_isBlank M_lives M_moves M_parts M_numbers M_grade M_reasons M_total M_near M_degree M_mine M_state M_history M_oldLives M_safe M_mined M_used M_partOf M_placeOf M_partSize M_ways M_with M_masks M_rests M_bits M_reach M_more M_reason M_big M_region_16) := by
                            intro h
                            replace h := hJ_67 h
                            refine wa_iconst C (z := 1) dX12_clicks_190 rfl ?_
                            refine wa_goto C (tgt := 195) dX12_clicks_191 (by decide) ?_
                            refine wa_sub C [0, 1, 2, 3] rfl ?_
                            exact k_62 1 (inR_k 1 rfl) h
                          refine wa_if_ne C (tgt := 190) rx4_32 dX12_clicks_167 (by decide) (fun c_69 => ?_) (fun c_69 => ?_)
                          · replace h := h.1 c_69
                            refine wa_sub C [0, 1, 2, 4] rfl ?_
                            exact k_68 h
                          · replace h := h.2 c_69
                            refine wa_aload_n C 0 rfl dX12_clicks_170 rfl ?_
                            refine wa_getR C 0 35 mW_0 rfl rfl (by decide) okX12 gw_1267 dX12_clicks_171 ?_
                            refine wa_aload_n C 0 rfl dX12_clicks_174 rfl ?_
                            refine wa_getR C 0 7 mW_0 rfl rfl (by decide) okX12 gw_1239 dX12_clicks_175 ?_
                            refine wa_bipush C (z := 8) dX12_clicks_178 (by decide) ?_
                            refine wa_iload_n C 2 rfl dX12_clicks_180 rfl ?_
                            refine wa_imul C dX12_clicks_181 ?_
                            refine wa_iload C 4 rfl dX12_clicks_182 ?_
                            refine wa_iadd C dX12_clicks_184 ?_
                            obtain ⟨t_70, h⟩ := h
                            refine wa_iald C 1 mW_1 dX12_clicks_185 t_70.1 t_70.2 (fun v_71 ev_71 rv_71 => ?_)
                            replace h := h v_71 ev_71 rv_71
                            obtain ⟨t_72, h⟩ := h
                            refine wa_iald C 22 mW_22 dX12_clicks_186 t_72.1 t_72.2 (fun v_73 ev_73 rv_73 => ?_)
                            replace h := h v_73 ev_73 rv_73
                            refine wa_if_lt C (tgt := 194) rv_73 dX12_clicks_187 (by decide) (fun c_74 => ?_) (fun c_74 => ?_)
                            · replace h := h.1 c_74
                              refine wa_iconst C (z := 0) dX12_clicks_194 rfl ?_
                              refine wa_sub C [0, 1, 2, 4] rfl ?_
                              exact k_62 0 (inR_k 0 rfl) h
                            · replace h := h.2 c_74
                              refine wa_sub C [0, 1, 2, 4] rfl ?_
                              exact k_68 h
                    refine wa_sub C [2, 3, 4, 1, 0] rfl ?_
                    exact k_31 n_28 0 0 (inR_k 0 rfl) (inR_k 0 rfl) h0Inv_27
              refine wa_sub C [1, 2, 0] rfl ?_
              exact k_22 n_19 0 0 (inR_k 0 rfl) (inR_k 0 rfl) h0Inv_18
            · replace h := h.2 c_17
              refine wa_iconst C (z := 0) dX12_clicks_43 rfl ?_
              refine wa_istore_n C dX12_clicks_44 rfl (by decide) rfl ?_
              refine wa_iconst C (z := 0) dX12_clicks_45 rfl ?_
              refine wa_istore_n C dX12_clicks_46 rfl (by decide) rfl ?_
              obtain ⟨Inv_75, ⟨n_76, h0Inv_75⟩, hInv_75⟩ := h
              have k_79 : ∀ (n_77 : Nat) (x2_80 : Int) (x3_81 : Int) (M_region_82 : Int → Int), inR x2_80 → inR x3_81 → Inv_75 n_77 x2_80 x3_81 M_region_82 → WA p l e ({ frames := 4, cells := 0, slots := 0, locals := 240 } : Room) s m args below meth c 0 0 Q K ad 6 A 47 [(0, .ref (ad 0)), (1, .int (iI 0)), (2, .int (iI x2_80)), (3, .int (iI x3_81))] [] (mW M_thrown M_w M_h M_cells M_shape M_isBoard M_isBlank M_lives M_moves M_parts M_numbers M_grade M_reasons M_total M_near M_degree M_mine M_state M_history M_oldLives M_safe M_mined M_used M_partOf M_placeOf M_partSize M_ways M_with M_masks M_rests M_bits M_reach M_more M_reason M_big M_region_82) := by
                intro n_77
                induction n_77 using Nat.strongRecOn with
                | ind n_77 ih_78 =>
                  intro x2_80 x3_81 M_region_82 rx2_80 rx3_81 h
                  replace h := hInv_75 n_77 x2_80 x3_81 M_region_82 rx2_80 rx3_81 h
                  refine wa_iload_n C 3 rfl dX12_clicks_47 rfl ?_
                  refine wa_aload_n C 0 rfl dX12_clicks_48 rfl ?_
                  refine wa_getI C 0 3 mW_0 rfl rfl (by decide) okX12 gw_1235 dX12_clicks_49 (fun r_83 => ?_)
                  refine wa_icmp_ge C (tgt := 135) rx3_81 r_8 dX12_clicks_52 (by decide) (fun c_84 => ?_) (fun c_84 => ?_)
                  · replace h := h.1 c_84
                    refine wa_goto C (tgt := 39) dX12_clicks_135 (by decide) ?_
                    obtain ⟨n_85, ln_85, h⟩ := h
                    refine wa_sub C [0, 1, 2] rfl ?_
                    exact ih_13 n_85 ln_85 x2_80 M_region_82 rx2_80 h
                  · replace h := h.2 c_84
                    refine wa_iconst C (z := 0) dX12_clicks_55 rfl ?_
                    refine wa_istore C dX12_clicks_56 (by decide) rfl ?_
                    obtain ⟨Inv_86, ⟨n_87, h0Inv_86⟩, hInv_86⟩ := h
                    have k_90 : ∀ (n_88 : Nat) (x2_91 : Int) (x4_92 : Int) (M_region_93 : Int → Int), inR x2_91 → inR x4_92 → Inv_86 n_88 x2_91 x4_92 M_region_93 → WA p l e ({ frames := 4, cells := 0, slots := 0, locals := 240 } : Room) s m args below meth c 0 0 Q K ad 6 A 58 [(0, .ref (ad 0)), (1, .int (iI 0)), (2, .int (iI x2_91)), (3, .int (iI x3_81)), (4, .int (iI x4_92))] [] (mW M_thrown M_w M_h M_cells M_shape M_isBoard M_isBlank M_lives M_moves M_parts M_numbers M_grade M_reasons M_total M_near M_degree M_mine M_state M_history M_oldLives M_safe M_mined M_used M_partOf M_placeOf M_partSize M_ways M_with M_masks M_rests M_bits M_reach M_more M_reason M_big M_region_93) := by
                      intro n_88
                      induction n_88 using Nat.strongRecOn with
                      | ind n_88 ih_89 =>
                        intro x2_91 x4_92 M_region_93 rx2_91 rx4_92 h
                        replace h := hInv_86 n_88 x2_91 x4_92 M_region_93 rx2_91 rx4_92 h
                        refine wa_iload C 4 rfl dX12_clicks_58 ?_
                        refine wa_aload_n C 0 rfl dX12_clicks_60 rfl ?_
                        refine wa_getR C 0 8 mW_0 rfl rfl (by decide) okX12 gw_1240 dX12_clicks_61 ?_
                        refine wa_iload_n C 3 rfl dX12_clicks_64 rfl ?_
                        obtain ⟨t_94, h⟩ := h
                        refine wa_iald C 2 mW_2 dX12_clicks_65 t_94.1 t_94.2 (fun v_95 ev_95 rv_95 => ?_)
                        replace h := h v_95 ev_95 rv_95
                        obtain ⟨J_96, h, hJ_96⟩ := h
                        have k_97 : J_96 → WA p l e ({ frames := 4, cells := 0, slots := 0, locals := 240 } : Room) s m args below meth c 0 0 Q K ad 6 A 129 [(0, .ref (ad 0)), (1, .int (iI 0)), (2, .int (iI x2_91)), (3, .int (iI x3_81))] [] (mW M_thrown M_w M_h M_cells M_shape M_isBoard M_isBlank M_lives M_moves M_parts M_numbers M_grade M_reasons M_total M_near M_degree M_mine M_state M_history M_oldLives M_safe M_mined M_used M_partOf M_placeOf M_partSize M_ways M_with M_masks M_rests M_bits M_reach M_more M_reason M_big M_region_93) := by
                          intro h
                          replace h := hJ_96 h
                          obtain ⟨r_98, h⟩ := h
                          refine wa_iinc C (lv' := fun w9 => [(3, .int (iI w9)), (0, .ref (ad 0)), (1, .int (iI 0)), (2, .int (iI x2_91))]) 3 rfl dX12_clicks_129 (by decide) (fun _ => rfl) (fun x3_99 ex3_99 => ?_)
                          replace h := h x3_99 ex3_99
                          have rx3_99 : inR x3_99 := by rw [ex3_99]; exact r_98
                          refine wa_goto C (tgt := 47) dX12_clicks_132 (by decide) ?_
                          obtain ⟨n_100, ln_100, h⟩ := h
                          refine wa_sub C [1, 2, 3, 0] rfl ?_
                          exact ih_78 n_100 ln_100 x2_91 x3_99 M_region_93 rx2_91 rx3_99 h
                        refine wa_icmp_ge C (tgt := 129) rx4_92 rv_95 dX12_clicks_66 (by decide) (fun c_101 => ?_) (fun c_101 => ?_)
                        · replace h := h.1 c_101
                          refine wa_sub C [0, 1, 2, 3] rfl ?_
                          exact k_97 h
                        · replace h := h.2 c_101
                          refine wa_aload_n C 0 rfl dX12_clicks_69 rfl ?_
                          refine wa_getR C 0 35 mW_0 rfl rfl (by decide) okX12 gw_1267 dX12_clicks_70 ?_
                          refine wa_iload_n C 3 rfl dX12_clicks_73 rfl ?_
                          obtain ⟨t_102, h⟩ := h
                          refine wa_iald C 22 mW_22 dX12_clicks_74 t_102.1 t_102.2 (fun v_103 ev_103 rv_103 => ?_)
                          replace h := h v_103 ev_103 rv_103
                          refine wa_if_lt C (tgt := 129) rv_103 dX12_clicks_75 (by decide) (fun c_104 => ?_) (fun c_104 => ?_)
                          · replace h := h.1 c_104
                            refine wa_sub C [0, 1, 2, 3] rfl ?_
                            exact k_97 h
                          · replace h := h.2 c_104
                            refine wa_aload_n C 0 rfl dX12_clicks_78 rfl ?_
                            refine wa_getR C 0 7 mW_0 rfl rfl (by decide) okX12 gw_1239 dX12_clicks_79 ?_
                            refine wa_bipush C (z := 8) dX12_clicks_82 (by decide) ?_
                            refine wa_iload_n C 3 rfl dX12_clicks_84 rfl ?_
                            refine wa_imul C dX12_clicks_85 ?_
                            refine wa_iload C 4 rfl dX12_clicks_86 ?_
                            refine wa_iadd C dX12_clicks_88 ?_
                            obtain ⟨t_105, h⟩ := h
                            refine wa_iald C 1 mW_1 dX12_clicks_89 t_105.1 t_105.2 (fun v_106 ev_106 rv_106 => ?_)
                            replace h := h v_106 ev_106 rv_106
                            refine wa_istore C dX12_clicks_90 (by decide) rfl ?_
                            refine wa_aload_n C 1 rfl dX12_clicks_92 rfl ?_
                            refine wa_getR C 0 35 mW_0 rfl rfl (by decide) okX12 gw_1267 dX12_clicks_93 ?_
                            refine wa_iload C 0 rfl dX12_clicks_96 ?_
                            obtain ⟨t_107, h⟩ := h
                            refine wa_iald C 22 mW_22 dX12_clicks_98 t_107.1 t_107.2 (fun v_108 ev_108 rv_108 => ?_)
                            replace h := h v_108 ev_108 rv_108
                            refine wa_aload_n C 1 rfl dX12_clicks_99 rfl ?_
                            refine wa_getR C 0 35 mW_0 rfl rfl (by decide) okX12 gw_1267 dX12_clicks_100 ?_
                            refine wa_iload_n C 4 rfl dX12_clicks_103 rfl ?_
                            obtain ⟨t_109, h⟩ := h
                            refine wa_iald C 22 mW_22 dX12_clicks_104 t_109.1 t_109.2 (fun v_110 ev_110 rv_110 => ?_)
                            replace h := h v_110 ev_110 rv_110
                            obtain ⟨J_111, h, hJ_111⟩ := h
                            have k_112 : ∀ (x2_113 : Int) (M_region_114 : Int → Int), inR x2_113 → J_111 x2_113 M_region_114 → WA p l e ({ frames := 4, cells := 0, slots := 0, locals := 240 } : Room) s m args below meth c 0 0 Q K ad 6 A 123 [(0, .ref (ad 0)), (1, .int (iI 0)), (2, .int (iI x2_113)), (3, .int (iI x3_81)), (4, .int (iI x4_92))] [] (mW M_thrown M_w M_h M_cells M_shape M_isBoard M_isBlank M_lives M_moves M_parts M_numbers M_grade M_reasons M_total M_near M_degree M_mine M_state M_history M_oldLives M_safe M_mined M_used M_partOf M_placeOf M_partSize M_ways M_with M_masks M_rests M_bits M_reach M_more M_reason M_big M_region_114) := by
                              intro x2_113 M_region_114 rx2_113 h
                              replace h := hJ_111 x2_113 M_region_114 rx2_113 h
                              obtain ⟨r_115, h⟩ := h
                              refine wa_iinc C (lv' := fun w9 => [(4, .int (iI w9)), (0, .ref (ad 0)), (1, .int (iI 0)), (2, .int (iI x2_113)), (3, .int (iI x3_81))]) 4 rfl dX12_clicks_123 (by decide) (fun _ => rfl) (fun x4_116 ex4_116 => ?_)
                              replace h := h x4_116 ex4_116
                              have rx4_116 : inR x4_116 := by rw [ex4_116]; exact r_115
                              refine wa_goto C (tgt := 58) dX12_clicks_126 (by decide) ?_
                              obtain ⟨n_117, ln_117, h⟩ := h
                              refine wa_sub C [1, 2, 3, 4, 0] rfl ?_
                              exact ih_89 n_117 ln_117 x2_113 x4_116 M_region_114 rx2_113 rx4_116 h
                            refine wa_icmp_le C (tgt := 123) rv_108 rv_110 dX12_clicks_105 (by decide) (fun c_118 => ?_) (fun c_118 => ?_)
                            · replace h := h.1 c_118
                              refine wa_sub C [1, 2, 3, 4, 5] rfl ?_
                              exact k_112 x2_91 M_region_93 rx2_91 h
                            · replace h := h.2 c_118
                              refine wa_aload_n C 1 rfl dX12_clicks_108 rfl ?_
                              refine wa_getR C 0 35 mW_0 rfl rfl (by decide) okX12 gw_1267 dX12_clicks_109 ?_
                              refine wa_iload C 0 rfl dX12_clicks_112 ?_
                              refine wa_aload_n C 1 rfl dX12_clicks_114 rfl ?_
                              refine wa_getR C 0 35 mW_0 rfl rfl (by decide) okX12 gw_1267 dX12_clicks_115 ?_
                              refine wa_iload_n C 4 rfl dX12_clicks_118 rfl ?_
                              obtain ⟨t_119, h⟩ := h
                              refine wa_iald C 22 mW_22 dX12_clicks_119 t_119.1 t_119.2 (fun v_120 ev_120 rv_120 => ?_)
                              replace h := h v_120 ev_120 rv_120
                              obtain ⟨t_121, h⟩ := h
                              refine wa_iast C (ws' := fun w9 => (mW M_thrown M_w M_h M_cells M_shape M_isBoard M_isBlank M_lives M_moves M_parts M_numbers M_grade M_reasons M_total M_near M_degree M_mine M_state M_history M_oldLives M_safe M_mined M_used M_partOf M_placeOf M_partSize M_ways M_with M_masks M_rests M_bits M_reach M_more M_reason M_big w9)) 22 mW_22 dX12_clicks_120 t_121.1 t_121.2 rv_120 mWs_22 (fun M_region_122 eM_region_122 => ?_)
                              replace h := h M_region_122 eM_region_122
                              refine wa_iconst C (z := 1) dX12_clicks_121 rfl ?_
                              refine wa_istore_n C dX12_clicks_122 rfl (by decide) rfl ?_
                              refine wa_sub C [2, 3, 0, 4, 5] rfl ?_
                              exact k_112 1 M_region_122 (inR_k 1 rfl) h
                    refine wa_sub C [1, 2, 3, 4, 0] rfl ?_
                    exact k_90 n_87 x2_80 0 M_region_82 rx2_80 (inR_k 0 rfl) h0Inv_86
              refine wa_sub C [2, 3, 1, 0] rfl ?_
              exact k_79 n_76 0 0 M_region_16 (inR_k 0 rfl) (inR_k 0 rfl) h0Inv_75
        refine wa_sub C [1, 2, 0] rfl ?_
        exact k_14 n_11 1 M_region_7 (inR_k 1 rfl) h0Inv_10
      · replace h := h.2 c_9
        refine wa_aload_n C 0 rfl dX12_clicks_12 rfl ?_
        refine wa_getR C 0 35 mW_0 rfl rfl (by decide) okX12 gw_1267 dX12_clicks_13 ?_
        refine wa_iload_n C 2 rfl dX12_clicks_16 rfl ?_
        refine wa_aload_n C 0 rfl dX12_clicks_17 rfl ?_
        refine wa_iload_n C 2 rfl dX12_clicks_18 rfl ?_
        refine wa_callVi C (k := 0) (As := [.int (iI x2_6)]) (rest := [.int (iI x2_6), .ref (ad 22)]) (c_X12_isQuiet l K ad x2_6 rx2_6 _ h) gw_1698 gw_1695 mW_0 rfl gw_1697 gs_118 gw_12 q_X12_isQuiet rfl rfl rfl ⟨by decide, by decide⟩ rfl (Nat.le_of_ble_eq_true rfl) dX12_clicks_19 (fun c_123 u9 rc_123 hp => ?_)
        obtain ⟨bc_123, rfl, h⟩ := hp
        replace h := h bc_123
        obtain ⟨J_124, h, hJ_124⟩ := h
        have k_125 : ∀ (z_126 : Int), inR z_126 → J_124 z_126 → WA p l e ({ frames := 4, cells := 0, slots := 0, locals := 240 } : Room) s m args below meth c 0 0 Q K ad 6 A 30 [(0, .ref (ad 0)), (1, .int (iI 0)), (2, .int (iI x2_6))] [.int (iI z_126), .int (iI x2_6), .ref (ad 22)] (mW M_thrown M_w M_h M_cells M_shape M_isBoard M_isBlank M_lives M_moves M_parts M_numbers M_grade M_reasons M_total M_near M_degree M_mine M_state M_history M_oldLives M_safe M_mined M_used M_partOf M_placeOf M_partSize M_ways M_with M_masks M_rests M_bits M_reach M_more M_reason M_big M_region_7) := by
          intro z_126 rz_126 h
          replace h := hJ_124 z_126 rz_126 h
          obtain ⟨t_127, h⟩ := h
          refine wa_iast C (ws' := fun w9 => (mW M_thrown M_w M_h M_cells M_shape M_isBoard M_isBlank M_lives M_moves M_parts M_numbers M_grade M_reasons M_total M_near M_degree M_mine M_state M_history M_oldLives M_safe M_mined M_used M_partOf M_placeOf M_partSize M_ways M_with M_masks M_rests M_bits M_reach M_more M_reason M_big w9)) 22 mW_22 dX12_clicks_30 t_127.1 t_127.2 rz_126 mWs_22 (fun M_region_128 eM_region_128 => ?_)
          replace h := h M_region_128 eM_region_128
          obtain ⟨r_129, h⟩ := h
          refine wa_iinc C (lv' := fun w9 => [(2, .int (iI w9)), (0, .ref (ad 0)), (1, .int (iI 0))]) 2 rfl dX12_clicks_31 (by decide) (fun _ => rfl) (fun x2_130 ex2_130 => ?_)
          replace h := h x2_130 ex2_130
          have rx2_130 : inR x2_130 := by rw [ex2_130]; exact r_129
          refine wa_goto C (tgt := 4) dX12_clicks_34 (by decide) ?_
          obtain ⟨n_131, ln_131, h⟩ := h
          refine wa_sub C [1, 2, 0] rfl ?_
          exact ih_4 n_131 ln_131 x2_130 M_region_128 rx2_130 h
        refine wa_if_eq C (tgt := 29) (inR_b bc_123) dX12_clicks_22 (by decide) (fun c_132 => ?_) (fun c_132 => ?_)
        · replace h := h.1 c_132
          refine wa_iconst C (z := -1) dX12_clicks_29 rfl ?_
          refine wa_sub C [0, 1, 2] rfl ?_
          exact k_125 (-1) (inR_k (-1) rfl) h
        · replace h := h.2 c_132
          refine wa_iload_n C 2 rfl dX12_clicks_25 rfl ?_
          refine wa_goto C (tgt := 30) dX12_clicks_26 (by decide) ?_
          refine wa_sub C [0, 1, 2] rfl ?_
          exact k_125 x2_6 rx2_6 h
  refine wa_sub C [2, 1, 0] rfl ?_
  exact k_5 n_2 0 M_region (inR_k 0 rfl) h0Inv_1
def P_X12_count (post : Int → (Int) → (Int → Int) → Prop) (M_thrown : Int) (M_w : Int) (M_h : Int) (M_cells : Int) (M_isBoard : Int) (M_lives : Int) (M_moves : Int) (M_near : Int → Int) (M_degree : Int → Int) (M_mine : Int → Int) (M_state : Int → Int) (M_region : Int → Int) (x1 : Int) : Prop :=
  (¬ M_isBoard = 0 → (P_X12_within (fun (c_3 : Int) => (c_3 = 0 ∨ c_3 = 1) → ((¬ c_3 = 0 → ((3 ≤ x1 → ((6 ≤ x1 → (∃ J_7 : (Int → Int) → (Int) → Prop, ((¬ x1 = 6 → ((¬ x1 = 7 → (P_X12_clicks (fun (c_13 : Int) (M_region_14 : Int → Int) => inR c_13 → (J_7 M_region_14 c_13)) M_cells M_near M_degree M_mine M_state M_region )) ∧ (x1 = 7 → (P_X12_isSolved (fun (c_15 : Int) => (c_15 = 0 ∨ c_15 = 1) → ((c_15 = 0 → (J_7 M_region 0)) ∧ (¬ c_15 = 0 → (J_7 M_region 1)))) M_cells M_mine M_state )))) ∧ (x1 = 6 → (J_7 M_region M_moves))) ∧ (∀ (M_region_9 : Int → Int) (z_10 : Int), inR z_10 → J_7 M_region_9 z_10 → (post z_10 0 M_region_9)))) ∧ (¬ 6 ≤ x1 → (∃ J_18 : (Int) → Prop, ((¬ x1 = 3 → ((¬ x1 = 4 → (J_18 M_lives)) ∧ (x1 = 4 → (P_X12_many (fun (c_24 : Int) => inR c_24 → (J_18 c_24)) M_cells M_state 2)))) ∧ (x1 = 3 → (P_X12_many (fun (c_25 : Int) => inR c_25 → (J_18 c_25)) M_cells M_state 1))) ∧ (∀ (z_20 : Int), inR z_20 → J_18 z_20 → (post z_20 0 M_region)))))) ∧ (¬ 3 ≤ x1 → (∃ J_26 : (Int) → Prop, ((¬ x1 = 0 → ((¬ x1 = 1 → (P_X12_mines (fun (c_31 : Int) => inR c_31 → (J_26 c_31)) M_cells M_mine )) ∧ (x1 = 1 → (J_26 M_w)))) ∧ (x1 = 0 → (J_26 M_h))) ∧ (∀ (z_28 : Int), inR z_28 → J_26 z_28 → (post z_28 0 M_region)))))) ∧ (c_3 = 0 → (P_X12_fail (fun (c_34 : Int) (M_thrown_35 : Int) => inR c_34 → (post c_34 M_thrown_35 M_region)) 0 2))))  x1 0 8)) ∧ (M_isBoard = 0 → (P_X12_fail (fun (c_36 : Int) (M_thrown_37 : Int) => inR c_36 → (post c_36 M_thrown_37 M_region)) 0 1))
set_option maxRecDepth 100000 in
set_option maxHeartbeats 4000000 in
theorem c_X12_count (l : Launch) (K : wK) (ad : Nat → Nat) {M_thrown : Int} {M_w : Int} {M_h : Int} {M_cells : Int} {M_shape : Int} {M_isBoard : Int} {M_isBlank : Int} {M_lives : Int} {M_moves : Int} {M_parts : Int} {M_numbers : Int} {M_grade : Int} {M_reasons : Int} {M_total : Int} {M_near : Int → Int} {M_degree : Int → Int} {M_mine : Int → Int} {M_state : Int → Int} {M_history : Int → Int64} {M_oldLives : Int → Int} {M_safe : Int → Int} {M_mined : Int → Int} {M_used : Int → Int} {M_partOf : Int → Int} {M_placeOf : Int → Int} {M_partSize : Int → Int} {M_ways : Int → Int} {M_with : Int → Int} {M_masks : Int → Int} {M_rests : Int → Int} {M_bits : Int → Int} {M_reach : Int → Int} {M_more : Int → Int} {M_reason : Int → Int} {M_big : Int → Int64} {M_region : Int → Int} (x1 : Int) (rx1 : inR x1) (post : Int → (Int) → (Int → Int) → Prop) (h : P_X12_count post M_thrown M_w M_h M_cells M_isBoard M_lives M_moves M_near M_degree M_mine M_state M_region x1) : mI l yX12_count (Cond.code yX12_count cX12_count 2 (some .int) :: GT) ({ frames := 5, cells := 0, slots := 0, locals := 300 } : Room) [.ref (ad 0), .int (iI x1)] K ad (mW M_thrown M_w M_h M_cells M_shape M_isBoard M_isBlank M_lives M_moves M_parts M_numbers M_grade M_reasons M_total M_near M_degree M_mine M_state M_history M_oldLives M_safe M_mined M_used M_partOf M_placeOf M_partSize M_ways M_with M_masks M_rests M_bits M_reach M_more M_reason M_big M_region) (fun z9 u9 => ∃ M_thrown9 M_region9, u9 = (mW M_thrown9 M_w M_h M_cells M_shape M_isBoard M_isBlank M_lives M_moves M_parts M_numbers M_grade M_reasons M_total M_near M_degree M_mine M_state M_history M_oldLives M_safe M_mined M_used M_partOf M_placeOf M_partSize M_ways M_with M_masks M_rests M_bits M_reach M_more M_reason M_big M_region9) ∧ post z9 M_thrown9 M_region9) := by
  refine mI_of (lv0 := [(0, .ref (ad 0)), (1, .int (iI x1))]) (by decide) (Nat.le_of_ble_eq_true rfl) rfl ?_
  intro p e s m args below meth c Q A C ret
  replace C : Cx p ({ frames := 5, cells := 0, slots := 0, locals := 300 } : Room) m c 0 0 cX12_count 2 s args RX12 K A := C
  unfold P_X12_count at h
  refine wa_aload_n C 0 rfl dX12_count_0 rfl ?_
  refine wa_iconst C (z := 0) dX12_count_1 rfl ?_
  refine wa_putI C (ws' := (mW 0 M_w M_h M_cells M_shape M_isBoard M_isBlank M_lives M_moves M_parts M_numbers M_grade M_reasons M_total M_near M_degree M_mine M_state M_history M_oldLives M_safe M_mined M_used M_partOf M_placeOf M_partSize M_ways M_with M_masks M_rests M_bits M_reach M_more M_reason M_big M_region)) 0 0 mW_0 rfl (by decide) okX12 gw_1232 rfl rfl (Nat.le_of_ble_eq_true rfl) (inR_k 0 rfl) (mWp_0_0 _) dX12_count_2 ?_
  refine wa_aload_n C 0 rfl dX12_count_5 rfl ?_
  refine wa_getZ C 0 5 mW_0 rfl rfl (by decide) okX12 gw_1237 dX12_count_6 (fun r_1 => ?_)
  refine wa_if_ne C (tgt := 18) (inR_b r_1) dX12_count_9 (by decide) (fun c_2 => ?_) (fun c_2 => ?_)
  · replace h := h.1 c_2
    refine wa_iload_n C 1 rfl dX12_count_18 rfl ?_
    refine wa_iconst C (z := 0) dX12_count_19 rfl ?_
    refine wa_bipush C (z := 8) dX12_count_20 (by decide) ?_
    refine wa_callSi C (As := [.int (iI x1), .int (iI 0), .int (iI 8)]) (rest := []) (c_X12_within l K ad x1 0 8 rx1 (inR_k 0 rfl) (inR_k 8 rfl) _ h) gw_1354 gw_1352 gw_1353 gw_12 q_X12_within rfl rfl rfl ⟨by decide, by decide⟩ rfl (Nat.le_of_ble_eq_true rfl) dX12_count_22 (fun c_3 u9 rc_3 hp => ?_)
    obtain ⟨bc_3, rfl, h⟩ := hp
    replace h := h bc_3
    refine wa_if_ne C (tgt := 34) (inR_b bc_3) dX12_count_25 (by decide) (fun c_4 => ?_) (fun c_4 => ?_)
    · replace h := h.1 c_4
      refine wa_iload_n C 1 rfl dX12_count_34 rfl ?_
      refine wa_iconst C (z := 3) dX12_count_35 rfl ?_
      refine wa_icmp_ge C (tgt := 67) rx1 (inR_k 3 rfl) dX12_count_36 (by decide) (fun c_5 => ?_) (fun c_5 => ?_)
      · replace h := h.1 c_5
        refine wa_iload_n C 1 rfl dX12_count_67 rfl ?_
        refine wa_bipush C (z := 6) dX12_count_68 (by decide) ?_
        refine wa_icmp_ge C (tgt := 104) rx1 (inR_k 6 rfl) dX12_count_70 (by decide) (fun c_6 => ?_) (fun c_6 => ?_)
        · replace h := h.1 c_6
          refine wa_iload_n C 1 rfl dX12_count_104 rfl ?_
          refine wa_bipush C (z := 6) dX12_count_105 (by decide) ?_
          obtain ⟨J_7, h, hJ_7⟩ := h
          have k_8 : ∀ (M_region_9 : Int → Int) (z_10 : Int), inR z_10 → J_7 M_region_9 z_10 → WA p l e ({ frames := 5, cells := 0, slots := 0, locals := 300 } : Room) s m args below meth c 0 0 Q K ad 2 A 142 [] [.int (iI z_10)] (mW 0 M_w M_h M_cells M_shape M_isBoard M_isBlank M_lives M_moves M_parts M_numbers M_grade M_reasons M_total M_near M_degree M_mine M_state M_history M_oldLives M_safe M_mined M_used M_partOf M_placeOf M_partSize M_ways M_with M_masks M_rests M_bits M_reach M_more M_reason M_big M_region_9) := by
            intro M_region_9 z_10 rz_10 h
            replace h := hJ_7 M_region_9 z_10 rz_10 h
            exact ret dX12_count_142 rz_10 ⟨_, _, rfl, h⟩
          refine wa_icmp_ne C (tgt := 117) rx1 (inR_k 6 rfl) dX12_count_107 (by decide) (fun c_11 => ?_) (fun c_11 => ?_)
          · replace h := h.1 c_11
            refine wa_iload_n C 1 rfl dX12_count_117 rfl ?_
            refine wa_bipush C (z := 7) dX12_count_118 (by decide) ?_
            refine wa_icmp_ne C (tgt := 138) rx1 (inR_k 7 rfl) dX12_count_120 (by decide) (fun c_12 => ?_) (fun c_12 => ?_)
            · replace h := h.1 c_12
              refine wa_aload_n C 0 rfl dX12_count_138 rfl ?_
              refine wa_callVi C (k := 0) (As := []) (rest := []) (c_X12_clicks l K ad  _ h) gw_1694 gw_1691 mW_0 rfl gw_1693 gs_117 gw_12 q_X12_clicks rfl rfl rfl ⟨by decide, by decide⟩ rfl (Nat.le_of_ble_eq_true rfl) dX12_count_139 (fun c_13 u9 rc_13 hp => ?_)
              obtain ⟨M_region_14, rfl, h⟩ := hp
              replace h := h rc_13
              refine wa_sub C [] rfl ?_
              exact k_8 M_region_14 c_13 rc_13 h
            · replace h := h.2 c_12
              refine wa_aload_n C 0 rfl dX12_count_123 rfl ?_
              refine wa_callVi C (k := 0) (As := []) (rest := []) (c_X12_isSolved l K ad  _ h) gw_1519 gw_1516 mW_0 rfl gw_1518 gs_90 gw_12 q_X12_isSolved rfl rfl rfl ⟨by decide, by decide⟩ rfl (Nat.le_of_ble_eq_true rfl) dX12_count_124 (fun c_15 u9 rc_15 hp => ?_)
              obtain ⟨bc_15, rfl, h⟩ := hp
              replace h := h bc_15
              refine wa_if_eq C (tgt := 134) (inR_b bc_15) dX12_count_127 (by decide) (fun c_16 => ?_) (fun c_16 => ?_)
              · replace h := h.1 c_16
                refine wa_iconst C (z := 0) dX12_count_134 rfl ?_
                refine wa_goto C (tgt := 142) dX12_count_135 (by decide) ?_
                refine wa_sub C [] rfl ?_
                exact k_8 M_region 0 (inR_k 0 rfl) h
              · replace h := h.2 c_16
                refine wa_iconst C (z := 1) dX12_count_130 rfl ?_
                refine wa_goto C (tgt := 142) dX12_count_131 (by decide) ?_
                refine wa_sub C [] rfl ?_
                exact k_8 M_region 1 (inR_k 1 rfl) h
          · replace h := h.2 c_11
            refine wa_aload_n C 0 rfl dX12_count_110 rfl ?_
            refine wa_getI C 0 12 mW_0 rfl rfl (by decide) okX12 gw_1244 dX12_count_111 (fun r_17 => ?_)
            refine wa_goto C (tgt := 142) dX12_count_114 (by decide) ?_
            refine wa_sub C [] rfl ?_
            exact k_8 M_region M_moves r_17 h
        · replace h := h.2 c_6
          refine wa_iload_n C 1 rfl dX12_count_73 rfl ?_
          refine wa_iconst C (z := 3) dX12_count_74 rfl ?_
          obtain ⟨J_18, h, hJ_18⟩ := h
          have k_19 : ∀ (z_20 : Int), inR z_20 → J_18 z_20 → WA p l e ({ frames := 5, cells := 0, slots := 0, locals := 300 } : Room) s m args below meth c 0 0 Q K ad 2 A 103 [] [.int (iI z_20)] (mW 0 M_w M_h M_cells M_shape M_isBoard M_isBlank M_lives M_moves M_parts M_numbers M_grade M_reasons M_total M_near M_degree M_mine M_state M_history M_oldLives M_safe M_mined M_used M_partOf M_placeOf M_partSize M_ways M_with M_masks M_rests M_bits M_reach M_more M_reason M_big M_region) := by
            intro z_20 rz_20 h
            replace h := hJ_18 z_20 rz_20 h
            exact ret dX12_count_103 rz_20 ⟨_, _, rfl, h⟩
          refine wa_icmp_ne C (tgt := 86) rx1 (inR_k 3 rfl) dX12_count_75 (by decide) (fun c_21 => ?_) (fun c_21 => ?_)
          · replace h := h.1 c_21
            refine wa_iload_n C 1 rfl dX12_count_86 rfl ?_
            refine wa_iconst C (z := 4) dX12_count_87 rfl ?_
            refine wa_icmp_ne C (tgt := 99) rx1 (inR_k 4 rfl) dX12_count_88 (by decide) (fun c_22 => ?_) (fun c_22 => ?_)
            · replace h := h.1 c_22
              refine wa_aload_n C 0 rfl dX12_count_99 rfl ?_
              refine wa_getI C 0 11 mW_0 rfl rfl (by decide) okX12 gw_1243 dX12_count_100 (fun r_23 => ?_)
              refine wa_sub C [] rfl ?_
              exact k_19 M_lives r_23 h
            · replace h := h.2 c_22
              refine wa_aload_n C 0 rfl dX12_count_91 rfl ?_
              refine wa_iconst C (z := 2) dX12_count_92 rfl ?_
              refine wa_callVi C (k := 0) (As := [.int (iI 2)]) (rest := []) (c_X12_many l K ad 2 (inR_k 2 rfl) _ h) gw_1507 gw_1504 mW_0 rfl gw_1506 gs_87 gw_12 q_X12_many rfl rfl rfl ⟨by decide, by decide⟩ rfl (Nat.le_of_ble_eq_true rfl) dX12_count_93 (fun c_24 u9 rc_24 hp => ?_)
              obtain ⟨rfl, h⟩ := hp
              replace h := h rc_24
              refine wa_goto C (tgt := 103) dX12_count_96 (by decide) ?_
              refine wa_sub C [] rfl ?_
              exact k_19 c_24 rc_24 h
          · replace h := h.2 c_21
            refine wa_aload_n C 0 rfl dX12_count_78 rfl ?_
            refine wa_iconst C (z := 1) dX12_count_79 rfl ?_
            refine wa_callVi C (k := 0) (As := [.int (iI 1)]) (rest := []) (c_X12_many l K ad 1 (inR_k 1 rfl) _ h) gw_1507 gw_1504 mW_0 rfl gw_1506 gs_87 gw_12 q_X12_many rfl rfl rfl ⟨by decide, by decide⟩ rfl (Nat.le_of_ble_eq_true rfl) dX12_count_80 (fun c_25 u9 rc_25 hp => ?_)
            obtain ⟨rfl, h⟩ := hp
            replace h := h rc_25
            refine wa_goto C (tgt := 103) dX12_count_83 (by decide) ?_
            refine wa_sub C [] rfl ?_
            exact k_19 c_25 rc_25 h
      · replace h := h.2 c_5
        refine wa_iload_n C 1 rfl dX12_count_39 rfl ?_
        obtain ⟨J_26, h, hJ_26⟩ := h
        have k_27 : ∀ (z_28 : Int), inR z_28 → J_26 z_28 → WA p l e ({ frames := 5, cells := 0, slots := 0, locals := 300 } : Room) s m args below meth c 0 0 Q K ad 2 A 66 [] [.int (iI z_28)] (mW 0 M_w M_h M_cells M_shape M_isBoard M_isBlank M_lives M_moves M_parts M_numbers M_grade M_reasons M_total M_near M_degree M_mine M_state M_history M_oldLives M_safe M_mined M_used M_partOf M_placeOf M_partSize M_ways M_with M_masks M_rests M_bits M_reach M_more M_reason M_big M_region) := by
          intro z_28 rz_28 h
          replace h := hJ_26 z_28 rz_28 h
          exact ret dX12_count_66 rz_28 ⟨_, _, rfl, h⟩
        refine wa_if_ne C (tgt := 50) rx1 dX12_count_40 (by decide) (fun c_29 => ?_) (fun c_29 => ?_)
        · replace h := h.1 c_29
          refine wa_iload_n C 1 rfl dX12_count_50 rfl ?_
          refine wa_iconst C (z := 1) dX12_count_51 rfl ?_
          refine wa_icmp_ne C (tgt := 62) rx1 (inR_k 1 rfl) dX12_count_52 (by decide) (fun c_30 => ?_) (fun c_30 => ?_)
          · replace h := h.1 c_30
            refine wa_aload_n C 0 rfl dX12_count_62 rfl ?_
            refine wa_callVi C (k := 0) (As := []) (rest := []) (c_X12_mines l K ad  _ h) gw_1503 gw_1500 mW_0 rfl gw_1502 gs_86 gw_12 q_X12_mines rfl rfl rfl ⟨by decide, by decide⟩ rfl (Nat.le_of_ble_eq_true rfl) dX12_count_63 (fun c_31 u9 rc_31 hp => ?_)
            obtain ⟨rfl, h⟩ := hp
            replace h := h rc_31
            refine wa_sub C [] rfl ?_
            exact k_27 c_31 rc_31 h
          · replace h := h.2 c_30
            refine wa_aload_n C 0 rfl dX12_count_55 rfl ?_
            refine wa_getI C 0 1 mW_0 rfl rfl (by decide) okX12 gw_1233 dX12_count_56 (fun r_32 => ?_)
            refine wa_goto C (tgt := 66) dX12_count_59 (by decide) ?_
            refine wa_sub C [] rfl ?_
            exact k_27 M_w r_32 h
        · replace h := h.2 c_29
          refine wa_aload_n C 0 rfl dX12_count_43 rfl ?_
          refine wa_getI C 0 2 mW_0 rfl rfl (by decide) okX12 gw_1234 dX12_count_44 (fun r_33 => ?_)
          refine wa_goto C (tgt := 66) dX12_count_47 (by decide) ?_
          refine wa_sub C [] rfl ?_
          exact k_27 M_h r_33 h
    · replace h := h.2 c_4
      refine wa_aload_n C 0 rfl dX12_count_28 rfl ?_
      refine wa_iconst C (z := 2) dX12_count_29 rfl ?_
      refine wa_callVi C (k := 0) (As := [.int (iI 2)]) (rest := []) (c_X12_fail l K ad 2 (inR_k 2 rfl) _ h) gw_1365 gw_1362 mW_0 rfl gw_1364 gs_52 gw_12 q_X12_fail rfl rfl rfl ⟨by decide, by decide⟩ rfl (Nat.le_of_ble_eq_true rfl) dX12_count_30 (fun c_34 u9 rc_34 hp => ?_)
      obtain ⟨M_thrown_35, rfl, h⟩ := hp
      replace h := h rc_34
      exact ret dX12_count_33 rc_34 ⟨_, _, rfl, h⟩
  · replace h := h.2 c_2
    refine wa_aload_n C 0 rfl dX12_count_12 rfl ?_
    refine wa_iconst C (z := 1) dX12_count_13 rfl ?_
    refine wa_callVi C (k := 0) (As := [.int (iI 1)]) (rest := []) (c_X12_fail l K ad 1 (inR_k 1 rfl) _ h) gw_1365 gw_1362 mW_0 rfl gw_1364 gs_52 gw_12 q_X12_fail rfl rfl rfl ⟨by decide, by decide⟩ rfl (Nat.le_of_ble_eq_true rfl) dX12_count_14 (fun c_36 u9 rc_36 hp => ?_)
    obtain ⟨M_thrown_37, rfl, h⟩ := hp
    replace h := h rc_36
    exact ret dX12_count_17 rc_36 ⟨_, _, rfl, h⟩
