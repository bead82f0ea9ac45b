theorem dX7_isTelling_0 : decode cX7_isTelling 0 = .ok (.aload_n 0, 1) := by decide +kernel
theorem dX7_isTelling_1 : decode cX7_isTelling 1 = .ok (.getfield 36, 3) := by decide +kernel
theorem dX7_isTelling_4 : decode cX7_isTelling 4 = .ok (.getfield 89, 3) := by decide +kernel
theorem dX7_isTelling_7 : decode cX7_isTelling 7 = .ok (.iload_n 1, 1) := by decide +kernel
theorem dX7_isTelling_8 : decode cX7_isTelling 8 = .ok (.iaload, 1) := by decide +kernel
theorem dX7_isTelling_9 : decode cX7_isTelling 9 = .ok (.iconst 2, 1) := by decide +kernel
theorem dX7_isTelling_10 : decode cX7_isTelling 10 = .ok (.if_icmp .ne 16, 3) := by decide +kernel
theorem dX7_isTelling_13 : decode cX7_isTelling 13 = .ok (.aload_n 0, 1) := by decide +kernel
theorem dX7_isTelling_14 : decode cX7_isTelling 14 = .ok (.getfield 17, 3) := by decide +kernel
theorem dX7_isTelling_17 : decode cX7_isTelling 17 = .ok (.iload_n 1, 1) := by decide +kernel
theorem dX7_isTelling_18 : decode cX7_isTelling 18 = .ok (.iaload, 1) := by decide +kernel
theorem dX7_isTelling_19 : decode cX7_isTelling 19 = .ok (.ifCond .le 7, 3) := by decide +kernel
theorem dX7_isTelling_22 : decode cX7_isTelling 22 = .ok (.iconst 1, 1) := by decide +kernel
theorem dX7_isTelling_23 : decode cX7_isTelling 23 = .ok (.goto 4, 3) := by decide +kernel
theorem dX7_isTelling_26 : decode cX7_isTelling 26 = .ok (.iconst 0, 1) := by decide +kernel
theorem dX7_isTelling_27 : decode cX7_isTelling 27 = .ok (.ireturn, 1) := by decide +kernel
theorem dX7_meetNumbersAround_0 : decode cX7_meetNumbersAround 0 = .ok (.iload_n 1, 1) := by decide +kernel
theorem dX7_meetNumbersAround_1 : decode cX7_meetNumbersAround 1 = .ok (.bipush 8, 2) := by decide +kernel
theorem dX7_meetNumbersAround_3 : decode cX7_meetNumbersAround 3 = .ok (.imul, 1) := by decide +kernel
theorem dX7_meetNumbersAround_4 : decode cX7_meetNumbersAround 4 = .ok (.istore_n 3, 1) := by decide +kernel
theorem dX7_meetNumbersAround_5 : decode cX7_meetNumbersAround 5 = .ok (.iload_n 3, 1) := by decide +kernel
theorem dX7_meetNumbersAround_6 : decode cX7_meetNumbersAround 6 = .ok (.aload_n 0, 1) := by decide +kernel
theorem dX7_meetNumbersAround_7 : decode cX7_meetNumbersAround 7 = .ok (.getfield 46, 3) := by decide +kernel
theorem dX7_meetNumbersAround_10 : decode cX7_meetNumbersAround 10 = .ok (.getfield 110, 3) := by decide +kernel
theorem dX7_meetNumbersAround_13 : decode cX7_meetNumbersAround 13 = .ok (.iload_n 1, 1) := by decide +kernel
theorem dX7_meetNumbersAround_14 : decode cX7_meetNumbersAround 14 = .ok (.iaload, 1) := by decide +kernel
theorem dX7_meetNumbersAround_15 : decode cX7_meetNumbersAround 15 = .ok (.if_icmp .ge 95, 3) := by decide +kernel
theorem dX7_meetNumbersAround_18 : decode cX7_meetNumbersAround 18 = .ok (.aload_n 0, 1) := by decide +kernel
theorem dX7_meetNumbersAround_19 : decode cX7_meetNumbersAround 19 = .ok (.getfield 46, 3) := by decide +kernel
theorem dX7_meetNumbersAround_22 : decode cX7_meetNumbersAround 22 = .ok (.getfield 113, 3) := by decide +kernel
theorem dX7_meetNumbersAround_25 : decode cX7_meetNumbersAround 25 = .ok (.iload_n 3, 1) := by decide +kernel
theorem dX7_meetNumbersAround_26 : decode cX7_meetNumbersAround 26 = .ok (.iaload, 1) := by decide +kernel
theorem dX7_meetNumbersAround_27 : decode cX7_meetNumbersAround 27 = .ok (.istore 4, 2) := by decide +kernel
theorem dX7_meetNumbersAround_29 : decode cX7_meetNumbersAround 29 = .ok (.iload 4, 2) := by decide +kernel
theorem dX7_meetNumbersAround_31 : decode cX7_meetNumbersAround 31 = .ok (.iload_n 2, 1) := by decide +kernel
theorem dX7_meetNumbersAround_32 : decode cX7_meetNumbersAround 32 = .ok (.if_icmp .eq 72, 3) := by decide +kernel
theorem dX7_meetNumbersAround_35 : decode cX7_meetNumbersAround 35 = .ok (.aload_n 0, 1) := by decide +kernel
theorem dX7_meetNumbersAround_36 : decode cX7_meetNumbersAround 36 = .ok (.getfield 36, 3) := by decide +kernel
theorem dX7_meetNumbersAround_39 : decode cX7_meetNumbersAround 39 = .ok (.getfield 89, 3) := by decide +kernel
theorem dX7_meetNumbersAround_42 : decode cX7_meetNumbersAround 42 = .ok (.iload 4, 2) := by decide +kernel
theorem dX7_meetNumbersAround_44 : decode cX7_meetNumbersAround 44 = .ok (.iaload, 1) := by decide +kernel
theorem dX7_meetNumbersAround_45 : decode cX7_meetNumbersAround 45 = .ok (.iconst 2, 1) := by decide +kernel
theorem dX7_meetNumbersAround_46 : decode cX7_meetNumbersAround 46 = .ok (.if_icmp .eq 6, 3) := by decide +kernel
theorem dX7_meetNumbersAround_49 : decode cX7_meetNumbersAround 49 = .ok (.goto 55, 3) := by decide +kernel
theorem dX7_meetNumbersAround_52 : decode cX7_meetNumbersAround 52 = .ok (.aload_n 0, 1) := by decide +kernel
theorem dX7_meetNumbersAround_53 : decode cX7_meetNumbersAround 53 = .ok (.getfield 30, 3) := by decide +kernel
theorem dX7_meetNumbersAround_56 : decode cX7_meetNumbersAround 56 = .ok (.iload 4, 2) := by decide +kernel
theorem dX7_meetNumbersAround_58 : decode cX7_meetNumbersAround 58 = .ok (.iaload, 1) := by decide +kernel
theorem dX7_meetNumbersAround_59 : decode cX7_meetNumbersAround 59 = .ok (.ifCond .ne 34, 3) := by decide +kernel
theorem dX7_meetNumbersAround_62 : decode cX7_meetNumbersAround 62 = .ok (.aload_n 0, 1) := by decide +kernel
theorem dX7_meetNumbersAround_63 : decode cX7_meetNumbersAround 63 = .ok (.getfield 103, 3) := by decide +kernel
theorem dX7_meetNumbersAround_66 : decode cX7_meetNumbersAround 66 = .ok (.sipush 144, 3) := by decide +kernel
theorem dX7_meetNumbersAround_69 : decode cX7_meetNumbersAround 69 = .ok (.if_icmp .ge 24, 3) := by decide +kernel
theorem dX7_meetNumbersAround_72 : decode cX7_meetNumbersAround 72 = .ok (.aload_n 0, 1) := by decide +kernel
theorem dX7_meetNumbersAround_73 : decode cX7_meetNumbersAround 73 = .ok (.getfield 33, 3) := by decide +kernel
theorem dX7_meetNumbersAround_76 : decode cX7_meetNumbersAround 76 = .ok (.aload_n 0, 1) := by decide +kernel
theorem dX7_meetNumbersAround_77 : decode cX7_meetNumbersAround 77 = .ok (.getfield 103, 3) := by decide +kernel
theorem dX7_meetNumbersAround_80 : decode cX7_meetNumbersAround 80 = .ok (.iload 4, 2) := by decide +kernel
theorem dX7_meetNumbersAround_82 : decode cX7_meetNumbersAround 82 = .ok (.iastore, 1) := by decide +kernel
theorem dX7_meetNumbersAround_83 : decode cX7_meetNumbersAround 83 = .ok (.aload_n 0, 1) := by decide +kernel
theorem dX7_meetNumbersAround_84 : decode cX7_meetNumbersAround 84 = .ok (.dup, 1) := by decide +kernel
theorem dX7_meetNumbersAround_85 : decode cX7_meetNumbersAround 85 = .ok (.getfield 103, 3) := by decide +kernel
theorem dX7_meetNumbersAround_88 : decode cX7_meetNumbersAround 88 = .ok (.iconst 1, 1) := by decide +kernel
theorem dX7_meetNumbersAround_89 : decode cX7_meetNumbersAround 89 = .ok (.iadd, 1) := by decide +kernel
theorem dX7_meetNumbersAround_90 : decode cX7_meetNumbersAround 90 = .ok (.putfield 103, 3) := by decide +kernel
theorem dX7_meetNumbersAround_93 : decode cX7_meetNumbersAround 93 = .ok (.aload_n 0, 1) := by decide +kernel
theorem dX7_meetNumbersAround_94 : decode cX7_meetNumbersAround 94 = .ok (.getfield 30, 3) := by decide +kernel
theorem dX7_meetNumbersAround_97 : decode cX7_meetNumbersAround 97 = .ok (.iload 4, 2) := by decide +kernel
theorem dX7_meetNumbersAround_99 : decode cX7_meetNumbersAround 99 = .ok (.dup2, 1) := by decide +kernel
theorem dX7_meetNumbersAround_100 : decode cX7_meetNumbersAround 100 = .ok (.iaload, 1) := by decide +kernel
theorem dX7_meetNumbersAround_101 : decode cX7_meetNumbersAround 101 = .ok (.iconst 1, 1) := by decide +kernel
theorem dX7_meetNumbersAround_102 : decode cX7_meetNumbersAround 102 = .ok (.iadd, 1) := by decide +kernel
theorem dX7_meetNumbersAround_103 : decode cX7_meetNumbersAround 103 = .ok (.iastore, 1) := by decide +kernel
theorem dX7_meetNumbersAround_104 : decode cX7_meetNumbersAround 104 = .ok (.iinc 3 1, 3) := by decide +kernel
theorem dX7_meetNumbersAround_107 : decode cX7_meetNumbersAround 107 = .ok (.goto (-102), 3) := by decide +kernel
theorem dX7_meetNumbersAround_110 : decode cX7_meetNumbersAround 110 = .ok (.return_, 1) := by decide +kernel
theorem dX7_countCommonEnds_0 : decode cX7_countCommonEnds 0 = .ok (.aload_n 0, 1) := by decide +kernel
theorem dX7_countCommonEnds_1 : decode cX7_countCommonEnds 1 = .ok (.iconst 0, 1) := by decide +kernel
theorem dX7_countCommonEnds_2 : decode cX7_countCommonEnds 2 = .ok (.putfield 103, 3) := by decide +kernel
theorem dX7_countCommonEnds_5 : decode cX7_countCommonEnds 5 = .ok (.iload_n 1, 1) := by decide +kernel
theorem dX7_countCommonEnds_6 : decode cX7_countCommonEnds 6 = .ok (.bipush 8, 2) := by decide +kernel
theorem dX7_countCommonEnds_8 : decode cX7_countCommonEnds 8 = .ok (.imul, 1) := by decide +kernel
theorem dX7_countCommonEnds_9 : decode cX7_countCommonEnds 9 = .ok (.istore_n 2, 1) := by decide +kernel
theorem dX7_countCommonEnds_10 : decode cX7_countCommonEnds 10 = .ok (.iload_n 2, 1) := by decide +kernel
theorem dX7_countCommonEnds_11 : decode cX7_countCommonEnds 11 = .ok (.aload_n 0, 1) := by decide +kernel
theorem dX7_countCommonEnds_12 : decode cX7_countCommonEnds 12 = .ok (.getfield 46, 3) := by decide +kernel
theorem dX7_countCommonEnds_15 : decode cX7_countCommonEnds 15 = .ok (.getfield 110, 3) := by decide +kernel
theorem dX7_countCommonEnds_18 : decode cX7_countCommonEnds 18 = .ok (.iload_n 1, 1) := by decide +kernel
theorem dX7_countCommonEnds_19 : decode cX7_countCommonEnds 19 = .ok (.iaload, 1) := by decide +kernel
theorem dX7_countCommonEnds_20 : decode cX7_countCommonEnds 20 = .ok (.if_icmp .ge 40, 3) := by decide +kernel
theorem dX7_countCommonEnds_23 : decode cX7_countCommonEnds 23 = .ok (.aload_n 0, 1) := by decide +kernel
theorem dX7_countCommonEnds_24 : decode cX7_countCommonEnds 24 = .ok (.getfield 11, 3) := by decide +kernel
theorem dX7_countCommonEnds_27 : decode cX7_countCommonEnds 27 = .ok (.aload_n 0, 1) := by decide +kernel
theorem dX7_countCommonEnds_28 : decode cX7_countCommonEnds 28 = .ok (.getfield 46, 3) := by decide +kernel
theorem dX7_countCommonEnds_31 : decode cX7_countCommonEnds 31 = .ok (.getfield 113, 3) := by decide +kernel
theorem dX7_countCommonEnds_34 : decode cX7_countCommonEnds 34 = .ok (.iload_n 2, 1) := by decide +kernel
theorem dX7_countCommonEnds_35 : decode cX7_countCommonEnds 35 = .ok (.iaload, 1) := by decide +kernel
theorem dX7_countCommonEnds_36 : decode cX7_countCommonEnds 36 = .ok (.iaload, 1) := by decide +kernel
theorem dX7_countCommonEnds_37 : decode cX7_countCommonEnds 37 = .ok (.ifCond .ne 17, 3) := by decide +kernel
theorem dX7_countCommonEnds_40 : decode cX7_countCommonEnds 40 = .ok (.aload_n 0, 1) := by decide +kernel
theorem dX7_countCommonEnds_41 : decode cX7_countCommonEnds 41 = .ok (.aload_n 0, 1) := by decide +kernel
theorem dX7_countCommonEnds_42 : decode cX7_countCommonEnds 42 = .ok (.getfield 46, 3) := by decide +kernel
theorem dX7_countCommonEnds_45 : decode cX7_countCommonEnds 45 = .ok (.getfield 113, 3) := by decide +kernel
theorem dX7_countCommonEnds_48 : decode cX7_countCommonEnds 48 = .ok (.iload_n 2, 1) := by decide +kernel
theorem dX7_countCommonEnds_49 : decode cX7_countCommonEnds 49 = .ok (.iaload, 1) := by decide +kernel
theorem dX7_countCommonEnds_50 : decode cX7_countCommonEnds 50 = .ok (.iload_n 1, 1) := by decide +kernel
theorem dX7_countCommonEnds_51 : decode cX7_countCommonEnds 51 = .ok (.invokevirtual 116, 3) := by decide +kernel
theorem dX7_countCommonEnds_54 : decode cX7_countCommonEnds 54 = .ok (.iinc 2 1, 3) := by decide +kernel
theorem dX7_countCommonEnds_57 : decode cX7_countCommonEnds 57 = .ok (.goto (-47), 3) := by decide +kernel
theorem dX7_countCommonEnds_60 : decode cX7_countCommonEnds 60 = .ok (.return_, 1) := by decide +kernel
theorem dX7_mark_0 : decode cX7_mark 0 = .ok (.aload_n 0, 1) := by decide +kernel
theorem dX7_mark_1 : decode cX7_mark 1 = .ok (.getfield 11, 3) := by decide +kernel
theorem dX7_mark_4 : decode cX7_mark 4 = .ok (.iload_n 1, 1) := by decide +kernel
theorem dX7_mark_5 : decode cX7_mark 5 = .ok (.iload_n 2, 1) := by decide +kernel
theorem dX7_mark_6 : decode cX7_mark 6 = .ok (.iastore, 1) := by decide +kernel
theorem dX7_mark_7 : decode cX7_mark 7 = .ok (.iload_n 1, 1) := by decide +kernel
theorem dX7_mark_8 : decode cX7_mark 8 = .ok (.bipush 8, 2) := by decide +kernel
theorem dX7_mark_10 : decode cX7_mark 10 = .ok (.imul, 1) := by decide +kernel
theorem dX7_mark_11 : decode cX7_mark 11 = .ok (.istore_n 3, 1) := by decide +kernel
theorem dX7_mark_12 : decode cX7_mark 12 = .ok (.iload_n 3, 1) := by decide +kernel
theorem dX7_mark_13 : decode cX7_mark 13 = .ok (.aload_n 0, 1) := by decide +kernel
theorem dX7_mark_14 : decode cX7_mark 14 = .ok (.getfield 46, 3) := by decide +kernel
theorem dX7_mark_17 : decode cX7_mark 17 = .ok (.getfield 110, 3) := by decide +kernel
theorem dX7_mark_20 : decode cX7_mark 20 = .ok (.iload_n 1, 1) := by decide +kernel
theorem dX7_mark_21 : decode cX7_mark 21 = .ok (.iaload, 1) := by decide +kernel
theorem dX7_mark_22 : decode cX7_mark 22 = .ok (.if_icmp .ge 110, 3) := by decide +kernel
theorem dX7_mark_25 : decode cX7_mark 25 = .ok (.aload_n 0, 1) := by decide +kernel
theorem dX7_mark_26 : decode cX7_mark 26 = .ok (.getfield 46, 3) := by decide +kernel
theorem dX7_mark_29 : decode cX7_mark 29 = .ok (.getfield 113, 3) := by decide +kernel
theorem dX7_mark_32 : decode cX7_mark 32 = .ok (.iload_n 3, 1) := by decide +kernel
theorem dX7_mark_33 : decode cX7_mark 33 = .ok (.iaload, 1) := by decide +kernel
theorem dX7_mark_34 : decode cX7_mark 34 = .ok (.istore 4, 2) := by decide +kernel
theorem dX7_mark_36 : decode cX7_mark 36 = .ok (.aload_n 0, 1) := by decide +kernel
theorem dX7_mark_37 : decode cX7_mark 37 = .ok (.getfield 17, 3) := by decide +kernel
theorem dX7_mark_40 : decode cX7_mark 40 = .ok (.iload 4, 2) := by decide +kernel
theorem dX7_mark_42 : decode cX7_mark 42 = .ok (.dup2, 1) := by decide +kernel
theorem dX7_mark_43 : decode cX7_mark 43 = .ok (.iaload, 1) := by decide +kernel
theorem dX7_mark_44 : decode cX7_mark 44 = .ok (.iconst 1, 1) := by decide +kernel
theorem dX7_mark_45 : decode cX7_mark 45 = .ok (.isub, 1) := by decide +kernel
theorem dX7_mark_46 : decode cX7_mark 46 = .ok (.iastore, 1) := by decide +kernel
theorem dX7_mark_47 : decode cX7_mark 47 = .ok (.iload_n 2, 1) := by decide +kernel
theorem dX7_mark_48 : decode cX7_mark 48 = .ok (.iconst 2, 1) := by decide +kernel
theorem dX7_mark_49 : decode cX7_mark 49 = .ok (.if_icmp .ne 14, 3) := by decide +kernel
theorem dX7_mark_52 : decode cX7_mark 52 = .ok (.aload_n 0, 1) := by decide +kernel
theorem dX7_mark_53 : decode cX7_mark 53 = .ok (.getfield 20, 3) := by decide +kernel
theorem dX7_mark_56 : decode cX7_mark 56 = .ok (.iload 4, 2) := by decide +kernel
theorem dX7_mark_58 : decode cX7_mark 58 = .ok (.dup2, 1) := by decide +kernel
theorem dX7_mark_59 : decode cX7_mark 59 = .ok (.iaload, 1) := by decide +kernel
theorem dX7_mark_60 : decode cX7_mark 60 = .ok (.iconst 1, 1) := by decide +kernel
theorem dX7_mark_61 : decode cX7_mark 61 = .ok (.isub, 1) := by decide +kernel
theorem dX7_mark_62 : decode cX7_mark 62 = .ok (.iastore, 1) := by decide +kernel
theorem dX7_mark_63 : decode cX7_mark 63 = .ok (.aload_n 0, 1) := by decide +kernel
theorem dX7_mark_64 : decode cX7_mark 64 = .ok (.getfield 36, 3) := by decide +kernel
theorem dX7_mark_67 : decode cX7_mark 67 = .ok (.getfield 89, 3) := by decide +kernel
theorem dX7_mark_70 : decode cX7_mark 70 = .ok (.iload 4, 2) := by decide +kernel
theorem dX7_mark_72 : decode cX7_mark 72 = .ok (.iaload, 1) := by decide +kernel
theorem dX7_mark_73 : decode cX7_mark 73 = .ok (.iconst 2, 1) := by decide +kernel
theorem dX7_mark_74 : decode cX7_mark 74 = .ok (.if_icmp .ne 52, 3) := by decide +kernel
theorem dX7_mark_77 : decode cX7_mark 77 = .ok (.aload_n 0, 1) := by decide +kernel
theorem dX7_mark_78 : decode cX7_mark 78 = .ok (.getfield 26, 3) := by decide +kernel
theorem dX7_mark_81 : decode cX7_mark 81 = .ok (.iload 4, 2) := by decide +kernel
theorem dX7_mark_83 : decode cX7_mark 83 = .ok (.baload, 1) := by decide +kernel
theorem dX7_mark_84 : decode cX7_mark 84 = .ok (.ifCond .ne 42, 3) := by decide +kernel
theorem dX7_mark_87 : decode cX7_mark 87 = .ok (.aload_n 0, 1) := by decide +kernel
theorem dX7_mark_88 : decode cX7_mark 88 = .ok (.getfield 66, 3) := by decide +kernel
theorem dX7_mark_91 : decode cX7_mark 91 = .ok (.sipush 144, 3) := by decide +kernel
theorem dX7_mark_94 : decode cX7_mark 94 = .ok (.if_icmp .ge 32, 3) := by decide +kernel
theorem dX7_mark_97 : decode cX7_mark 97 = .ok (.aload_n 0, 1) := by decide +kernel
theorem dX7_mark_98 : decode cX7_mark 98 = .ok (.getfield 26, 3) := by decide +kernel
theorem dX7_mark_101 : decode cX7_mark 101 = .ok (.iload 4, 2) := by decide +kernel
theorem dX7_mark_103 : decode cX7_mark 103 = .ok (.iconst 1, 1) := by decide +kernel
theorem dX7_mark_104 : decode cX7_mark 104 = .ok (.bastore, 1) := by decide +kernel
theorem dX7_mark_105 : decode cX7_mark 105 = .ok (.aload_n 0, 1) := by decide +kernel
theorem dX7_mark_106 : decode cX7_mark 106 = .ok (.getfield 23, 3) := by decide +kernel
theorem dX7_mark_109 : decode cX7_mark 109 = .ok (.aload_n 0, 1) := by decide +kernel
theorem dX7_mark_110 : decode cX7_mark 110 = .ok (.getfield 66, 3) := by decide +kernel
theorem dX7_mark_113 : decode cX7_mark 113 = .ok (.iload 4, 2) := by decide +kernel
theorem dX7_mark_115 : decode cX7_mark 115 = .ok (.iastore, 1) := by decide +kernel
theorem dX7_mark_116 : decode cX7_mark 116 = .ok (.aload_n 0, 1) := by decide +kernel
theorem dX7_mark_117 : decode cX7_mark 117 = .ok (.dup, 1) := by decide +kernel
theorem dX7_mark_118 : decode cX7_mark 118 = .ok (.getfield 66, 3) := by decide +kernel
theorem dX7_mark_121 : decode cX7_mark 121 = .ok (.iconst 1, 1) := by decide +kernel
theorem dX7_mark_122 : decode cX7_mark 122 = .ok (.iadd, 1) := by decide +kernel
theorem dX7_mark_123 : decode cX7_mark 123 = .ok (.putfield 66, 3) := by decide +kernel
theorem dX7_mark_126 : decode cX7_mark 126 = .ok (.iinc 3 1, 3) := by decide +kernel
theorem dX7_mark_129 : decode cX7_mark 129 = .ok (.goto (-117), 3) := by decide +kernel
theorem dX7_mark_132 : decode cX7_mark 132 = .ok (.return_, 1) := by decide +kernel
theorem dX7_markEnds_0 : decode cX7_markEnds 0 = .ok (.iload_n 1, 1) := by decide +kernel
theorem dX7_markEnds_1 : decode cX7_markEnds 1 = .ok (.bipush 8, 2) := by decide +kernel
theorem dX7_markEnds_3 : decode cX7_markEnds 3 = .ok (.imul, 1) := by decide +kernel
theorem dX7_markEnds_4 : decode cX7_markEnds 4 = .ok (.istore 4, 2) := by decide +kernel
theorem dX7_markEnds_6 : decode cX7_markEnds 6 = .ok (.iload 4, 2) := by decide +kernel
theorem dX7_markEnds_8 : decode cX7_markEnds 8 = .ok (.aload_n 0, 1) := by decide +kernel
theorem dX7_markEnds_9 : decode cX7_markEnds 9 = .ok (.getfield 46, 3) := by decide +kernel
theorem dX7_markEnds_12 : decode cX7_markEnds 12 = .ok (.getfield 110, 3) := by decide +kernel
theorem dX7_markEnds_15 : decode cX7_markEnds 15 = .ok (.iload_n 1, 1) := by decide +kernel
theorem dX7_markEnds_16 : decode cX7_markEnds 16 = .ok (.iaload, 1) := by decide +kernel
theorem dX7_markEnds_17 : decode cX7_markEnds 17 = .ok (.if_icmp .ge 56, 3) := by decide +kernel
theorem dX7_markEnds_20 : decode cX7_markEnds 20 = .ok (.aload_n 0, 1) := by decide +kernel
theorem dX7_markEnds_21 : decode cX7_markEnds 21 = .ok (.getfield 46, 3) := by decide +kernel
theorem dX7_markEnds_24 : decode cX7_markEnds 24 = .ok (.getfield 113, 3) := by decide +kernel
theorem dX7_markEnds_27 : decode cX7_markEnds 27 = .ok (.iload 4, 2) := by decide +kernel
theorem dX7_markEnds_29 : decode cX7_markEnds 29 = .ok (.iaload, 1) := by decide +kernel
theorem dX7_markEnds_30 : decode cX7_markEnds 30 = .ok (.istore 5, 2) := by decide +kernel
theorem dX7_markEnds_32 : decode cX7_markEnds 32 = .ok (.aload_n 0, 1) := by decide +kernel
theorem dX7_markEnds_33 : decode cX7_markEnds 33 = .ok (.getfield 11, 3) := by decide +kernel
theorem dX7_markEnds_36 : decode cX7_markEnds 36 = .ok (.iload 5, 2) := by decide +kernel
theorem dX7_markEnds_38 : decode cX7_markEnds 38 = .ok (.iaload, 1) := by decide +kernel
theorem dX7_markEnds_39 : decode cX7_markEnds 39 = .ok (.ifCond .ne 28, 3) := by decide +kernel
theorem dX7_markEnds_42 : decode cX7_markEnds 42 = .ok (.iload_n 2, 1) := by decide +kernel
theorem dX7_markEnds_43 : decode cX7_markEnds 43 = .ok (.iconst (-1), 1) := by decide +kernel
theorem dX7_markEnds_44 : decode cX7_markEnds 44 = .ok (.if_icmp .eq 16, 3) := by decide +kernel
theorem dX7_markEnds_47 : decode cX7_markEnds 47 = .ok (.aload_n 0, 1) := by decide +kernel
theorem dX7_markEnds_48 : decode cX7_markEnds 48 = .ok (.getfield 46, 3) := by decide +kernel
theorem dX7_markEnds_51 : decode cX7_markEnds 51 = .ok (.iload_n 2, 1) := by decide +kernel
theorem dX7_markEnds_52 : decode cX7_markEnds 52 = .ok (.iload 5, 2) := by decide +kernel
theorem dX7_markEnds_54 : decode cX7_markEnds 54 = .ok (.invokevirtual 120, 3) := by decide +kernel
theorem dX7_markEnds_57 : decode cX7_markEnds 57 = .ok (.ifCond .ne 10, 3) := by decide +kernel
theorem dX7_markEnds_60 : decode cX7_markEnds 60 = .ok (.aload_n 0, 1) := by decide +kernel
theorem dX7_markEnds_61 : decode cX7_markEnds 61 = .ok (.iload 5, 2) := by decide +kernel
theorem dX7_markEnds_63 : decode cX7_markEnds 63 = .ok (.iload_n 3, 1) := by decide +kernel
theorem dX7_markEnds_64 : decode cX7_markEnds 64 = .ok (.invokevirtual 124, 3) := by decide +kernel
theorem dX7_markEnds_67 : decode cX7_markEnds 67 = .ok (.iinc 4 1, 3) := by decide +kernel
theorem dX7_markEnds_70 : decode cX7_markEnds 70 = .ok (.goto (-64), 3) := by decide +kernel
theorem dX7_markEnds_73 : decode cX7_markEnds 73 = .ok (.return_, 1) := by decide +kernel
theorem dX7_compare_0 : decode cX7_compare 0 = .ok (.aload_n 0, 1) := by decide +kernel
theorem dX7_compare_1 : decode cX7_compare 1 = .ok (.getfield 20, 3) := by decide +kernel
theorem dX7_compare_4 : decode cX7_compare 4 = .ok (.iload_n 2, 1) := by decide +kernel
theorem dX7_compare_5 : decode cX7_compare 5 = .ok (.iaload, 1) := by decide +kernel
theorem dX7_compare_6 : decode cX7_compare 6 = .ok (.aload_n 0, 1) := by decide +kernel
theorem dX7_compare_7 : decode cX7_compare 7 = .ok (.getfield 20, 3) := by decide +kernel
theorem dX7_compare_10 : decode cX7_compare 10 = .ok (.iload_n 1, 1) := by decide +kernel
theorem dX7_compare_11 : decode cX7_compare 11 = .ok (.iaload, 1) := by decide +kernel
theorem dX7_compare_12 : decode cX7_compare 12 = .ok (.isub, 1) := by decide +kernel
theorem dX7_compare_13 : decode cX7_compare 13 = .ok (.istore 4, 2) := by decide +kernel
theorem dX7_compare_15 : decode cX7_compare 15 = .ok (.iload 4, 2) := by decide +kernel
theorem dX7_compare_17 : decode cX7_compare 17 = .ok (.ifCond .eq 11, 3) := by decide +kernel
theorem dX7_compare_20 : decode cX7_compare 20 = .ok (.iload 4, 2) := by decide +kernel
theorem dX7_compare_22 : decode cX7_compare 22 = .ok (.iload_n 3, 1) := by decide +kernel
theorem dX7_compare_23 : decode cX7_compare 23 = .ok (.if_icmp .eq 5, 3) := by decide +kernel
theorem dX7_compare_26 : decode cX7_compare 26 = .ok (.iconst 0, 1) := by decide +kernel
theorem dX7_compare_27 : decode cX7_compare 27 = .ok (.ireturn, 1) := by decide +kernel
theorem dX7_compare_28 : decode cX7_compare 28 = .ok (.aload_n 0, 1) := by decide +kernel
theorem dX7_compare_29 : decode cX7_compare 29 = .ok (.iload_n 2, 1) := by decide +kernel
theorem dX7_compare_30 : decode cX7_compare 30 = .ok (.iload_n 1, 1) := by decide +kernel
theorem dX7_compare_31 : decode cX7_compare 31 = .ok (.iload 4, 2) := by decide +kernel
theorem dX7_compare_33 : decode cX7_compare 33 = .ok (.ifCond .ne 7, 3) := by decide +kernel
theorem dX7_compare_36 : decode cX7_compare 36 = .ok (.iconst 1, 1) := by decide +kernel
theorem dX7_compare_37 : decode cX7_compare 37 = .ok (.goto 4, 3) := by decide +kernel
theorem dX7_compare_40 : decode cX7_compare 40 = .ok (.iconst 2, 1) := by decide +kernel
theorem dX7_compare_41 : decode cX7_compare 41 = .ok (.invokevirtual 92, 3) := by decide +kernel
theorem dX7_compare_44 : decode cX7_compare 44 = .ok (.iconst 1, 1) := by decide +kernel
theorem dX7_compare_45 : decode cX7_compare 45 = .ok (.ireturn, 1) := by decide +kernel
theorem dX7_findBeyond_0 : decode cX7_findBeyond 0 = .ok (.aload_n 0, 1) := by decide +kernel
theorem dX7_findBeyond_1 : decode cX7_findBeyond 1 = .ok (.iload_n 1, 1) := by decide +kernel
theorem dX7_findBeyond_2 : decode cX7_findBeyond 2 = .ok (.invokevirtual 99, 3) := by decide +kernel
theorem dX7_findBeyond_5 : decode cX7_findBeyond 5 = .ok (.iconst 0, 1) := by decide +kernel
theorem dX7_findBeyond_6 : decode cX7_findBeyond 6 = .ok (.istore_n 2, 1) := by decide +kernel
theorem dX7_findBeyond_7 : decode cX7_findBeyond 7 = .ok (.iconst 0, 1) := by decide +kernel
theorem dX7_findBeyond_8 : decode cX7_findBeyond 8 = .ok (.istore_n 3, 1) := by decide +kernel
theorem dX7_findBeyond_9 : decode cX7_findBeyond 9 = .ok (.iload_n 3, 1) := by decide +kernel
theorem dX7_findBeyond_10 : decode cX7_findBeyond 10 = .ok (.aload_n 0, 1) := by decide +kernel
theorem dX7_findBeyond_11 : decode cX7_findBeyond 11 = .ok (.getfield 103, 3) := by decide +kernel
theorem dX7_findBeyond_14 : decode cX7_findBeyond 14 = .ok (.if_icmp .ge 76, 3) := by decide +kernel
theorem dX7_findBeyond_17 : decode cX7_findBeyond 17 = .ok (.aload_n 0, 1) := by decide +kernel
theorem dX7_findBeyond_18 : decode cX7_findBeyond 18 = .ok (.getfield 33, 3) := by decide +kernel
theorem dX7_findBeyond_21 : decode cX7_findBeyond 21 = .ok (.iload_n 3, 1) := by decide +kernel
theorem dX7_findBeyond_22 : decode cX7_findBeyond 22 = .ok (.iaload, 1) := by decide +kernel
theorem dX7_findBeyond_23 : decode cX7_findBeyond 23 = .ok (.istore 4, 2) := by decide +kernel
theorem dX7_findBeyond_25 : decode cX7_findBeyond 25 = .ok (.aload_n 0, 1) := by decide +kernel
theorem dX7_findBeyond_26 : decode cX7_findBeyond 26 = .ok (.getfield 17, 3) := by decide +kernel
theorem dX7_findBeyond_29 : decode cX7_findBeyond 29 = .ok (.iload 4, 2) := by decide +kernel
theorem dX7_findBeyond_31 : decode cX7_findBeyond 31 = .ok (.iaload, 1) := by decide +kernel
theorem dX7_findBeyond_32 : decode cX7_findBeyond 32 = .ok (.aload_n 0, 1) := by decide +kernel
theorem dX7_findBeyond_33 : decode cX7_findBeyond 33 = .ok (.getfield 17, 3) := by decide +kernel
theorem dX7_findBeyond_36 : decode cX7_findBeyond 36 = .ok (.iload_n 1, 1) := by decide +kernel
theorem dX7_findBeyond_37 : decode cX7_findBeyond 37 = .ok (.iaload, 1) := by decide +kernel
theorem dX7_findBeyond_38 : decode cX7_findBeyond 38 = .ok (.isub, 1) := by decide +kernel
theorem dX7_findBeyond_39 : decode cX7_findBeyond 39 = .ok (.istore 5, 2) := by decide +kernel
theorem dX7_findBeyond_41 : decode cX7_findBeyond 41 = .ok (.iload_n 2, 1) := by decide +kernel
theorem dX7_findBeyond_42 : decode cX7_findBeyond 42 = .ok (.ifCond .ne 34, 3) := by decide +kernel
theorem dX7_findBeyond_45 : decode cX7_findBeyond 45 = .ok (.iload 5, 2) := by decide +kernel
theorem dX7_findBeyond_47 : decode cX7_findBeyond 47 = .ok (.ifCond .le 29, 3) := by decide +kernel
theorem dX7_findBeyond_50 : decode cX7_findBeyond 50 = .ok (.aload_n 0, 1) := by decide +kernel
theorem dX7_findBeyond_51 : decode cX7_findBeyond 51 = .ok (.getfield 30, 3) := by decide +kernel
theorem dX7_findBeyond_54 : decode cX7_findBeyond 54 = .ok (.iload 4, 2) := by decide +kernel
theorem dX7_findBeyond_56 : decode cX7_findBeyond 56 = .ok (.iaload, 1) := by decide +kernel
theorem dX7_findBeyond_57 : decode cX7_findBeyond 57 = .ok (.aload_n 0, 1) := by decide +kernel
theorem dX7_findBeyond_58 : decode cX7_findBeyond 58 = .ok (.getfield 17, 3) := by decide +kernel
theorem dX7_findBeyond_61 : decode cX7_findBeyond 61 = .ok (.iload_n 1, 1) := by decide +kernel
theorem dX7_findBeyond_62 : decode cX7_findBeyond 62 = .ok (.iaload, 1) := by decide +kernel
theorem dX7_findBeyond_63 : decode cX7_findBeyond 63 = .ok (.if_icmp .ne 13, 3) := by decide +kernel
theorem dX7_findBeyond_66 : decode cX7_findBeyond 66 = .ok (.aload_n 0, 1) := by decide +kernel
theorem dX7_findBeyond_67 : decode cX7_findBeyond 67 = .ok (.iload_n 1, 1) := by decide +kernel
theorem dX7_findBeyond_68 : decode cX7_findBeyond 68 = .ok (.iload 4, 2) := by decide +kernel
theorem dX7_findBeyond_70 : decode cX7_findBeyond 70 = .ok (.iload 5, 2) := by decide +kernel
theorem dX7_findBeyond_72 : decode cX7_findBeyond 72 = .ok (.invokevirtual 106, 3) := by decide +kernel
theorem dX7_findBeyond_75 : decode cX7_findBeyond 75 = .ok (.istore_n 2, 1) := by decide +kernel
theorem dX7_findBeyond_76 : decode cX7_findBeyond 76 = .ok (.aload_n 0, 1) := by decide +kernel
theorem dX7_findBeyond_77 : decode cX7_findBeyond 77 = .ok (.getfield 30, 3) := by decide +kernel
theorem dX7_findBeyond_80 : decode cX7_findBeyond 80 = .ok (.iload 4, 2) := by decide +kernel
theorem dX7_findBeyond_82 : decode cX7_findBeyond 82 = .ok (.iconst 0, 1) := by decide +kernel
theorem dX7_findBeyond_83 : decode cX7_findBeyond 83 = .ok (.iastore, 1) := by decide +kernel
theorem dX7_findBeyond_84 : decode cX7_findBeyond 84 = .ok (.iinc 3 1, 3) := by decide +kernel
theorem dX7_findBeyond_87 : decode cX7_findBeyond 87 = .ok (.goto (-78), 3) := by decide +kernel
theorem dX7_findBeyond_90 : decode cX7_findBeyond 90 = .ok (.iload_n 2, 1) := by decide +kernel
theorem dX7_findBeyond_91 : decode cX7_findBeyond 91 = .ok (.ireturn, 1) := by decide +kernel
theorem dX7_findBySingles_0 : decode cX7_findBySingles 0 = .ok (.iconst 0, 1) := by decide +kernel
theorem dX7_findBySingles_1 : decode cX7_findBySingles 1 = .ok (.istore_n 1, 1) := by decide +kernel
theorem dX7_findBySingles_2 : decode cX7_findBySingles 2 = .ok (.iload_n 1, 1) := by decide +kernel
theorem dX7_findBySingles_3 : decode cX7_findBySingles 3 = .ok (.sipush 1296, 3) := by decide +kernel
theorem dX7_findBySingles_6 : decode cX7_findBySingles 6 = .ok (.if_icmp .ge 84, 3) := by decide +kernel
theorem dX7_findBySingles_9 : decode cX7_findBySingles 9 = .ok (.aload_n 0, 1) := by decide +kernel
theorem dX7_findBySingles_10 : decode cX7_findBySingles 10 = .ok (.getfield 66, 3) := by decide +kernel
theorem dX7_findBySingles_13 : decode cX7_findBySingles 13 = .ok (.ifCond .le 77, 3) := by decide +kernel
theorem dX7_findBySingles_16 : decode cX7_findBySingles 16 = .ok (.aload_n 0, 1) := by decide +kernel
theorem dX7_findBySingles_17 : decode cX7_findBySingles 17 = .ok (.dup, 1) := by decide +kernel
theorem dX7_findBySingles_18 : decode cX7_findBySingles 18 = .ok (.getfield 66, 3) := by decide +kernel
theorem dX7_findBySingles_21 : decode cX7_findBySingles 21 = .ok (.iconst 1, 1) := by decide +kernel
theorem dX7_findBySingles_22 : decode cX7_findBySingles 22 = .ok (.isub, 1) := by decide +kernel
theorem dX7_findBySingles_23 : decode cX7_findBySingles 23 = .ok (.putfield 66, 3) := by decide +kernel
theorem dX7_findBySingles_26 : decode cX7_findBySingles 26 = .ok (.aload_n 0, 1) := by decide +kernel
theorem dX7_findBySingles_27 : decode cX7_findBySingles 27 = .ok (.getfield 23, 3) := by decide +kernel
theorem dX7_findBySingles_30 : decode cX7_findBySingles 30 = .ok (.aload_n 0, 1) := by decide +kernel
theorem dX7_findBySingles_31 : decode cX7_findBySingles 31 = .ok (.getfield 66, 3) := by decide +kernel
theorem dX7_findBySingles_34 : decode cX7_findBySingles 34 = .ok (.iaload, 1) := by decide +kernel
theorem dX7_findBySingles_35 : decode cX7_findBySingles 35 = .ok (.istore_n 2, 1) := by decide +kernel
theorem dX7_findBySingles_36 : decode cX7_findBySingles 36 = .ok (.aload_n 0, 1) := by decide +kernel
theorem dX7_findBySingles_37 : decode cX7_findBySingles 37 = .ok (.getfield 26, 3) := by decide +kernel
theorem dX7_findBySingles_40 : decode cX7_findBySingles 40 = .ok (.iload_n 2, 1) := by decide +kernel
theorem dX7_findBySingles_41 : decode cX7_findBySingles 41 = .ok (.iconst 0, 1) := by decide +kernel
theorem dX7_findBySingles_42 : decode cX7_findBySingles 42 = .ok (.bastore, 1) := by decide +kernel
theorem dX7_findBySingles_43 : decode cX7_findBySingles 43 = .ok (.aload_n 0, 1) := by decide +kernel
theorem dX7_findBySingles_44 : decode cX7_findBySingles 44 = .ok (.getfield 20, 3) := by decide +kernel
theorem dX7_findBySingles_47 : decode cX7_findBySingles 47 = .ok (.iload_n 2, 1) := by decide +kernel
theorem dX7_findBySingles_48 : decode cX7_findBySingles 48 = .ok (.iaload, 1) := by decide +kernel
theorem dX7_findBySingles_49 : decode cX7_findBySingles 49 = .ok (.ifCond .ne 13, 3) := by decide +kernel
theorem dX7_findBySingles_52 : decode cX7_findBySingles 52 = .ok (.aload_n 0, 1) := by decide +kernel
theorem dX7_findBySingles_53 : decode cX7_findBySingles 53 = .ok (.iload_n 2, 1) := by decide +kernel
theorem dX7_findBySingles_54 : decode cX7_findBySingles 54 = .ok (.iconst (-1), 1) := by decide +kernel
theorem dX7_findBySingles_55 : decode cX7_findBySingles 55 = .ok (.iconst 1, 1) := by decide +kernel
theorem dX7_findBySingles_56 : decode cX7_findBySingles 56 = .ok (.invokevirtual 92, 3) := by decide +kernel
theorem dX7_findBySingles_59 : decode cX7_findBySingles 59 = .ok (.goto 25, 3) := by decide +kernel
theorem dX7_findBySingles_62 : decode cX7_findBySingles 62 = .ok (.aload_n 0, 1) := by decide +kernel
theorem dX7_findBySingles_63 : decode cX7_findBySingles 63 = .ok (.getfield 20, 3) := by decide +kernel
theorem dX7_findBySingles_66 : decode cX7_findBySingles 66 = .ok (.iload_n 2, 1) := by decide +kernel
theorem dX7_findBySingles_67 : decode cX7_findBySingles 67 = .ok (.iaload, 1) := by decide +kernel
theorem dX7_findBySingles_68 : decode cX7_findBySingles 68 = .ok (.aload_n 0, 1) := by decide +kernel
theorem dX7_findBySingles_69 : decode cX7_findBySingles 69 = .ok (.getfield 17, 3) := by decide +kernel
theorem dX7_findBySingles_72 : decode cX7_findBySingles 72 = .ok (.iload_n 2, 1) := by decide +kernel
theorem dX7_findBySingles_73 : decode cX7_findBySingles 73 = .ok (.iaload, 1) := by decide +kernel
theorem dX7_findBySingles_74 : decode cX7_findBySingles 74 = .ok (.if_icmp .ne 10, 3) := by decide +kernel
theorem dX7_findBySingles_77 : decode cX7_findBySingles 77 = .ok (.aload_n 0, 1) := by decide +kernel
theorem dX7_findBySingles_78 : decode cX7_findBySingles 78 = .ok (.iload_n 2, 1) := by decide +kernel
theorem dX7_findBySingles_79 : decode cX7_findBySingles 79 = .ok (.iconst (-1), 1) := by decide +kernel
theorem dX7_findBySingles_80 : decode cX7_findBySingles 80 = .ok (.iconst 2, 1) := by decide +kernel
theorem dX7_findBySingles_81 : decode cX7_findBySingles 81 = .ok (.invokevirtual 92, 3) := by decide +kernel
theorem dX7_findBySingles_84 : decode cX7_findBySingles 84 = .ok (.iinc 1 1, 3) := by decide +kernel
theorem dX7_findBySingles_87 : decode cX7_findBySingles 87 = .ok (.goto (-85), 3) := by decide +kernel
theorem dX7_findBySingles_90 : decode cX7_findBySingles 90 = .ok (.return_, 1) := by decide +kernel
theorem dX7_findByPairs_0 : decode cX7_findByPairs 0 = .ok (.iconst 1, 1) := by decide +kernel
theorem dX7_findByPairs_1 : decode cX7_findByPairs 1 = .ok (.istore_n 1, 1) := by decide +kernel
theorem dX7_findByPairs_2 : decode cX7_findByPairs 2 = .ok (.iconst 0, 1) := by decide +kernel
theorem dX7_findByPairs_3 : decode cX7_findByPairs 3 = .ok (.istore_n 2, 1) := by decide +kernel
theorem dX7_findByPairs_4 : decode cX7_findByPairs 4 = .ok (.iload_n 2, 1) := by decide +kernel
theorem dX7_findByPairs_5 : decode cX7_findByPairs 5 = .ok (.sipush 144, 3) := by decide +kernel
theorem dX7_findByPairs_8 : decode cX7_findByPairs 8 = .ok (.if_icmp .gt 56, 3) := by decide +kernel
theorem dX7_findByPairs_11 : decode cX7_findByPairs 11 = .ok (.iload_n 1, 1) := by decide +kernel
theorem dX7_findByPairs_12 : decode cX7_findByPairs 12 = .ok (.ifCond .eq 52, 3) := by decide +kernel
theorem dX7_findByPairs_15 : decode cX7_findByPairs 15 = .ok (.iconst 0, 1) := by decide +kernel
theorem dX7_findByPairs_16 : decode cX7_findByPairs 16 = .ok (.istore_n 1, 1) := by decide +kernel
theorem dX7_findByPairs_17 : decode cX7_findByPairs 17 = .ok (.iconst 0, 1) := by decide +kernel
theorem dX7_findByPairs_18 : decode cX7_findByPairs 18 = .ok (.istore_n 3, 1) := by decide +kernel
theorem dX7_findByPairs_19 : decode cX7_findByPairs 19 = .ok (.iload_n 3, 1) := by decide +kernel
theorem dX7_findByPairs_20 : decode cX7_findByPairs 20 = .ok (.aload_n 0, 1) := by decide +kernel
theorem dX7_findByPairs_21 : decode cX7_findByPairs 21 = .ok (.getfield 46, 3) := by decide +kernel
theorem dX7_findByPairs_24 : decode cX7_findByPairs 24 = .ok (.getfield 70, 3) := by decide +kernel
theorem dX7_findByPairs_27 : decode cX7_findByPairs 27 = .ok (.if_icmp .ge 31, 3) := by decide +kernel
theorem dX7_findByPairs_30 : decode cX7_findByPairs 30 = .ok (.aload_n 0, 1) := by decide +kernel
theorem dX7_findByPairs_31 : decode cX7_findByPairs 31 = .ok (.iload_n 3, 1) := by decide +kernel
theorem dX7_findByPairs_32 : decode cX7_findByPairs 32 = .ok (.invokevirtual 86, 3) := by decide +kernel
theorem dX7_findByPairs_35 : decode cX7_findByPairs 35 = .ok (.ifCond .eq 17, 3) := by decide +kernel
theorem dX7_findByPairs_38 : decode cX7_findByPairs 38 = .ok (.aload_n 0, 1) := by decide +kernel
theorem dX7_findByPairs_39 : decode cX7_findByPairs 39 = .ok (.iload_n 3, 1) := by decide +kernel
theorem dX7_findByPairs_40 : decode cX7_findByPairs 40 = .ok (.invokevirtual 96, 3) := by decide +kernel
theorem dX7_findByPairs_43 : decode cX7_findByPairs 43 = .ok (.ifCond .eq 9, 3) := by decide +kernel
theorem dX7_findByPairs_46 : decode cX7_findByPairs 46 = .ok (.iconst 1, 1) := by decide +kernel
theorem dX7_findByPairs_47 : decode cX7_findByPairs 47 = .ok (.istore_n 1, 1) := by decide +kernel
theorem dX7_findByPairs_48 : decode cX7_findByPairs 48 = .ok (.aload_n 0, 1) := by decide +kernel
theorem dX7_findByPairs_49 : decode cX7_findByPairs 49 = .ok (.invokevirtual 54, 3) := by decide +kernel
theorem dX7_findByPairs_52 : decode cX7_findByPairs 52 = .ok (.iinc 3 1, 3) := by decide +kernel
theorem dX7_findByPairs_55 : decode cX7_findByPairs 55 = .ok (.goto (-36), 3) := by decide +kernel
theorem dX7_findByPairs_58 : decode cX7_findByPairs 58 = .ok (.iinc 2 1, 3) := by decide +kernel
theorem dX7_findByPairs_61 : decode cX7_findByPairs 61 = .ok (.goto (-57), 3) := by decide +kernel
theorem dX7_findByPairs_64 : decode cX7_findByPairs 64 = .ok (.return_, 1) := by decide +kernel
theorem dX7_begin_0 : decode cX7_begin 0 = .ok (.aload_n 0, 1) := by decide +kernel
theorem dX7_begin_1 : decode cX7_begin 1 = .ok (.iconst 0, 1) := by decide +kernel
theorem dX7_begin_2 : decode cX7_begin 2 = .ok (.putfield 66, 3) := by decide +kernel
theorem dX7_begin_5 : decode cX7_begin 5 = .ok (.iconst 0, 1) := by decide +kernel
theorem dX7_begin_6 : decode cX7_begin 6 = .ok (.istore_n 1, 1) := by decide +kernel
theorem dX7_begin_7 : decode cX7_begin 7 = .ok (.iload_n 1, 1) := by decide +kernel
theorem dX7_begin_8 : decode cX7_begin 8 = .ok (.aload_n 0, 1) := by decide +kernel
theorem dX7_begin_9 : decode cX7_begin 9 = .ok (.getfield 46, 3) := by decide +kernel
theorem dX7_begin_12 : decode cX7_begin 12 = .ok (.getfield 70, 3) := by decide +kernel
theorem dX7_begin_15 : decode cX7_begin 15 = .ok (.if_icmp .ge 118, 3) := by decide +kernel
theorem dX7_begin_18 : decode cX7_begin 18 = .ok (.aload_n 0, 1) := by decide +kernel
theorem dX7_begin_19 : decode cX7_begin 19 = .ok (.getfield 11, 3) := by decide +kernel
theorem dX7_begin_22 : decode cX7_begin 22 = .ok (.iload_n 1, 1) := by decide +kernel
theorem dX7_begin_23 : decode cX7_begin 23 = .ok (.aload_n 0, 1) := by decide +kernel
theorem dX7_begin_24 : decode cX7_begin 24 = .ok (.getfield 36, 3) := by decide +kernel
theorem dX7_begin_27 : decode cX7_begin 27 = .ok (.iload_n 1, 1) := by decide +kernel
theorem dX7_begin_28 : decode cX7_begin 28 = .ok (.invokevirtual 73, 3) := by decide +kernel
theorem dX7_begin_31 : decode cX7_begin 31 = .ok (.ifCond .eq 7, 3) := by decide +kernel
theorem dX7_begin_34 : decode cX7_begin 34 = .ok (.iconst 0, 1) := by decide +kernel
theorem dX7_begin_35 : decode cX7_begin 35 = .ok (.goto 4, 3) := by decide +kernel
theorem dX7_begin_38 : decode cX7_begin 38 = .ok (.iconst 3, 1) := by decide +kernel
theorem dX7_begin_39 : decode cX7_begin 39 = .ok (.iastore, 1) := by decide +kernel
theorem dX7_begin_40 : decode cX7_begin 40 = .ok (.aload_n 0, 1) := by decide +kernel
theorem dX7_begin_41 : decode cX7_begin 41 = .ok (.getfield 30, 3) := by decide +kernel
theorem dX7_begin_44 : decode cX7_begin 44 = .ok (.iload_n 1, 1) := by decide +kernel
theorem dX7_begin_45 : decode cX7_begin 45 = .ok (.iconst 0, 1) := by decide +kernel
theorem dX7_begin_46 : decode cX7_begin 46 = .ok (.iastore, 1) := by decide +kernel
theorem dX7_begin_47 : decode cX7_begin 47 = .ok (.aload_n 0, 1) := by decide +kernel
theorem dX7_begin_48 : decode cX7_begin 48 = .ok (.getfield 17, 3) := by decide +kernel
theorem dX7_begin_51 : decode cX7_begin 51 = .ok (.iload_n 1, 1) := by decide +kernel
theorem dX7_begin_52 : decode cX7_begin 52 = .ok (.aload_n 0, 1) := by decide +kernel
theorem dX7_begin_53 : decode cX7_begin 53 = .ok (.getfield 36, 3) := by decide +kernel
theorem dX7_begin_56 : decode cX7_begin 56 = .ok (.getfield 77, 3) := by decide +kernel
theorem dX7_begin_59 : decode cX7_begin 59 = .ok (.iload_n 1, 1) := by decide +kernel
theorem dX7_begin_60 : decode cX7_begin 60 = .ok (.iaload, 1) := by decide +kernel
theorem dX7_begin_61 : decode cX7_begin 61 = .ok (.iastore, 1) := by decide +kernel
theorem dX7_begin_62 : decode cX7_begin 62 = .ok (.aload_n 0, 1) := by decide +kernel
theorem dX7_begin_63 : decode cX7_begin 63 = .ok (.getfield 20, 3) := by decide +kernel
theorem dX7_begin_66 : decode cX7_begin 66 = .ok (.iload_n 1, 1) := by decide +kernel
theorem dX7_begin_67 : decode cX7_begin 67 = .ok (.aload_n 0, 1) := by decide +kernel
theorem dX7_begin_68 : decode cX7_begin 68 = .ok (.getfield 36, 3) := by decide +kernel
theorem dX7_begin_71 : decode cX7_begin 71 = .ok (.getfield 80, 3) := by decide +kernel
theorem dX7_begin_74 : decode cX7_begin 74 = .ok (.iload_n 1, 1) := by decide +kernel
theorem dX7_begin_75 : decode cX7_begin 75 = .ok (.iaload, 1) := by decide +kernel
theorem dX7_begin_76 : decode cX7_begin 76 = .ok (.aload_n 0, 1) := by decide +kernel
theorem dX7_begin_77 : decode cX7_begin 77 = .ok (.getfield 36, 3) := by decide +kernel
theorem dX7_begin_80 : decode cX7_begin 80 = .ok (.getfield 83, 3) := by decide +kernel
theorem dX7_begin_83 : decode cX7_begin 83 = .ok (.iload_n 1, 1) := by decide +kernel
theorem dX7_begin_84 : decode cX7_begin 84 = .ok (.iaload, 1) := by decide +kernel
theorem dX7_begin_85 : decode cX7_begin 85 = .ok (.isub, 1) := by decide +kernel
theorem dX7_begin_86 : decode cX7_begin 86 = .ok (.iastore, 1) := by decide +kernel
theorem dX7_begin_87 : decode cX7_begin 87 = .ok (.aload_n 0, 1) := by decide +kernel
theorem dX7_begin_88 : decode cX7_begin 88 = .ok (.getfield 26, 3) := by decide +kernel
theorem dX7_begin_91 : decode cX7_begin 91 = .ok (.iload_n 1, 1) := by decide +kernel
theorem dX7_begin_92 : decode cX7_begin 92 = .ok (.aload_n 0, 1) := by decide +kernel
theorem dX7_begin_93 : decode cX7_begin 93 = .ok (.iload_n 1, 1) := by decide +kernel
theorem dX7_begin_94 : decode cX7_begin 94 = .ok (.invokevirtual 86, 3) := by decide +kernel
theorem dX7_begin_97 : decode cX7_begin 97 = .ok (.bastore, 1) := by decide +kernel
theorem dX7_begin_98 : decode cX7_begin 98 = .ok (.aload_n 0, 1) := by decide +kernel
theorem dX7_begin_99 : decode cX7_begin 99 = .ok (.getfield 26, 3) := by decide +kernel
theorem dX7_begin_102 : decode cX7_begin 102 = .ok (.iload_n 1, 1) := by decide +kernel
theorem dX7_begin_103 : decode cX7_begin 103 = .ok (.baload, 1) := by decide +kernel
theorem dX7_begin_104 : decode cX7_begin 104 = .ok (.ifCond .eq 23, 3) := by decide +kernel
theorem dX7_begin_107 : decode cX7_begin 107 = .ok (.aload_n 0, 1) := by decide +kernel
theorem dX7_begin_108 : decode cX7_begin 108 = .ok (.getfield 23, 3) := by decide +kernel
theorem dX7_begin_111 : decode cX7_begin 111 = .ok (.aload_n 0, 1) := by decide +kernel
theorem dX7_begin_112 : decode cX7_begin 112 = .ok (.getfield 66, 3) := by decide +kernel
theorem dX7_begin_115 : decode cX7_begin 115 = .ok (.iload_n 1, 1) := by decide +kernel
theorem dX7_begin_116 : decode cX7_begin 116 = .ok (.iastore, 1) := by decide +kernel
theorem dX7_begin_117 : decode cX7_begin 117 = .ok (.aload_n 0, 1) := by decide +kernel
theorem dX7_begin_118 : decode cX7_begin 118 = .ok (.dup, 1) := by decide +kernel
theorem dX7_begin_119 : decode cX7_begin 119 = .ok (.getfield 66, 3) := by decide +kernel
theorem dX7_begin_122 : decode cX7_begin 122 = .ok (.iconst 1, 1) := by decide +kernel
theorem dX7_begin_123 : decode cX7_begin 123 = .ok (.iadd, 1) := by decide +kernel
theorem dX7_begin_124 : decode cX7_begin 124 = .ok (.putfield 66, 3) := by decide +kernel
theorem dX7_begin_127 : decode cX7_begin 127 = .ok (.iinc 1 1, 3) := by decide +kernel
theorem dX7_begin_130 : decode cX7_begin 130 = .ok (.goto (-123), 3) := by decide +kernel
theorem dX7_begin_133 : decode cX7_begin 133 = .ok (.return_, 1) := by decide +kernel
theorem dX7_raise_0 : decode cX7_raise 0 = .ok (.iload_n 1, 1) := by decide +kernel
theorem dX7_raise_1 : decode cX7_raise 1 = .ok (.iconst 1, 1) := by decide +kernel
theorem dX7_raise_2 : decode cX7_raise 2 = .ok (.if_icmp .ne 14, 3) := by decide +kernel
theorem dX7_raise_5 : decode cX7_raise 5 = .ok (.aload_n 0, 1) := by decide +kernel
theorem dX7_raise_6 : decode cX7_raise 6 = .ok (.invokevirtual 51, 3) := by decide +kernel
theorem dX7_raise_9 : decode cX7_raise 9 = .ok (.aload_n 0, 1) := by decide +kernel
theorem dX7_raise_10 : decode cX7_raise 10 = .ok (.invokevirtual 54, 3) := by decide +kernel
theorem dX7_raise_13 : decode cX7_raise 13 = .ok (.goto 26, 3) := by decide +kernel
theorem dX7_raise_16 : decode cX7_raise 16 = .ok (.iload_n 1, 1) := by decide +kernel
theorem dX7_raise_17 : decode cX7_raise 17 = .ok (.iconst 2, 1) := by decide +kernel
theorem dX7_raise_18 : decode cX7_raise 18 = .ok (.if_icmp .ne 10, 3) := by decide +kernel
theorem dX7_raise_21 : decode cX7_raise 21 = .ok (.aload_n 0, 1) := by decide +kernel
theorem dX7_raise_22 : decode cX7_raise 22 = .ok (.invokevirtual 57, 3) := by decide +kernel
theorem dX7_raise_25 : decode cX7_raise 25 = .ok (.goto 14, 3) := by decide +kernel
theorem dX7_raise_28 : decode cX7_raise 28 = .ok (.aload_n 0, 1) := by decide +kernel
theorem dX7_raise_29 : decode cX7_raise 29 = .ok (.getfield 47, 3) := by decide +kernel
theorem dX7_raise_32 : decode cX7_raise 32 = .ok (.aload_n 0, 1) := by decide +kernel
theorem dX7_raise_33 : decode cX7_raise 33 = .ok (.getfield 11, 3) := by decide +kernel
theorem dX7_raise_36 : decode cX7_raise 36 = .ok (.invokevirtual 60, 3) := by decide +kernel
theorem dX7_raise_39 : decode cX7_raise 39 = .ok (.return_, 1) := by decide +kernel
theorem q_X7_isTelling : yX7_isTelling.cls = RX7 ∧ yX7_isTelling.cls ≠ "java/lang/invoke/MethodHandle" ∧ yX7_isTelling.cls ≠ "java/lang/invoke/VarHandle" ∧ (parseMethodDescriptor yX7_isTelling.desc).map (fun d => d.parameters.length) = some 1 := ⟨rfl, by decide, by decide, by decide +kernel⟩
theorem q_X7_meetNumbersAround : yX7_meetNumbersAround.cls = RX7 ∧ yX7_meetNumbersAround.cls ≠ "java/lang/invoke/MethodHandle" ∧ yX7_meetNumbersAround.cls ≠ "java/lang/invoke/VarHandle" ∧ (parseMethodDescriptor yX7_meetNumbersAround.desc).map (fun d => d.parameters.length) = some 2 := ⟨rfl, by decide, by decide, by decide +kernel⟩
theorem q_X7_countCommonEnds : yX7_countCommonEnds.cls = RX7 ∧ yX7_countCommonEnds.cls ≠ "java/lang/invoke/MethodHandle" ∧ yX7_countCommonEnds.cls ≠ "java/lang/invoke/VarHandle" ∧ (parseMethodDescriptor yX7_countCommonEnds.desc).map (fun d => d.parameters.length) = some 1 := ⟨rfl, by decide, by decide, by decide +kernel⟩
theorem q_X7_mark : yX7_mark.cls = RX7 ∧ yX7_mark.cls ≠ "java/lang/invoke/MethodHandle" ∧ yX7_mark.cls ≠ "java/lang/invoke/VarHandle" ∧ (parseMethodDescriptor yX7_mark.desc).map (fun d => d.parameters.length) = some 2 := ⟨rfl, by decide, by decide, by decide +kernel⟩
theorem q_X7_markEnds : yX7_markEnds.cls = RX7 ∧ yX7_markEnds.cls ≠ "java/lang/invoke/MethodHandle" ∧ yX7_markEnds.cls ≠ "java/lang/invoke/VarHandle" ∧ (parseMethodDescriptor yX7_markEnds.desc).map (fun d => d.parameters.length) = some 3 := ⟨rfl, by decide, by decide, by decide +kernel⟩
theorem q_X7_compare : yX7_compare.cls = RX7 ∧ yX7_compare.cls ≠ "java/lang/invoke/MethodHandle" ∧ yX7_compare.cls ≠ "java/lang/invoke/VarHandle" ∧ (parseMethodDescriptor yX7_compare.desc).map (fun d => d.parameters.length) = some 3 := ⟨rfl, by decide, by decide, by decide +kernel⟩
theorem q_X7_findBeyond : yX7_findBeyond.cls = RX7 ∧ yX7_findBeyond.cls ≠ "java/lang/invoke/MethodHandle" ∧ yX7_findBeyond.cls ≠ "java/lang/invoke/VarHandle" ∧ (parseMethodDescriptor yX7_findBeyond.desc).map (fun d => d.parameters.length) = some 1 := ⟨rfl, by decide, by decide, by decide +kernel⟩
theorem q_X7_findBySingles : yX7_findBySingles.cls = RX7 ∧ yX7_findBySingles.cls ≠ "java/lang/invoke/MethodHandle" ∧ yX7_findBySingles.cls ≠ "java/lang/invoke/VarHandle" ∧ (parseMethodDescriptor yX7_findBySingles.desc).map (fun d => d.parameters.length) = some 0 := ⟨rfl, by decide, by decide, by decide +kernel⟩
theorem q_X7_findByPairs : yX7_findByPairs.cls = RX7 ∧ yX7_findByPairs.cls ≠ "java/lang/invoke/MethodHandle" ∧ yX7_findByPairs.cls ≠ "java/lang/invoke/VarHandle" ∧ (parseMethodDescriptor yX7_findByPairs.desc).map (fun d => d.parameters.length) = some 0 := ⟨rfl, by decide, by decide, by decide +kernel⟩
theorem q_X7_begin : yX7_begin.cls = RX7 ∧ yX7_begin.cls ≠ "java/lang/invoke/MethodHandle" ∧ yX7_begin.cls ≠ "java/lang/invoke/VarHandle" ∧ (parseMethodDescriptor yX7_begin.desc).map (fun d => d.parameters.length) = some 0 := ⟨rfl, by decide, by decide, by decide +kernel⟩
theorem q_X7_raise : yX7_raise.cls = RX7 ∧ yX7_raise.cls ≠ "java/lang/invoke/MethodHandle" ∧ yX7_raise.cls ≠ "java/lang/invoke/VarHandle" ∧ (parseMethodDescriptor yX7_raise.desc).map (fun d => d.parameters.length) = some 1 := ⟨rfl, by decide, by decide, by decide +kernel⟩
def P_X7_isTelling (post : Int → Prop) (F_state : Int → Int) (R_openEnds : Int → Int) (x1 : Int) : Prop :=
  (0 ≤ x1 ∧ x1 < 144) ∧ (∀ v_2 : Int, v_2 = F_state x1 → inR v_2 → (∃ J_3 : (Int) → Prop, (∃ J_7 : Prop, ((¬ v_2 = 2 → (J_7)) ∧ (v_2 = 2 → ((0 ≤ x1 ∧ x1 < 144) ∧ (∀ v_11 : Int, v_11 = R_openEnds x1 → inR v_11 → ((v_11 ≤ 0 → (J_7)) ∧ (¬ v_11 ≤ 0 → (J_3 1))))))) ∧ (J_7 → (J_3 0))) ∧ (∀ (z_5 : Int), inR z_5 → J_3 z_5 → ((z_5 = 0 ∨ z_5 = 1) ∧ (post z_5)))))
set_option maxRecDepth 100000 in
set_option maxHeartbeats 4000000 in
theorem c_X7_isTelling (l : Launch) (K : wK) (ad : Nat → Nat) {D_hasBoard : Int} {D_beganBlank : Int} {F_mines : Int} {F_moves : Int} {F_changes : Int} {G_width : Int} {G_height : Int} {G_size : Int} {B_parts : Int} {B_longest : Int} {S_groups : Int} {S_askedGroup : Int} {S_taken : Int} {R_waitingCount : Int} {R_metCount : Int} {A_grade : Int} {A_cell : Int} {A_mined : Int} {A_withTotal : Int} {A_numbers : Int} {X_low : Int} {X_high : Int} {Y_low : Int} {Y_high : Int} {F_mined : Int → Int} {F_number : Int → Int} {F_state : Int → Int} {F_cellsIn : Int → Int} {F_unknownNear : Int → Int} {F_hitNear : Int → Int} {F_moveStart : Int → Int} {F_changed : Int → Int} {F_waiting : Int → Int} {F_seen : Int → Int} {G_near : Int → Int} {G_nearEnd : Int → Int} {B_chosen : Int → Int} {B_partOf : Int → Int} {B_rest : Int → Int} {B_unknowns : Int → Int} {B_partStart : Int → Int} {B_cells : Int → Int} {S_minedSet : Int → Int} {S_safeSet : Int → Int} {S_partSet : Int → Int} {S_tally : Int → Int} {S_askedTally : Int → Int} {S_groupOf : Int → Int} {S_groupSize : Int → Int} {S_links : Int → Int} {S_linkEnd : Int → Int} {S_pick : Int → Int} {S_groupMinedSet : Int → Int} {S_groupSafeSet : Int → Int} {O_sums : Int → Int64} {O_nextSums : Int → Int64} {R_found : Int → Int} {R_openEnds : Int → Int} {R_need : Int → Int} {R_waiting : Int → Int} {R_waits : Int → Int} {R_common : Int → Int} {R_met : Int → Int} {A_number : Int → Int} {Q_mined : Int → Int64} {Q_all : Int → Int64} {Q_choices : Int → Int64} {Q_term : Int → Int64} {Q_divisor : Int → Int64} {Q_spare : Int → Int64} {X_limbs : Int → Int64} {X_sum : Int → Int64} {Y_limbs : Int → Int64} {Y_sum : Int → Int64} (x1 : Int) (rx1 : inR x1) (post : Int → Prop) (h : P_X7_isTelling post F_state R_openEnds x1) : mI l yX7_isTelling (Cond.code yX7_isTelling cX7_isTelling 2 (some .boolean) :: GT) ({ frames := 2, cells := 0, slots := 0, locals := 120 } : Room) [.ref (ad 6), .int (iI x1)] K ad (dW D_hasBoard D_beganBlank F_mines F_moves F_changes G_width G_height G_size B_parts B_longest S_groups S_askedGroup S_taken R_waitingCount R_metCount A_grade A_cell A_mined A_withTotal A_numbers X_low X_high Y_low Y_high F_mined F_number F_state F_cellsIn F_unknownNear F_hitNear F_moveStart F_changed F_waiting F_seen G_near G_nearEnd B_chosen B_partOf B_rest B_unknowns B_partStart B_cells S_minedSet S_safeSet S_partSet S_tally S_askedTally S_groupOf S_groupSize S_links S_linkEnd S_pick S_groupMinedSet S_groupSafeSet O_sums O_nextSums R_found R_openEnds R_need R_waiting R_waits R_common R_met A_number Q_mined Q_all Q_choices Q_term Q_divisor Q_spare X_limbs X_sum Y_limbs Y_sum) (fun z9 u9 => (z9 = 0 ∨ z9 = 1) ∧ u9 = (dW D_hasBoard D_beganBlank F_mines F_moves F_changes G_width G_height G_size B_parts B_longest S_groups S_askedGroup S_taken R_waitingCount R_metCount A_grade A_cell A_mined A_withTotal A_numbers X_low X_high Y_low Y_high F_mined F_number F_state F_cellsIn F_unknownNear F_hitNear F_moveStart F_changed F_waiting F_seen G_near G_nearEnd B_chosen B_partOf B_rest B_unknowns B_partStart B_cells S_minedSet S_safeSet S_partSet S_tally S_askedTally S_groupOf S_groupSize S_links S_linkEnd S_pick S_groupMinedSet S_groupSafeSet O_sums O_nextSums R_found R_openEnds R_need R_waiting R_waits R_common R_met A_number Q_mined Q_all Q_choices Q_term Q_divisor Q_spare X_limbs X_sum Y_limbs Y_sum) ∧ post z9) := by
  refine mZ_of (lv0 := [(0, .ref (ad 6)), (1, .int (iI x1))]) (by decide) (Nat.le_of_ble_eq_true rfl) rfl ?_
  intro p e s m args below meth c Q A C ret
  replace C : Cx p ({ frames := 2, cells := 0, slots := 0, locals := 120 } : Room) m c 0 0 cX7_isTelling 2 s args RX7 K A := C
  unfold P_X7_isTelling at h
  refine wa_aload_n C 0 rfl dX7_isTelling_0 rfl ?_
  refine wa_getR C 6 1 dW_6 rfl rfl (by decide) okX7 gw_299 dX7_isTelling_1 ?_
  refine wa_getR C 1 3 dW_1 rfl rfl (by decide) okX2 gw_98 dX7_isTelling_4 ?_
  refine wa_iload_n C 1 rfl dX7_isTelling_7 rfl ?_
  obtain ⟨t_1, h⟩ := h
  refine wa_iald C 14 dW_14 dX7_isTelling_8 t_1.1 t_1.2 (fun v_2 ev_2 rv_2 => ?_)
  replace h := h v_2 ev_2 rv_2
  refine wa_iconst C (z := 2) dX7_isTelling_9 rfl ?_
  obtain ⟨J_3, h, hJ_3⟩ := h
  have k_4 : ∀ (z_5 : Int), inR z_5 → J_3 z_5 → WA p l e ({ frames := 2, cells := 0, slots := 0, locals := 120 } : Room) s m args below meth c 0 0 Q K ad 2 A 27 [] [.int (iI z_5)] (dW D_hasBoard D_beganBlank F_mines F_moves F_changes G_width G_height G_size B_parts B_longest S_groups S_askedGroup S_taken R_waitingCount R_metCount A_grade A_cell A_mined A_withTotal A_numbers X_low X_high Y_low Y_high F_mined F_number F_state F_cellsIn F_unknownNear F_hitNear F_moveStart F_changed F_waiting F_seen G_near G_nearEnd B_chosen B_partOf B_rest B_unknowns B_partStart B_cells S_minedSet S_safeSet S_partSet S_tally S_askedTally S_groupOf S_groupSize S_links S_linkEnd S_pick S_groupMinedSet S_groupSafeSet O_sums O_nextSums R_found R_openEnds R_need R_waiting R_waits R_common R_met A_number Q_mined Q_all Q_choices Q_term Q_divisor Q_spare X_limbs X_sum Y_limbs Y_sum) := by
    intro z_5 rz_5 h
    replace h := hJ_3 z_5 rz_5 h
    obtain ⟨b_6, h⟩ := h
    exact ret dX7_isTelling_27 b_6 ⟨b_6, rfl, h⟩
  obtain ⟨J_7, h, hJ_7⟩ := h
  have k_8 : J_7 → WA p l e ({ frames := 2, cells := 0, slots := 0, locals := 120 } : Room) s m args below meth c 0 0 Q K ad 2 A 26 [] [] (dW D_hasBoard D_beganBlank F_mines F_moves F_changes G_width G_height G_size B_parts B_longest S_groups S_askedGroup S_taken R_waitingCount R_metCount A_grade A_cell A_mined A_withTotal A_numbers X_low X_high Y_low Y_high F_mined F_number F_state F_cellsIn F_unknownNear F_hitNear F_moveStart F_changed F_waiting F_seen G_near G_nearEnd B_chosen B_partOf B_rest B_unknowns B_partStart B_cells S_minedSet S_safeSet S_partSet S_tally S_askedTally S_groupOf S_groupSize S_links S_linkEnd S_pick S_groupMinedSet S_groupSafeSet O_sums O_nextSums R_found R_openEnds R_need R_waiting R_waits R_common R_met A_number Q_mined Q_all Q_choices Q_term Q_divisor Q_spare X_limbs X_sum Y_limbs Y_sum) := by
    intro h
    replace h := hJ_7 h
    refine wa_iconst C (z := 0) dX7_isTelling_26 rfl ?_
    refine wa_sub C [] rfl ?_
    exact k_4 0 (inR_k 0 rfl) h
  refine wa_icmp_ne C (tgt := 26) rv_2 (inR_k 2 rfl) dX7_isTelling_10 (by decide) (fun c_9 => ?_) (fun c_9 => ?_)
  · replace h := h.1 c_9
    refine wa_sub C [] rfl ?_
    exact k_8 h
  · replace h := h.2 c_9
    refine wa_aload_n C 0 rfl dX7_isTelling_13 rfl ?_
    refine wa_getR C 6 4 dW_6 rfl rfl (by decide) okX7 gw_302 dX7_isTelling_14 ?_
    refine wa_iload_n C 1 rfl dX7_isTelling_17 rfl ?_
    obtain ⟨t_10, h⟩ := h
    refine wa_iald C 45 dW_45 dX7_isTelling_18 t_10.1 t_10.2 (fun v_11 ev_11 rv_11 => ?_)
    replace h := h v_11 ev_11 rv_11
    refine wa_if_le C (tgt := 26) rv_11 dX7_isTelling_19 (by decide) (fun c_12 => ?_) (fun c_12 => ?_)
    · replace h := h.1 c_12
      refine wa_sub C [] rfl ?_
      exact k_8 h
    · replace h := h.2 c_12
      refine wa_iconst C (z := 1) dX7_isTelling_22 rfl ?_
      refine wa_goto C (tgt := 27) dX7_isTelling_23 (by decide) ?_
      refine wa_sub C [] rfl ?_
      exact k_4 1 (inR_k 1 rfl) h
def P_X7_meetNumbersAround (post : (Int) → (Int → Int) → (Int → Int) → Prop) (R_metCount : Int) (F_state : Int → Int) (G_near : Int → Int) (G_nearEnd : Int → Int) (R_common : Int → Int) (R_met : Int → Int) (x1 : Int) (x2 : Int) : Prop :=
  inR (x1 * 8) ∧ (∀ x3_2 : Int, x3_2 = (x1 * 8) → (∃ Inv_3 : Nat → (Int) → (Int) → (Int → Int) → (Int → Int) → Prop, (∃ n_4 : Nat, Inv_3 n_4 x3_2 R_metCount R_common R_met) ∧ ∀ (n_5 : Nat) (x3_8 : Int) (R_metCount_9 : Int) (R_common_10 : Int → Int) (R_met_11 : Int → Int), inR x3_8 → Inv_3 n_5 x3_8 R_metCount_9 R_common_10 R_met_11 → ((0 ≤ x1 ∧ x1 < 144) ∧ (∀ v_13 : Int, v_13 = G_nearEnd x1 → inR v_13 → ((v_13 ≤ x3_8 → (post R_metCount_9 R_common_10 R_met_11)) ∧ (¬ v_13 ≤ x3_8 → ((0 ≤ x3_8 ∧ x3_8 < 1152) ∧ (∀ v_16 : Int, v_16 = G_near x3_8 → inR v_16 → (∃ J_17 : (Int) → (Int → Int) → (Int → Int) → Prop, ((v_16 = x2 → (J_17 R_metCount_9 R_common_10 R_met_11)) ∧ (¬ v_16 = x2 → ((0 ≤ v_16 ∧ v_16 < 144) ∧ (∀ v_27 : Int, v_27 = F_state v_16 → inR v_27 → ((v_27 = 2 → ((0 ≤ v_16 ∧ v_16 < 144) ∧ (∀ v_30 : Int, v_30 = R_common_10 v_16 → inR v_30 → (∃ J_31 : (Int) → (Int → Int) → Prop, ((¬ v_30 = 0 → (J_31 R_metCount_9 R_met_11)) ∧ (v_30 = 0 → ((144 ≤ R_metCount_9 → (J_31 R_metCount_9 R_met_11)) ∧ (¬ 144 ≤ R_metCount_9 → ((0 ≤ R_metCount_9 ∧ R_metCount_9 < 144) ∧ (∀ R_met_45 : Int → Int, R_met_45 = upZ R_met_11 R_metCount_9 v_16 → (inR (R_metCount_9 + 1) ∧ (∀ R_metCount_48 : Int, R_metCount_48 = (R_metCount_9 + 1) → (J_31 R_metCount_48 R_met_45))))))))) ∧ (∀ (R_metCount_33 : Int) (R_met_34 : Int → Int), J_31 R_metCount_33 R_met_34 → ((0 ≤ v_16 ∧ v_16 < 144) ∧ (∀ v_36 : Int, v_36 = R_common_10 v_16 → inR v_36 → ((0 ≤ v_16 ∧ v_16 < 144) ∧ (inR (v_36 + 1) ∧ (∀ R_common_39 : Int → Int, R_common_39 = upZ R_common_10 v_16 (v_36 + 1) → (J_17 R_metCount_33 R_common_39 R_met_34))))))))))) ∧ (¬ v_27 = 2 → (J_17 R_metCount_9 R_common_10 R_met_11))))))) ∧ (∀ (R_metCount_19 : Int) (R_common_20 : Int → Int) (R_met_21 : Int → Int), J_17 R_metCount_19 R_common_20 R_met_21 → (inR (x3_8 + 1) ∧ (∀ x3_23 : Int, x3_23 = (x3_8 + 1) → (∃ n_24 : Nat, n_24 < n_5 ∧ Inv_3 n_24 x3_23 R_metCount_19 R_common_20 R_met_21)))))))))))))
set_option maxRecDepth 100000 in
set_option maxHeartbeats 4000000 in
theorem c_X7_meetNumbersAround (l : Launch) (K : wK) (ad : Nat → Nat) {D_hasBoard : Int} {D_beganBlank : Int} {F_mines : Int} {F_moves : Int} {F_changes : Int} {G_width : Int} {G_height : Int} {G_size : Int} {B_parts : Int} {B_longest : Int} {S_groups : Int} {S_askedGroup : Int} {S_taken : Int} {R_waitingCount : Int} {R_metCount : Int} {A_grade : Int} {A_cell : Int} {A_mined : Int} {A_withTotal : Int} {A_numbers : Int} {X_low : Int} {X_high : Int} {Y_low : Int} {Y_high : Int} {F_mined : Int → Int} {F_number : Int → Int} {F_state : Int → Int} {F_cellsIn : Int → Int} {F_unknownNear : Int → Int} {F_hitNear : Int → Int} {F_moveStart : Int → Int} {F_changed : Int → Int} {F_waiting : Int → Int} {F_seen : Int → Int} {G_near : Int → Int} {G_nearEnd : Int → Int} {B_chosen : Int → Int} {B_partOf : Int → Int} {B_rest : Int → Int} {B_unknowns : Int → Int} {B_partStart : Int → Int} {B_cells : Int → Int} {S_minedSet : Int → Int} {S_safeSet : Int → Int} {S_partSet : Int → Int} {S_tally : Int → Int} {S_askedTally : Int → Int} {S_groupOf : Int → Int} {S_groupSize : Int → Int} {S_links : Int → Int} {S_linkEnd : Int → Int} {S_pick : Int → Int} {S_groupMinedSet : Int → Int} {S_groupSafeSet : Int → Int} {O_sums : Int → Int64} {O_nextSums : Int → Int64} {R_found : Int → Int} {R_openEnds : Int → Int} {R_need : Int → Int} {R_waiting : Int → Int} {R_waits : Int → Int} {R_common : Int → Int} {R_met : Int → Int} {A_number : Int → Int} {Q_mined : Int → Int64} {Q_all : Int → Int64} {Q_choices : Int → Int64} {Q_term : Int → Int64} {Q_divisor : Int → Int64} {Q_spare : Int → Int64} {X_limbs : Int → Int64} {X_sum : Int → Int64} {Y_limbs : Int → Int64} {Y_sum : Int → Int64} (x1 : Int) (x2 : Int) (rx1 : inR x1) (rx2 : inR x2) (post : (Int) → (Int → Int) → (Int → Int) → Prop) (h : P_X7_meetNumbersAround post R_metCount F_state G_near G_nearEnd R_common R_met x1 x2) : mV l yX7_meetNumbersAround (Cond.code yX7_meetNumbersAround cX7_meetNumbersAround 5 none :: GT) ({ frames := 2, cells := 0, slots := 0, locals := 120 } : Room) [.ref (ad 6), .int (iI x1), .int (iI x2)] K ad (dW D_hasBoard D_beganBlank F_mines F_moves F_changes G_width G_height G_size B_parts B_longest S_groups S_askedGroup S_taken R_waitingCount R_metCount A_grade A_cell A_mined A_withTotal A_numbers X_low X_high Y_low Y_high F_mined F_number F_state F_cellsIn F_unknownNear F_hitNear F_moveStart F_changed F_waiting F_seen G_near G_nearEnd B_chosen B_partOf B_rest B_unknowns B_partStart B_cells S_minedSet S_safeSet S_partSet S_tally S_askedTally S_groupOf S_groupSize S_links S_linkEnd S_pick S_groupMinedSet S_groupSafeSet O_sums O_nextSums R_found R_openEnds R_need R_waiting R_waits R_common R_met A_number Q_mined Q_all Q_choices Q_term Q_divisor Q_spare X_limbs X_sum Y_limbs Y_sum) (fun u9 => ∃ R_metCount9 R_common9 R_met9, u9 = (dW D_hasBoard D_beganBlank F_mines F_moves F_changes G_width G_height G_size B_parts B_longest S_groups S_askedGroup S_taken R_waitingCount R_metCount9 A_grade A_cell A_mined A_withTotal A_numbers X_low X_high Y_low Y_high F_mined F_number F_state F_cellsIn F_unknownNear F_hitNear F_moveStart F_changed F_waiting F_seen G_near G_nearEnd B_chosen B_partOf B_rest B_unknowns B_partStart B_cells S_minedSet S_safeSet S_partSet S_tally S_askedTally S_groupOf S_groupSize S_links S_linkEnd S_pick S_groupMinedSet S_groupSafeSet O_sums O_nextSums R_found R_openEnds R_need R_waiting R_waits R_common9 R_met9 A_number Q_mined Q_all Q_choices Q_term Q_divisor Q_spare X_limbs X_sum Y_limbs Y_sum) ∧ post R_metCount9 R_common9 R_met9) := by
  refine mV_of (lv0 := [(0, .ref (ad 6)), (1, .int (iI x1)), (2, .int (iI x2))]) (by decide) (Nat.le_of_ble_eq_true rfl) rfl ?_
  intro p e s m args below meth c Q A C ret
  replace C : Cx p ({ frames := 2, cells := 0, slots := 0, locals := 120 } : Room) m c 0 0 cX7_meetNumbersAround 5 s args RX7 K A := C
  unfold P_X7_meetNumbersAround at h
  refine wa_iload_n C 1 rfl dX7_meetNumbersAround_0 rfl ?_
  refine wa_bipush C (z := 8) dX7_meetNumbersAround_1 (by decide) ?_
  refine wa_imul C dX7_meetNumbersAround_3 ?_
  obtain ⟨r_1, h⟩ := h
  refine wa_nmi (fun x3_2 ex3_2 => ?_)
  replace h := h x3_2 ex3_2
  have rx3_2 : inR x3_2 := by rw [ex3_2]; exact r_1
  refine wa_istore_n C dX7_meetNumbersAround_4 rfl (by decide) rfl ?_
  obtain ⟨Inv_3, ⟨n_4, h0Inv_3⟩, hInv_3⟩ := h
  have k_7 : ∀ (n_5 : Nat) (x3_8 : Int) (R_metCount_9 : Int) (R_common_10 : Int → Int) (R_met_11 : Int → Int), inR x3_8 → Inv_3 n_5 x3_8 R_metCount_9 R_common_10 R_met_11 → WA p l e ({ frames := 2, cells := 0, slots := 0, locals := 120 } : Room) s m args below meth c 0 0 Q K ad 5 A 5 [(0, .ref (ad 6)), (1, .int (iI x1)), (2, .int (iI x2)), (3, .int (iI x3_8))] [] (dW D_hasBoard D_beganBlank F_mines F_moves F_changes G_width G_height G_size B_parts B_longest S_groups S_askedGroup S_taken R_waitingCount R_metCount_9 A_grade A_cell A_mined A_withTotal A_numbers X_low X_high Y_low Y_high F_mined F_number F_state F_cellsIn F_unknownNear F_hitNear F_moveStart F_changed F_waiting F_seen G_near G_nearEnd B_chosen B_partOf B_rest B_unknowns B_partStart B_cells S_minedSet S_safeSet S_partSet S_tally S_askedTally S_groupOf S_groupSize S_links S_linkEnd S_pick S_groupMinedSet S_groupSafeSet O_sums O_nextSums R_found R_openEnds R_need R_waiting R_waits R_common_10 R_met_11 A_number Q_mined Q_all Q_choices Q_term Q_divisor Q_spare X_limbs X_sum Y_limbs Y_sum) := by
    intro n_5
    induction n_5 using Nat.strongRecOn with
    | ind n_5 ih_6 =>
      intro x3_8 R_metCount_9 R_common_10 R_met_11 rx3_8 h
      replace h := hInv_3 n_5 x3_8 R_metCount_9 R_common_10 R_met_11 rx3_8 h
      refine wa_iload_n C 3 rfl dX7_meetNumbersAround_5 rfl ?_
      refine wa_aload_n C 0 rfl dX7_meetNumbersAround_6 rfl ?_
      refine wa_getR C 6 2 dW_6 rfl rfl (by decide) okX7 gw_300 dX7_meetNumbersAround_7 ?_
      refine wa_getR C 2 4 dW_2 rfl rfl (by decide) okX3 gw_67 dX7_meetNumbersAround_10 ?_
      refine wa_iload_n C 1 rfl dX7_meetNumbersAround_13 rfl ?_
      obtain ⟨t_12, h⟩ := h
      refine wa_iald C 23 dW_23 dX7_meetNumbersAround_14 t_12.1 t_12.2 (fun v_13 ev_13 rv_13 => ?_)
      replace h := h v_13 ev_13 rv_13
      refine wa_icmp_ge C (tgt := 110) rx3_8 rv_13 dX7_meetNumbersAround_15 (by decide) (fun c_14 => ?_) (fun c_14 => ?_)
      · replace h := h.1 c_14
        exact ret dX7_meetNumbersAround_110 ⟨_, _, _, rfl, h⟩
      · replace h := h.2 c_14
        refine wa_aload_n C 0 rfl dX7_meetNumbersAround_18 rfl ?_
        refine wa_getR C 6 2 dW_6 rfl rfl (by decide) okX7 gw_300 dX7_meetNumbersAround_19 ?_
        refine wa_getR C 2 3 dW_2 rfl rfl (by decide) okX3 gw_61 dX7_meetNumbersAround_22 ?_
        refine wa_iload_n C 3 rfl dX7_meetNumbersAround_25 rfl ?_
        obtain ⟨t_15, h⟩ := h
        refine wa_iald C 22 dW_22 dX7_meetNumbersAround_26 t_15.1 t_15.2 (fun v_16 ev_16 rv_16 => ?_)
        replace h := h v_16 ev_16 rv_16
        refine wa_istore C dX7_meetNumbersAround_27 (by decide) rfl ?_
        refine wa_iload C 0 rfl dX7_meetNumbersAround_29 ?_
        refine wa_iload_n C 3 rfl dX7_meetNumbersAround_31 rfl ?_
        obtain ⟨J_17, h, hJ_17⟩ := h
        have k_18 : ∀ (R_metCount_19 : Int) (R_common_20 : Int → Int) (R_met_21 : Int → Int), J_17 R_metCount_19 R_common_20 R_met_21 → WA p l e ({ frames := 2, cells := 0, slots := 0, locals := 120 } : Room) s m args below meth c 0 0 Q K ad 5 A 104 [(0, .ref (ad 6)), (1, .int (iI x1)), (2, .int (iI x2)), (3, .int (iI x3_8))] [] (dW D_hasBoard D_beganBlank F_mines F_moves F_changes G_width G_height G_size B_parts B_longest S_groups S_askedGroup S_taken R_waitingCount R_metCount_19 A_grade A_cell A_mined A_withTotal A_numbers X_low X_high Y_low Y_high F_mined F_number F_state F_cellsIn F_unknownNear F_hitNear F_moveStart F_changed F_waiting F_seen G_near G_nearEnd B_chosen B_partOf B_rest B_unknowns B_partStart B_cells S_minedSet S_safeSet S_partSet S_tally S_askedTally S_groupOf S_groupSize S_links S_linkEnd S_pick S_groupMinedSet S_groupSafeSet O_sums O_nextSums R_found R_openEnds R_need R_waiting R_waits R_common_20 R_met_21 A_number Q_mined Q_all Q_choices Q_term Q_divisor Q_spare X_limbs X_sum Y_limbs Y_sum) := by
          intro R_metCount_19 R_common_20 R_met_21 h
          replace h := hJ_17 R_metCount_19 R_common_20 R_met_21 h
          obtain ⟨r_22, h⟩ := h
          refine wa_iinc C (lv' := fun w9 => [(3, .int (iI w9)), (0, .ref (ad 6)), (1, .int (iI x1)), (2, .int (iI x2))]) 3 rfl dX7_meetNumbersAround_104 (by decide) (fun _ => rfl) (fun x3_23 ex3_23 => ?_)
          replace h := h x3_23 ex3_23
          have rx3_23 : inR x3_23 := by rw [ex3_23]; exact r_22
          refine wa_goto C (tgt := 5) dX7_meetNumbersAround_107 (by decide) ?_
          obtain ⟨n_24, ln_24, h⟩ := h
          refine wa_sub C [1, 2, 3, 0] rfl ?_
          exact ih_6 n_24 ln_24 x3_23 R_metCount_19 R_common_20 R_met_21 rx3_23 h
        refine wa_icmp_eq C (tgt := 104) rv_16 rx2 dX7_meetNumbersAround_32 (by decide) (fun c_25 => ?_) (fun c_25 => ?_)
        · replace h := h.1 c_25
          refine wa_sub C [1, 2, 3, 4] rfl ?_
          exact k_18 R_metCount_9 R_common_10 R_met_11 h
        · replace h := h.2 c_25
          refine wa_aload_n C 1 rfl dX7_meetNumbersAround_35 rfl ?_
          refine wa_getR C 6 1 dW_6 rfl rfl (by decide) okX7 gw_299 dX7_meetNumbersAround_36 ?_
          refine wa_getR C 1 3 dW_1 rfl rfl (by decide) okX2 gw_98 dX7_meetNumbersAround_39 ?_
          refine wa_iload C 0 rfl dX7_meetNumbersAround_42 ?_
          obtain ⟨t_26, h⟩ := h
          refine wa_iald C 14 dW_14 dX7_meetNumbersAround_44 t_26.1 t_26.2 (fun v_27 ev_27 rv_27 => ?_)
          replace h := h v_27 ev_27 rv_27
          refine wa_iconst C (z := 2) dX7_meetNumbersAround_45 rfl ?_
          refine wa_icmp_eq C (tgt := 52) rv_27 (inR_k 2 rfl) dX7_meetNumbersAround_46 (by decide) (fun c_28 => ?_) (fun c_28 => ?_)
          · replace h := h.1 c_28
            refine wa_aload_n C 1 rfl dX7_meetNumbersAround_52 rfl ?_
            refine wa_getR C 6 9 dW_6 rfl rfl (by decide) okX7 gw_307 dX7_meetNumbersAround_53 ?_
            refine wa_iload C 0 rfl dX7_meetNumbersAround_56 ?_
            obtain ⟨t_29, h⟩ := h
            refine wa_iald C 49 dW_49 dX7_meetNumbersAround_58 t_29.1 t_29.2 (fun v_30 ev_30 rv_30 => ?_)
            replace h := h v_30 ev_30 rv_30
            obtain ⟨J_31, h, hJ_31⟩ := h
            have k_32 : ∀ (R_metCount_33 : Int) (R_met_34 : Int → Int), J_31 R_metCount_33 R_met_34 → WA p l e ({ frames := 2, cells := 0, slots := 0, locals := 120 } : Room) s m args below meth c 0 0 Q K ad 5 A 93 [(0, .ref (ad 6)), (1, .int (iI x1)), (2, .int (iI x2)), (3, .int (iI x3_8)), (4, .int (iI v_16))] [] (dW D_hasBoard D_beganBlank F_mines F_moves F_changes G_width G_height G_size B_parts B_longest S_groups S_askedGroup S_taken R_waitingCount R_metCount_33 A_grade A_cell A_mined A_withTotal A_numbers X_low X_high Y_low Y_high F_mined F_number F_state F_cellsIn F_unknownNear F_hitNear F_moveStart F_changed F_waiting F_seen G_near G_nearEnd B_chosen B_partOf B_rest B_unknowns B_partStart B_cells S_minedSet S_safeSet S_partSet S_tally S_askedTally S_groupOf S_groupSize S_links S_linkEnd S_pick S_groupMinedSet S_groupSafeSet O_sums O_nextSums R_found R_openEnds R_need R_waiting R_waits R_common_10 R_met_34 A_number Q_mined Q_all Q_choices Q_term Q_divisor Q_spare X_limbs X_sum Y_limbs Y_sum) := by
              intro R_metCount_33 R_met_34 h
              replace h := hJ_31 R_metCount_33 R_met_34 h
              refine wa_aload_n C 0 rfl dX7_meetNumbersAround_93 rfl ?_
              refine wa_getR C 6 9 dW_6 rfl rfl (by decide) okX7 gw_307 dX7_meetNumbersAround_94 ?_
              refine wa_iload C 4 rfl dX7_meetNumbersAround_97 ?_
              refine wa_dup2 C dX7_meetNumbersAround_99 rfl rfl ?_
              obtain ⟨t_35, h⟩ := h
              refine wa_iald C 49 dW_49 dX7_meetNumbersAround_100 t_35.1 t_35.2 (fun v_36 ev_36 rv_36 => ?_)
              replace h := h v_36 ev_36 rv_36
              refine wa_iconst C (z := 1) dX7_meetNumbersAround_101 rfl ?_
              refine wa_iadd C dX7_meetNumbersAround_102 ?_
              obtain ⟨t_37, h⟩ := h
              obtain ⟨r_38, h⟩ := h
              refine wa_iast C (ws' := fun w9 => (dW D_hasBoard D_beganBlank F_mines F_moves F_changes G_width G_height G_size B_parts B_longest S_groups S_askedGroup S_taken R_waitingCount R_metCount_33 A_grade A_cell A_mined A_withTotal A_numbers X_low X_high Y_low Y_high F_mined F_number F_state F_cellsIn F_unknownNear F_hitNear F_moveStart F_changed F_waiting F_seen G_near G_nearEnd B_chosen B_partOf B_rest B_unknowns B_partStart B_cells S_minedSet S_safeSet S_partSet S_tally S_askedTally S_groupOf S_groupSize S_links S_linkEnd S_pick S_groupMinedSet S_groupSafeSet O_sums O_nextSums R_found R_openEnds R_need R_waiting R_waits w9 R_met_34 A_number Q_mined Q_all Q_choices Q_term Q_divisor Q_spare X_limbs X_sum Y_limbs Y_sum)) 49 dW_49 dX7_meetNumbersAround_103 t_37.1 t_37.2 r_38 dWs_49 (fun R_common_39 eR_common_39 => ?_)
              replace h := h R_common_39 eR_common_39
              refine wa_sub C [0, 1, 2, 3] rfl ?_
              exact k_18 R_metCount_33 R_common_39 R_met_34 h
            refine wa_if_ne C (tgt := 93) rv_30 dX7_meetNumbersAround_59 (by decide) (fun c_40 => ?_) (fun c_40 => ?_)
            · replace h := h.1 c_40
              refine wa_sub C [1, 2, 3, 4, 0] rfl ?_
              exact k_32 R_metCount_9 R_met_11 h
            · replace h := h.2 c_40
              refine wa_aload_n C 1 rfl dX7_meetNumbersAround_62 rfl ?_
              refine wa_getI C 6 11 dW_6 rfl rfl (by decide) okX7 gw_309 dX7_meetNumbersAround_63 (fun r_41 => ?_)
              refine wa_sipush C (z := 144) dX7_meetNumbersAround_66 (by decide) ?_
              refine wa_icmp_ge C (tgt := 93) r_41 (inR_k 144 rfl) dX7_meetNumbersAround_69 (by decide) (fun c_42 => ?_) (fun c_42 => ?_)
              · replace h := h.1 c_42
                refine wa_sub C [1, 2, 3, 4, 0] rfl ?_
                exact k_32 R_metCount_9 R_met_11 h
              · replace h := h.2 c_42
                refine wa_aload_n C 1 rfl dX7_meetNumbersAround_72 rfl ?_
                refine wa_getR C 6 10 dW_6 rfl rfl (by decide) okX7 gw_308 dX7_meetNumbersAround_73 ?_
                refine wa_aload_n C 1 rfl dX7_meetNumbersAround_76 rfl ?_
                refine wa_getI C 6 11 dW_6 rfl rfl (by decide) okX7 gw_309 dX7_meetNumbersAround_77 (fun r_43 => ?_)
                refine wa_iload C 0 rfl dX7_meetNumbersAround_80 ?_
                obtain ⟨t_44, h⟩ := h
                refine wa_iast C (ws' := fun w9 => (dW D_hasBoard D_beganBlank F_mines F_moves F_changes G_width G_height G_size B_parts B_longest S_groups S_askedGroup S_taken R_waitingCount R_metCount_9 A_grade A_cell A_mined A_withTotal A_numbers X_low X_high Y_low Y_high F_mined F_number F_state F_cellsIn F_unknownNear F_hitNear F_moveStart F_changed F_waiting F_seen G_near G_nearEnd B_chosen B_partOf B_rest B_unknowns B_partStart B_cells S_minedSet S_safeSet S_partSet S_tally S_askedTally S_groupOf S_groupSize S_links S_linkEnd S_pick S_groupMinedSet S_groupSafeSet O_sums O_nextSums R_found R_openEnds R_need R_waiting R_waits R_common_10 w9 A_number Q_mined Q_all Q_choices Q_term Q_divisor Q_spare X_limbs X_sum Y_limbs Y_sum)) 50 dW_50 dX7_meetNumbersAround_82 t_44.1 t_44.2 rv_16 dWs_50 (fun R_met_45 eR_met_45 => ?_)
                replace h := h R_met_45 eR_met_45
                refine wa_aload_n C 1 rfl dX7_meetNumbersAround_83 rfl ?_
                refine wa_dup C dX7_meetNumbersAround_84 rfl ?_
                refine wa_getI C 6 11 dW_6 rfl rfl (by decide) okX7 gw_309 dX7_meetNumbersAround_85 (fun r_46 => ?_)
                refine wa_iconst C (z := 1) dX7_meetNumbersAround_88 rfl ?_
                refine wa_iadd C dX7_meetNumbersAround_89 ?_
                obtain ⟨r_47, h⟩ := h
                refine wa_nmi (fun R_metCount_48 eR_metCount_48 => ?_)
                replace h := h R_metCount_48 eR_metCount_48
                have rR_metCount_48 : inR R_metCount_48 := by rw [eR_metCount_48]; exact r_47
                refine wa_putI C (ws' := (dW D_hasBoard D_beganBlank F_mines F_moves F_changes G_width G_height G_size B_parts B_longest S_groups S_askedGroup S_taken R_waitingCount R_metCount_48 A_grade A_cell A_mined A_withTotal A_numbers X_low X_high Y_low Y_high F_mined F_number F_state F_cellsIn F_unknownNear F_hitNear F_moveStart F_changed F_waiting F_seen G_near G_nearEnd B_chosen B_partOf B_rest B_unknowns B_partStart B_cells S_minedSet S_safeSet S_partSet S_tally S_askedTally S_groupOf S_groupSize S_links S_linkEnd S_pick S_groupMinedSet S_groupSafeSet O_sums O_nextSums R_found R_openEnds R_need R_waiting R_waits R_common_10 R_met_45 A_number Q_mined Q_all Q_choices Q_term Q_divisor Q_spare X_limbs X_sum Y_limbs Y_sum)) 6 11 dW_6 rfl (by decide) okX7 gw_309 rfl rfl (Nat.le_of_ble_eq_true rfl) rR_metCount_48 (dWp_6_11 _) dX7_meetNumbersAround_90 ?_
                refine wa_sub C [1, 2, 3, 4, 0] rfl ?_
                exact k_32 R_metCount_48 R_met_45 h
          · replace h := h.2 c_28
            refine wa_goto C (tgt := 104) dX7_meetNumbersAround_49 (by decide) ?_
            refine wa_sub C [1, 2, 3, 4] rfl ?_
            exact k_18 R_metCount_9 R_common_10 R_met_11 h
  refine wa_sub C [1, 2, 3, 0] rfl ?_
  exact k_7 n_4 x3_2 R_metCount R_common R_met rx3_2 h0Inv_3
def P_X7_countCommonEnds (post : (Int) → (Int → Int) → (Int → Int) → Prop) (R_metCount : Int) (F_state : Int → Int) (G_near : Int → Int) (G_nearEnd : Int → Int) (R_found : Int → Int) (R_common : Int → Int) (R_met : Int → Int) (x1 : Int) : Prop :=
  inR (x1 * 8) ∧ (∀ x2_2 : Int, x2_2 = (x1 * 8) → (∃ Inv_3 : Nat → (Int) → (Int) → (Int → Int) → (Int → Int) → Prop, (∃ n_4 : Nat, Inv_3 n_4 x2_2 0 R_common R_met) ∧ ∀ (n_5 : Nat) (x2_8 : Int) (R_metCount_9 : Int) (R_common_10 : Int → Int) (R_met_11 : Int → Int), inR x2_8 → Inv_3 n_5 x2_8 R_metCount_9 R_common_10 R_met_11 → ((0 ≤ x1 ∧ x1 < 144) ∧ (∀ v_13 : Int, v_13 = G_nearEnd x1 → inR v_13 → ((v_13 ≤ x2_8 → (post R_metCount_9 R_common_10 R_met_11)) ∧ (¬ v_13 ≤ x2_8 → ((0 ≤ x2_8 ∧ x2_8 < 1152) ∧ (∀ v_16 : Int, v_16 = G_near x2_8 → inR v_16 → ((0 ≤ v_16 ∧ v_16 < 144) ∧ (∀ v_18 : Int, v_18 = R_found v_16 → inR v_18 → (∃ J_19 : (Int) → (Int → Int) → (Int → Int) → Prop, ((¬ v_18 = 0 → (J_19 R_metCount_9 R_common_10 R_met_11)) ∧ (v_18 = 0 → ((0 ≤ x2_8 ∧ x2_8 < 1152) ∧ (∀ v_29 : Int, v_29 = G_near x2_8 → inR v_29 → (P_X7_meetNumbersAround (fun (R_metCount_30 : Int) (R_common_31 : Int → Int) (R_met_32 : Int → Int) => (J_19 R_metCount_30 R_common_31 R_met_32)) R_metCount_9 F_state G_near G_nearEnd R_common_10 R_met_11 v_29 x1))))) ∧ (∀ (R_metCount_21 : Int) (R_common_22 : Int → Int) (R_met_23 : Int → Int), J_19 R_metCount_21 R_common_22 R_met_23 → (inR (x2_8 + 1) ∧ (∀ x2_25 : Int, x2_25 = (x2_8 + 1) → (∃ n_26 : Nat, n_26 < n_5 ∧ Inv_3 n_26 x2_25 R_metCount_21 R_common_22 R_met_23)))))))))))))))
set_option maxRecDepth 100000 in
set_option maxHeartbeats 4000000 in
theorem c_X7_countCommonEnds (l : Launch) (K : wK) (ad : Nat → Nat) {D_hasBoard : Int} {D_beganBlank : Int} {F_mines : Int} {F_moves : Int} {F_changes : Int} {G_width : Int} {G_height : Int} {G_size : Int} {B_parts : Int} {B_longest : Int} {S_groups : Int} {S_askedGroup : Int} {S_taken : Int} {R_waitingCount : Int} {R_metCount : Int} {A_grade : Int} {A_cell : Int} {A_mined : Int} {A_withTotal : Int} {A_numbers : Int} {X_low : Int} {X_high : Int} {Y_low : Int} {Y_high : Int} {F_mined : Int → Int} {F_number : Int → Int} {F_state : Int → Int} {F_cellsIn : Int → Int} {F_unknownNear : Int → Int} {F_hitNear : Int → Int} {F_moveStart : Int → Int} {F_changed : Int → Int} {F_waiting : Int → Int} {F_seen : Int → Int} {G_near : Int → Int} {G_nearEnd : Int → Int} {B_chosen : Int → Int} {B_partOf : Int → Int} {B_rest : Int → Int} {B_unknowns : Int → Int} {B_partStart : Int → Int} {B_cells : Int → Int} {S_minedSet : Int → Int} {S_safeSet : Int → Int} {S_partSet : Int → Int} {S_tally : Int → Int} {S_askedTally : Int → Int} {S_groupOf : Int → Int} {S_groupSize : Int → Int} {S_links : Int → Int} {S_linkEnd : Int → Int} {S_pick : Int → Int} {S_groupMinedSet : Int → Int} {S_groupSafeSet : Int → Int} {O_sums : Int → Int64} {O_nextSums : Int → Int64} {R_found : Int → Int} {R_openEnds : Int → Int} {R_need : Int → Int} {R_waiting : Int → Int} {R_waits : Int → Int} {R_common : Int → Int} {R_met : Int → Int} {A_number : Int → Int} {Q_mined : Int → Int64} {Q_all : Int → Int64} {Q_choices : Int → Int64} {Q_term : Int → Int64} {Q_divisor : Int → Int64} {Q_spare : Int → Int64} {X_limbs : Int → Int64} {X_sum : Int → Int64} {Y_limbs : Int → Int64} {Y_sum : Int → Int64} (x1 : Int) (rx1 : inR x1) (post : (Int) → (Int → Int) → (Int → Int) → Prop) (h : P_X7_countCommonEnds post R_metCount F_state G_near G_nearEnd R_found R_common R_met x1) : mV l yX7_countCommonEnds (Cond.code yX7_countCommonEnds cX7_countCommonEnds 3 none :: GT) ({ frames := 3, cells := 0, slots := 0, locals := 180 } : Room) [.ref (ad 6), .int (iI x1)] K ad (dW D_hasBoard D_beganBlank F_mines F_moves F_changes G_width G_height G_size B_parts B_longest S_groups S_askedGroup S_taken R_waitingCount R_metCount A_grade A_cell A_mined A_withTotal A_numbers X_low X_high Y_low Y_high F_mined F_number F_state F_cellsIn F_unknownNear F_hitNear F_moveStart F_changed F_waiting F_seen G_near G_nearEnd B_chosen B_partOf B_rest B_unknowns B_partStart B_cells S_minedSet S_safeSet S_partSet S_tally S_askedTally S_groupOf S_groupSize S_links S_linkEnd S_pick S_groupMinedSet S_groupSafeSet O_sums O_nextSums R_found R_openEnds R_need R_waiting R_waits R_common R_met A_number Q_mined Q_all Q_choices Q_term Q_divisor Q_spare X_limbs X_sum Y_limbs Y_sum) (fun u9 => ∃ R_metCount9 R_common9 R_met9, u9 = (dW D_hasBoard D_beganBlank F_mines F_moves F_changes G_width G_height G_size B_parts B_longest S_groups S_askedGroup S_taken R_waitingCount R_metCount9 A_grade A_cell A_mined A_withTotal A_numbers X_low X_high Y_low Y_high F_mined F_number F_state F_cellsIn F_unknownNear F_hitNear F_moveStart F_changed F_waiting F_seen G_near G_nearEnd B_chosen B_partOf B_rest B_unknowns B_partStart B_cells S_minedSet S_safeSet S_partSet S_tally S_askedTally S_groupOf S_groupSize S_links S_linkEnd S_pick S_groupMinedSet S_groupSafeSet O_sums O_nextSums R_found R_openEnds R_need R_waiting R_waits R_common9 R_met9 A_number Q_mined Q_all Q_choices Q_term Q_divisor Q_spare X_limbs X_sum Y_limbs Y_sum) ∧ post R_metCount9 R_common9 R_met9) := by
  refine mV_of (lv0 := [(0, .ref (ad 6)), (1, .int (iI x1))]) (by decide) (Nat.le_of_ble_eq_true rfl) rfl ?_
  intro p e s m args below meth c Q A C ret
  replace C : Cx p ({ frames := 3, cells := 0, slots := 0, locals := 180 } : Room) m c 0 0 cX7_countCommonEnds 3 s args RX7 K A := C
  unfold P_X7_countCommonEnds at h
  refine wa_aload_n C 0 rfl dX7_countCommonEnds_0 rfl ?_
  refine wa_iconst C (z := 0) dX7_countCommonEnds_1 rfl ?_
  refine wa_putI C (ws' := (dW D_hasBoard D_beganBlank F_mines F_moves F_changes G_width G_height G_size B_parts B_longest S_groups S_askedGroup S_taken R_waitingCount 0 A_grade A_cell A_mined A_withTotal A_numbers X_low X_high Y_low Y_high F_mined F_number F_state F_cellsIn F_unknownNear F_hitNear F_moveStart F_changed F_waiting F_seen G_near G_nearEnd B_chosen B_partOf B_rest B_unknowns B_partStart B_cells S_minedSet S_safeSet S_partSet S_tally S_askedTally S_groupOf S_groupSize S_links S_linkEnd S_pick S_groupMinedSet S_groupSafeSet O_sums O_nextSums R_found R_openEnds R_need R_waiting R_waits R_common R_met A_number Q_mined Q_all Q_choices Q_term Q_divisor Q_spare X_limbs X_sum Y_limbs Y_sum)) 6 11 dW_6 rfl (by decide) okX7 gw_309 rfl rfl (Nat.le_of_ble_eq_true rfl) (inR_k 0 rfl) (dWp_6_11 _) dX7_countCommonEnds_2 ?_
  refine wa_iload_n C 1 rfl dX7_countCommonEnds_5 rfl ?_
  refine wa_bipush C (z := 8) dX7_countCommonEnds_6 (by decide) ?_
  refine wa_imul C dX7_countCommonEnds_8 ?_
  obtain ⟨r_1, h⟩ := h
  refine wa_nmi (fun x2_2 ex2_2 => ?_)
  replace h := h x2_2 ex2_2
  have rx2_2 : inR x2_2 := by rw [ex2_2]; exact r_1
  refine wa_istore_n C dX7_countCommonEnds_9 rfl (by decide) rfl ?_
  obtain ⟨Inv_3, ⟨n_4, h0Inv_3⟩, hInv_3⟩ := h
  have k_7 : ∀ (n_5 : Nat) (x2_8 : Int) (R_metCount_9 : Int) (R_common_10 : Int → Int) (R_met_11 : Int → Int), inR x2_8 → Inv_3 n_5 x2_8 R_metCount_9 R_common_10 R_met_11 → WA p l e ({ frames := 3, cells := 0, slots := 0, locals := 180 } : Room) s m args below meth c 0 0 Q K ad 3 A 10 [(0, .ref (ad 6)), (1, .int (iI x1)), (2, .int (iI x2_8))] [] (dW D_hasBoard D_beganBlank F_mines F_moves F_changes G_width G_height G_size B_parts B_longest S_groups S_askedGroup S_taken R_waitingCount R_metCount_9 A_grade A_cell A_mined A_withTotal A_numbers X_low X_high Y_low Y_high F_mined F_number F_state F_cellsIn F_unknownNear F_hitNear F_moveStart F_changed F_waiting F_seen G_near G_nearEnd B_chosen B_partOf B_rest B_unknowns B_partStart B_cells S_minedSet S_safeSet S_partSet S_tally S_askedTally S_groupOf S_groupSize S_links S_linkEnd S_pick S_groupMinedSet S_groupSafeSet O_sums O_nextSums R_found R_openEnds R_need R_waiting R_waits R_common_10 R_met_11 A_number Q_mined Q_all Q_choices Q_term Q_divisor Q_spare X_limbs X_sum Y_limbs Y_sum) := by
    intro n_5
    induction n_5 using Nat.strongRecOn with
    | ind n_5 ih_6 =>
      intro x2_8 R_metCount_9 R_common_10 R_met_11 rx2_8 h
      replace h := hInv_3 n_5 x2_8 R_metCount_9 R_common_10 R_met_11 rx2_8 h
      refine wa_iload_n C 2 rfl dX7_countCommonEnds_10 rfl ?_
      refine wa_aload_n C 0 rfl dX7_countCommonEnds_11 rfl ?_
      refine wa_getR C 6 2 dW_6 rfl rfl (by decide) okX7 gw_300 dX7_countCommonEnds_12 ?_
      refine wa_getR C 2 4 dW_2 rfl rfl (by decide) okX3 gw_67 dX7_countCommonEnds_15 ?_
      refine wa_iload_n C 1 rfl dX7_countCommonEnds_18 rfl ?_
      obtain ⟨t_12, h⟩ := h
      refine wa_iald C 23 dW_23 dX7_countCommonEnds_19 t_12.1 t_12.2 (fun v_13 ev_13 rv_13 => ?_)
      replace h := h v_13 ev_13 rv_13
      refine wa_icmp_ge C (tgt := 60) rx2_8 rv_13 dX7_countCommonEnds_20 (by decide) (fun c_14 => ?_) (fun c_14 => ?_)
      · replace h := h.1 c_14
        exact ret dX7_countCommonEnds_60 ⟨_, _, _, rfl, h⟩
      · replace h := h.2 c_14
        refine wa_aload_n C 0 rfl dX7_countCommonEnds_23 rfl ?_
        refine wa_getR C 6 0 dW_6 rfl rfl (by decide) okX7 gw_295 dX7_countCommonEnds_24 ?_
        refine wa_aload_n C 0 rfl dX7_countCommonEnds_27 rfl ?_
        refine wa_getR C 6 2 dW_6 rfl rfl (by decide) okX7 gw_300 dX7_countCommonEnds_28 ?_
        refine wa_getR C 2 3 dW_2 rfl rfl (by decide) okX3 gw_61 dX7_countCommonEnds_31 ?_
        refine wa_iload_n C 2 rfl dX7_countCommonEnds_34 rfl ?_
        obtain ⟨t_15, h⟩ := h
        refine wa_iald C 22 dW_22 dX7_countCommonEnds_35 t_15.1 t_15.2 (fun v_16 ev_16 rv_16 => ?_)
        replace h := h v_16 ev_16 rv_16
        obtain ⟨t_17, h⟩ := h
        refine wa_iald C 44 dW_44 dX7_countCommonEnds_36 t_17.1 t_17.2 (fun v_18 ev_18 rv_18 => ?_)
        replace h := h v_18 ev_18 rv_18
        obtain ⟨J_19, h, hJ_19⟩ := h
        have k_20 : ∀ (R_metCount_21 : Int) (R_common_22 : Int → Int) (R_met_23 : Int → Int), J_19 R_metCount_21 R_common_22 R_met_23 → WA p l e ({ frames := 3, cells := 0, slots := 0, locals := 180 } : Room) s m args below meth c 0 0 Q K ad 3 A 54 [(0, .ref (ad 6)), (1, .int (iI x1)), (2, .int (iI x2_8))] [] (dW D_hasBoard D_beganBlank F_mines F_moves F_changes G_width G_height G_size B_parts B_longest S_groups S_askedGroup S_taken R_waitingCount R_metCount_21 A_grade A_cell A_mined A_withTotal A_numbers X_low X_high Y_low Y_high F_mined F_number F_state F_cellsIn F_unknownNear F_hitNear F_moveStart F_changed F_waiting F_seen G_near G_nearEnd B_chosen B_partOf B_rest B_unknowns B_partStart B_cells S_minedSet S_safeSet S_partSet S_tally S_askedTally S_groupOf S_groupSize S_links S_linkEnd S_pick S_groupMinedSet S_groupSafeSet O_sums O_nextSums R_found R_openEnds R_need R_waiting R_waits R_common_22 R_met_23 A_number Q_mined Q_all Q_choices Q_term Q_divisor Q_spare X_limbs X_sum Y_limbs Y_sum) := by
          intro R_metCount_21 R_common_22 R_met_23 h
          replace h := hJ_19 R_metCount_21 R_common_22 R_met_23 h
          obtain ⟨r_24, h⟩ := h
          refine wa_iinc C (lv' := fun w9 => [(2, .int (iI w9)), (0, .ref (ad 6)), (1, .int (iI x1))]) 2 rfl dX7_countCommonEnds_54 (by decide) (fun _ => rfl) (fun x2_25 ex2_25 => ?_)
          replace h := h x2_25 ex2_25
          have rx2_25 : inR x2_25 := by rw [ex2_25]; exact r_24
          refine wa_goto C (tgt := 10) dX7_countCommonEnds_57 (by decide) ?_
          obtain ⟨n_26, ln_26, h⟩ := h
          refine wa_sub C [1, 2, 0] rfl ?_
          exact ih_6 n_26 ln_26 x2_25 R_metCount_21 R_common_22 R_met_23 rx2_25 h
        refine wa_if_ne C (tgt := 54) rv_18 dX7_countCommonEnds_37 (by decide) (fun c_27 => ?_) (fun c_27 => ?_)
        · replace h := h.1 c_27
          refine wa_sub C [0, 1, 2] rfl ?_
          exact k_20 R_metCount_9 R_common_10 R_met_11 h
        · replace h := h.2 c_27
          refine wa_aload_n C 0 rfl dX7_countCommonEnds_40 rfl ?_
          refine wa_aload_n C 0 rfl dX7_countCommonEnds_41 rfl ?_
          refine wa_getR C 6 2 dW_6 rfl rfl (by decide) okX7 gw_300 dX7_countCommonEnds_42 ?_
          refine wa_getR C 2 3 dW_2 rfl rfl (by decide) okX3 gw_61 dX7_countCommonEnds_45 ?_
          refine wa_iload_n C 2 rfl dX7_countCommonEnds_48 rfl ?_
          obtain ⟨t_28, h⟩ := h
          refine wa_iald C 22 dW_22 dX7_countCommonEnds_49 t_28.1 t_28.2 (fun v_29 ev_29 rv_29 => ?_)
          replace h := h v_29 ev_29 rv_29
          refine wa_iload_n C 1 rfl dX7_countCommonEnds_50 rfl ?_
          refine wa_callVv C (k := 6) (As := [.int (iI v_29), .int (iI x1)]) (rest := []) (c_X7_meetNumbersAround l K ad v_29 x1 rv_29 rx1 _ h) gw_712 gw_709 dW_6 rfl gw_711 gs_17 gw_7 q_X7_meetNumbersAround rfl rfl rfl ⟨by decide, by decide⟩ rfl (Nat.le_of_ble_eq_true rfl) dX7_countCommonEnds_51 (fun u9 hp => ?_)
          obtain ⟨R_metCount_30, R_common_31, R_met_32, rfl, h⟩ := hp
          refine wa_sub C [0, 1, 2] rfl ?_
          exact k_20 R_metCount_30 R_common_31 R_met_32 h
  refine wa_sub C [1, 2, 0] rfl ?_
  exact k_7 n_4 x2_2 0 R_common R_met rx2_2 h0Inv_3
def P_X7_mark (post : (Int) → (Int → Int) → (Int → Int) → (Int → Int) → (Int → Int) → (Int → Int) → Prop) (R_waitingCount : Int) (F_state : Int → Int) (G_near : Int → Int) (G_nearEnd : Int → Int) (R_found : Int → Int) (R_openEnds : Int → Int) (R_need : Int → Int) (R_waiting : Int → Int) (R_waits : Int → Int) (x1 : Int) (x2 : Int) : Prop :=
  (0 ≤ x1 ∧ x1 < 144) ∧ (∀ R_found_2 : Int → Int, R_found_2 = upZ R_found x1 x2 → (inR (x1 * 8) ∧ (∀ x3_4 : Int, x3_4 = (x1 * 8) → (∃ Inv_5 : Nat → (Int) → (Int) → (Int → Int) → (Int → Int) → (Int → Int) → (Int → Int) → Prop, (∃ n_6 : Nat, Inv_5 n_6 x3_4 R_waitingCount R_openEnds R_need R_waiting R_waits) ∧ ∀ (n_7 : Nat) (x3_10 : Int) (R_waitingCount_11 : Int) (R_openEnds_12 : Int → Int) (R_need_13 : Int → Int) (R_waiting_14 : Int → Int) (R_waits_15 : Int → Int), inR x3_10 → Inv_5 n_7 x3_10 R_waitingCount_11 R_openEnds_12 R_need_13 R_waiting_14 R_waits_15 → ((0 ≤ x1 ∧ x1 < 144) ∧ (∀ v_17 : Int, v_17 = G_nearEnd x1 → inR v_17 → ((v_17 ≤ x3_10 → (post R_waitingCount_11 R_found_2 R_openEnds_12 R_need_13 R_waiting_14 R_waits_15)) ∧ (¬ v_17 ≤ x3_10 → ((0 ≤ x3_10 ∧ x3_10 < 1152) ∧ (∀ v_20 : Int, v_20 = G_near x3_10 → inR v_20 → ((0 ≤ v_20 ∧ v_20 < 144) ∧ (∀ v_22 : Int, v_22 = R_openEnds_12 v_20 → inR v_22 → ((0 ≤ v_20 ∧ v_20 < 144) ∧ (inR (v_22 - 1) ∧ (∀ R_openEnds_25 : Int → Int, R_openEnds_25 = upZ R_openEnds_12 v_20 (v_22 - 1) → (∃ J_26 : (Int → Int) → Prop, ((¬ x2 = 2 → (J_26 R_need_13)) ∧ (x2 = 2 → ((0 ≤ v_20 ∧ v_20 < 144) ∧ (∀ v_55 : Int, v_55 = R_need_13 v_20 → inR v_55 → ((0 ≤ v_20 ∧ v_20 < 144) ∧ (inR (v_55 - 1) ∧ (∀ R_need_58 : Int → Int, R_need_58 = upZ R_need_13 v_20 (v_55 - 1) → (J_26 R_need_58)))))))) ∧ (∀ (R_need_28 : Int → Int), J_26 R_need_28 → ((0 ≤ v_20 ∧ v_20 < 144) ∧ (∀ v_30 : Int, v_30 = F_state v_20 → inR v_30 → (∃ J_31 : (Int) → (Int → Int) → (Int → Int) → Prop, ((¬ v_30 = 2 → (J_31 R_waitingCount_11 R_waiting_14 R_waits_15)) ∧ (v_30 = 2 → ((0 ≤ v_20 ∧ v_20 < 144) ∧ (∀ v_41 : Int, v_41 = R_waits_15 v_20 → (v_41 = 0 ∨ v_41 = 1) → ((¬ v_41 = 0 → (J_31 R_waitingCount_11 R_waiting_14 R_waits_15)) ∧ (v_41 = 0 → ((144 ≤ R_waitingCount_11 → (J_31 R_waitingCount_11 R_waiting_14 R_waits_15)) ∧ (¬ 144 ≤ R_waitingCount_11 → ((0 ≤ v_20 ∧ v_20 < 144) ∧ (∀ R_waits_46 : Int → Int, R_waits_46 = upZ R_waits_15 v_20 1 → ((0 ≤ R_waitingCount_11 ∧ R_waitingCount_11 < 144) ∧ (∀ R_waiting_49 : Int → Int, R_waiting_49 = upZ R_waiting_14 R_waitingCount_11 v_20 → (inR (R_waitingCount_11 + 1) ∧ (∀ R_waitingCount_52 : Int, R_waitingCount_52 = (R_waitingCount_11 + 1) → (J_31 R_waitingCount_52 R_waiting_49 R_waits_46))))))))))))))) ∧ (∀ (R_waitingCount_33 : Int) (R_waiting_34 : Int → Int) (R_waits_35 : Int → Int), J_31 R_waitingCount_33 R_waiting_34 R_waits_35 → (inR (x3_10 + 1) ∧ (∀ x3_37 : Int, x3_37 = (x3_10 + 1) → (∃ n_38 : Nat, n_38 < n_7 ∧ Inv_5 n_38 x3_37 R_waitingCount_33 R_openEnds_25 R_need_28 R_waiting_34 R_waits_35))))))))))))))))))))))))
set_option maxRecDepth 100000 in
set_option maxHeartbeats 4000000 in
theorem c_X7_mark (l : Launch) (K : wK) (ad : Nat → Nat) {D_hasBoard : Int} {D_beganBlank : Int} {F_mines : Int} {F_moves : Int} {F_changes : Int} {G_width : Int} {G_height : Int} {G_size : Int} {B_parts : Int} {B_longest : Int} {S_groups : Int} {S_askedGroup : Int} {S_taken : Int} {R_waitingCount : Int} {R_metCount : Int} {A_grade : Int} {A_cell : Int} {A_mined : Int} {A_withTotal : Int} {A_numbers : Int} {X_low : Int} {X_high : Int} {Y_low : Int} {Y_high : Int} {F_mined : Int → Int} {F_number : Int → Int} {F_state : Int → Int} {F_cellsIn : Int → Int} {F_unknownNear : Int → Int} {F_hitNear : Int → Int} {F_moveStart : Int → Int} {F_changed : Int → Int} {F_waiting : Int → Int} {F_seen : Int → Int} {G_near : Int → Int} {G_nearEnd : Int → Int} {B_chosen : Int → Int} {B_partOf : Int → Int} {B_rest : Int → Int} {B_unknowns : Int → Int} {B_partStart : Int → Int} {B_cells : Int → Int} {S_minedSet : Int → Int} {S_safeSet : Int → Int} {S_partSet : Int → Int} {S_tally : Int → Int} {S_askedTally : Int → Int} {S_groupOf : Int → Int} {S_groupSize : Int → Int} {S_links : Int → Int} {S_linkEnd : Int → Int} {S_pick : Int → Int} {S_groupMinedSet : Int → Int} {S_groupSafeSet : Int → Int} {O_sums : Int → Int64} {O_nextSums : Int → Int64} {R_found : Int → Int} {R_openEnds : Int → Int} {R_need : Int → Int} {R_waiting : Int → Int} {R_waits : Int → Int} {R_common : Int → Int} {R_met : Int → Int} {A_number : Int → Int} {Q_mined : Int → Int64} {Q_all : Int → Int64} {Q_choices : Int → Int64} {Q_term : Int → Int64} {Q_divisor : Int → Int64} {Q_spare : Int → Int64} {X_limbs : Int → Int64} {X_sum : Int → Int64} {Y_limbs : Int → Int64} {Y_sum : Int → Int64} (x1 : Int) (x2 : Int) (rx1 : inR x1) (rx2 : inR x2) (post : (Int) → (Int → Int) → (Int → Int) → (Int → Int) → (Int → Int) → (Int → Int) → Prop) (h : P_X7_mark post R_waitingCount F_state G_near G_nearEnd R_found R_openEnds R_need R_waiting R_waits x1 x2) : mV l yX7_mark (Cond.code yX7_mark cX7_mark 5 none :: GT) ({ frames := 2, cells := 0, slots := 0, locals := 120 } : Room) [.ref (ad 6), .int (iI x1), .int (iI x2)] K ad (dW D_hasBoard D_beganBlank F_mines F_moves F_changes G_width G_height G_size B_parts B_longest S_groups S_askedGroup S_taken R_waitingCount R_metCount A_grade A_cell A_mined A_withTotal A_numbers X_low X_high Y_low Y_high F_mined F_number F_state F_cellsIn F_unknownNear F_hitNear F_moveStart F_changed F_waiting F_seen G_near G_nearEnd B_chosen B_partOf B_rest B_unknowns B_partStart B_cells S_minedSet S_safeSet S_partSet S_tally S_askedTally S_groupOf S_groupSize S_links S_linkEnd S_pick S_groupMinedSet S_groupSafeSet O_sums O_nextSums R_found R_openEnds R_need R_waiting R_waits R_common R_met A_number Q_mined Q_all Q_choices Q_term Q_divisor Q_spare X_limbs X_sum Y_limbs Y_sum) (fun u9 => ∃ R_waitingCount9 R_found9 R_openEnds9 R_need9 R_waiting9 R_waits9, u9 = (dW D_hasBoard D_beganBlank F_mines F_moves F_changes G_width G_height G_size B_parts B_longest S_groups S_askedGroup S_taken R_waitingCount9 R_metCount A_grade A_cell A_mined A_withTotal A_numbers X_low X_high Y_low Y_high F_mined F_number F_state F_cellsIn F_unknownNear F_hitNear F_moveStart F_changed F_waiting F_seen G_near G_nearEnd B_chosen B_partOf B_rest B_unknowns B_partStart B_cells S_minedSet S_safeSet S_partSet S_tally S_askedTally S_groupOf S_groupSize S_links S_linkEnd S_pick S_groupMinedSet S_groupSafeSet O_sums O_nextSums R_found9 R_openEnds9 R_need9 R_waiting9 R_waits9 R_common R_met A_number Q_mined Q_all Q_choices Q_term Q_divisor Q_spare X_limbs X_sum Y_limbs Y_sum) ∧ post R_waitingCount9 R_found9 R_openEnds9 R_need9 R_waiting9 R_waits9) := by
  refine mV_of (lv0 := [(0, .ref (ad 6)), (1, .int (iI x1)), (2, .int (iI x2))]) (by decide) (Nat.le_of_ble_eq_true rfl) rfl ?_
  intro p e s m args below meth c Q A C ret
  replace C : Cx p ({ frames := 2, cells := 0, slots := 0, locals := 120 } : Room) m c 0 0 cX7_mark 5 s args RX7 K A := C
  unfold P_X7_mark at h
  refine wa_aload_n C 0 rfl dX7_mark_0 rfl ?_
  refine wa_getR C 6 0 dW_6 rfl rfl (by decide) okX7 gw_295 dX7_mark_1 ?_
  refine wa_iload_n C 1 rfl dX7_mark_4 rfl ?_
  refine wa_iload_n C 2 rfl dX7_mark_5 rfl ?_
  obtain ⟨t_1, h⟩ := h
  refine wa_iast C (ws' := fun w9 => (dW D_hasBoard D_beganBlank F_mines F_moves F_changes G_width G_height G_size B_parts B_longest S_groups S_askedGroup S_taken R_waitingCount R_metCount A_grade A_cell A_mined A_withTotal A_numbers X_low X_high Y_low Y_high F_mined F_number F_state F_cellsIn F_unknownNear F_hitNear F_moveStart F_changed F_waiting F_seen G_near G_nearEnd B_chosen B_partOf B_rest B_unknowns B_partStart B_cells S_minedSet S_safeSet S_partSet S_tally S_askedTally S_groupOf S_groupSize S_links S_linkEnd S_pick S_groupMinedSet S_groupSafeSet O_sums O_nextSums w9 R_openEnds R_need R_waiting R_waits R_common R_met A_number Q_mined Q_all Q_choices Q_term Q_divisor Q_spare X_limbs X_sum Y_limbs Y_sum)) 44 dW_44 dX7_mark_6 t_1.1 t_1.2 rx2 dWs_44 (fun R_found_2 eR_found_2 => ?_)
  replace h := h R_found_2 eR_found_2
  refine wa_iload_n C 1 rfl dX7_mark_7 rfl ?_
  refine wa_bipush C (z := 8) dX7_mark_8 (by decide) ?_
  refine wa_imul C dX7_mark_10 ?_
  obtain ⟨r_3, h⟩ := h
  refine wa_nmi (fun x3_4 ex3_4 => ?_)
  replace h := h x3_4 ex3_4
  have rx3_4 : inR x3_4 := by rw [ex3_4]; exact r_3
  refine wa_istore_n C dX7_mark_11 rfl (by decide) rfl ?_
  obtain ⟨Inv_5, ⟨n_6, h0Inv_5⟩, hInv_5⟩ := h
  have k_9 : ∀ (n_7 : Nat) (x3_10 : Int) (R_waitingCount_11 : Int) (R_openEnds_12 : Int → Int) (R_need_13 : Int → Int) (R_waiting_14 : Int → Int) (R_waits_15 : Int → Int), inR x3_10 → Inv_5 n_7 x3_10 R_waitingCount_11 R_openEnds_12 R_need_13 R_waiting_14 R_waits_15 → WA p l e ({ frames := 2, cells := 0, slots := 0, locals := 120 } : Room) s m args below meth c 0 0 Q K ad 5 A 12 [(0, .ref (ad 6)), (1, .int (iI x1)), (2, .int (iI x2)), (3, .int (iI x3_10))] [] (dW D_hasBoard D_beganBlank F_mines F_moves F_changes G_width G_height G_size B_parts B_longest S_groups S_askedGroup S_taken R_waitingCount_11 R_metCount A_grade A_cell A_mined A_withTotal A_numbers X_low X_high Y_low Y_high F_mined F_number F_state F_cellsIn F_unknownNear F_hitNear F_moveStart F_changed F_waiting F_seen G_near G_nearEnd B_chosen B_partOf B_rest B_unknowns B_partStart B_cells S_minedSet S_safeSet S_partSet S_tally S_askedTally S_groupOf S_groupSize S_links S_linkEnd S_pick S_groupMinedSet S_groupSafeSet O_sums O_nextSums R_found_2 R_openEnds_12 R_need_13 R_waiting_14 R_waits_15 R_common R_met A_number Q_mined Q_all Q_choices Q_term Q_divisor Q_spare X_limbs X_sum Y_limbs Y_sum) := by
    intro n_7
    induction n_7 using Nat.strongRecOn with
    | ind n_7 ih_8 =>
      intro x3_10 R_waitingCount_11 R_openEnds_12 R_need_13 R_waiting_14 R_waits_15 rx3_10 h
      replace h := hInv_5 n_7 x3_10 R_waitingCount_11 R_openEnds_12 R_need_13 R_waiting_14 R_waits_15 rx3_10 h
      refine wa_iload_n C 3 rfl dX7_mark_12 rfl ?_
      refine wa_aload_n C 0 rfl dX7_mark_13 rfl ?_
      refine wa_getR C 6 2 dW_6 rfl rfl (by decide) okX7 gw_300 dX7_mark_14 ?_
      refine wa_getR C 2 4 dW_2 rfl rfl (by decide) okX3 gw_67 dX7_mark_17 ?_
      refine wa_iload_n C 1 rfl dX7_mark_20 rfl ?_
      obtain ⟨t_16, h⟩ := h
      refine wa_iald C 23 dW_23 dX7_mark_21 t_16.1 t_16.2 (fun v_17 ev_17 rv_17 => ?_)
      replace h := h v_17 ev_17 rv_17
      refine wa_icmp_ge C (tgt := 132) rx3_10 rv_17 dX7_mark_22 (by decide) (fun c_18 => ?_) (fun c_18 => ?_)
      · replace h := h.1 c_18
        exact ret dX7_mark_132 ⟨_, _, _, _, _, _, rfl, h⟩
      · replace h := h.2 c_18
        refine wa_aload_n C 0 rfl dX7_mark_25 rfl ?_
        refine wa_getR C 6 2 dW_6 rfl rfl (by decide) okX7 gw_300 dX7_mark_26 ?_
        refine wa_getR C 2 3 dW_2 rfl rfl (by decide) okX3 gw_61 dX7_mark_29 ?_
        refine wa_iload_n C 3 rfl dX7_mark_32 rfl ?_
        obtain ⟨t_19, h⟩ := h
        refine wa_iald C 22 dW_22 dX7_mark_33 t_19.1 t_19.2 (fun v_20 ev_20 rv_20 => ?_)
        replace h := h v_20 ev_20 rv_20
        refine wa_istore C dX7_mark_34 (by decide) rfl ?_
        refine wa_aload_n C 1 rfl dX7_mark_36 rfl ?_
        refine wa_getR C 6 4 dW_6 rfl rfl (by decide) okX7 gw_302 dX7_mark_37 ?_
        refine wa_iload C 0 rfl dX7_mark_40 ?_
        refine wa_dup2 C dX7_mark_42 rfl rfl ?_
        obtain ⟨t_21, h⟩ := h
        refine wa_iald C 45 dW_45 dX7_mark_43 t_21.1 t_21.2 (fun v_22 ev_22 rv_22 => ?_)
        replace h := h v_22 ev_22 rv_22
        refine wa_iconst C (z := 1) dX7_mark_44 rfl ?_
        refine wa_isub C dX7_mark_45 ?_
        obtain ⟨t_23, h⟩ := h
        obtain ⟨r_24, h⟩ := h
        refine wa_iast C (ws' := fun w9 => (dW D_hasBoard D_beganBlank F_mines F_moves F_changes G_width G_height G_size B_parts B_longest S_groups S_askedGroup S_taken R_waitingCount_11 R_metCount A_grade A_cell A_mined A_withTotal A_numbers X_low X_high Y_low Y_high F_mined F_number F_state F_cellsIn F_unknownNear F_hitNear F_moveStart F_changed F_waiting F_seen G_near G_nearEnd B_chosen B_partOf B_rest B_unknowns B_partStart B_cells S_minedSet S_safeSet S_partSet S_tally S_askedTally S_groupOf S_groupSize S_links S_linkEnd S_pick S_groupMinedSet S_groupSafeSet O_sums O_nextSums R_found_2 w9 R_need_13 R_waiting_14 R_waits_15 R_common R_met A_number Q_mined Q_all Q_choices Q_term Q_divisor Q_spare X_limbs X_sum Y_limbs Y_sum)) 45 dW_45 dX7_mark_46 t_23.1 t_23.2 r_24 dWs_45 (fun R_openEnds_25 eR_openEnds_25 => ?_)
        replace h := h R_openEnds_25 eR_openEnds_25
        refine wa_iload_n C 3 rfl dX7_mark_47 rfl ?_
        refine wa_iconst C (z := 2) dX7_mark_48 rfl ?_
        obtain ⟨J_26, h, hJ_26⟩ := h
        have k_27 : ∀ (R_need_28 : Int → Int), J_26 R_need_28 → WA p l e ({ frames := 2, cells := 0, slots := 0, locals := 120 } : Room) s m args below meth c 0 0 Q K ad 5 A 63 [(0, .ref (ad 6)), (1, .int (iI x1)), (2, .int (iI x2)), (3, .int (iI x3_10)), (4, .int (iI v_20))] [] (dW D_hasBoard D_beganBlank F_mines F_moves F_changes G_width G_height G_size B_parts B_longest S_groups S_askedGroup S_taken R_waitingCount_11 R_metCount A_grade A_cell A_mined A_withTotal A_numbers X_low X_high Y_low Y_high F_mined F_number F_state F_cellsIn F_unknownNear F_hitNear F_moveStart F_changed F_waiting F_seen G_near G_nearEnd B_chosen B_partOf B_rest B_unknowns B_partStart B_cells S_minedSet S_safeSet S_partSet S_tally S_askedTally S_groupOf S_groupSize S_links S_linkEnd S_pick S_groupMinedSet S_groupSafeSet O_sums O_nextSums R_found_2 R_openEnds_25 R_need_28 R_waiting_14 R_waits_15 R_common R_met A_number Q_mined Q_all Q_choices Q_term Q_divisor Q_spare X_limbs X_sum Y_limbs Y_sum) := by
          intro R_need_28 h
          replace h := hJ_26 R_need_28 h
          refine wa_aload_n C 0 rfl dX7_mark_63 rfl ?_
          refine wa_getR C 6 1 dW_6 rfl rfl (by decide) okX7 gw_299 dX7_mark_64 ?_
          refine wa_getR C 1 3 dW_1 rfl rfl (by decide) okX2 gw_98 dX7_mark_67 ?_
          refine wa_iload C 4 rfl dX7_mark_70 ?_
          obtain ⟨t_29, h⟩ := h
          refine wa_iald C 14 dW_14 dX7_mark_72 t_29.1 t_29.2 (fun v_30 ev_30 rv_30 => ?_)
          replace h := h v_30 ev_30 rv_30
          refine wa_iconst C (z := 2) dX7_mark_73 rfl ?_
          obtain ⟨J_31, h, hJ_31⟩ := h
          have k_32 : ∀ (R_waitingCount_33 : Int) (R_waiting_34 : Int → Int) (R_waits_35 : Int → Int), J_31 R_waitingCount_33 R_waiting_34 R_waits_35 → WA p l e ({ frames := 2, cells := 0, slots := 0, locals := 120 } : Room) s m args below meth c 0 0 Q K ad 5 A 126 [(0, .ref (ad 6)), (1, .int (iI x1)), (2, .int (iI x2)), (3, .int (iI x3_10))] [] (dW D_hasBoard D_beganBlank F_mines F_moves F_changes G_width G_height G_size B_parts B_longest S_groups S_askedGroup S_taken R_waitingCount_33 R_metCount A_grade A_cell A_mined A_withTotal A_numbers X_low X_high Y_low Y_high F_mined F_number F_state F_cellsIn F_unknownNear F_hitNear F_moveStart F_changed F_waiting F_seen G_near G_nearEnd B_chosen B_partOf B_rest B_unknowns B_partStart B_cells S_minedSet S_safeSet S_partSet S_tally S_askedTally S_groupOf S_groupSize S_links S_linkEnd S_pick S_groupMinedSet S_groupSafeSet O_sums O_nextSums R_found_2 R_openEnds_25 R_need_28 R_waiting_34 R_waits_35 R_common R_met A_number Q_mined Q_all Q_choices Q_term Q_divisor Q_spare X_limbs X_sum Y_limbs Y_sum) := by
            intro R_waitingCount_33 R_waiting_34 R_waits_35 h
            replace h := hJ_31 R_waitingCount_33 R_waiting_34 R_waits_35 h
            obtain ⟨r_36, h⟩ := h
            refine wa_iinc C (lv' := fun w9 => [(3, .int (iI w9)), (0, .ref (ad 6)), (1, .int (iI x1)), (2, .int (iI x2))]) 3 rfl dX7_mark_126 (by decide) (fun _ => rfl) (fun x3_37 ex3_37 => ?_)
            replace h := h x3_37 ex3_37
            have rx3_37 : inR x3_37 := by rw [ex3_37]; exact r_36
            refine wa_goto C (tgt := 12) dX7_mark_129 (by decide) ?_
            obtain ⟨n_38, ln_38, h⟩ := h
            refine wa_sub C [1, 2, 3, 0] rfl ?_
            exact ih_8 n_38 ln_38 x3_37 R_waitingCount_33 R_openEnds_25 R_need_28 R_waiting_34 R_waits_35 rx3_37 h
          refine wa_icmp_ne C (tgt := 126) rv_30 (inR_k 2 rfl) dX7_mark_74 (by decide) (fun c_39 => ?_) (fun c_39 => ?_)
          · replace h := h.1 c_39
            refine wa_sub C [0, 1, 2, 3] rfl ?_
            exact k_32 R_waitingCount_11 R_waiting_14 R_waits_15 h
          · replace h := h.2 c_39
            refine wa_aload_n C 0 rfl dX7_mark_77 rfl ?_
            refine wa_getR C 6 7 dW_6 rfl rfl (by decide) okX7 gw_305 dX7_mark_78 ?_
            refine wa_iload C 4 rfl dX7_mark_81 ?_
            obtain ⟨t_40, h⟩ := h
            refine wa_bald C 48 dW_48 dX7_mark_83 t_40.1 t_40.2 (fun v_41 ev_41 rv_41 => ?_)
            replace h := h v_41 ev_41 rv_41
            refine wa_if_ne C (tgt := 126) (inR_b rv_41) dX7_mark_84 (by decide) (fun c_42 => ?_) (fun c_42 => ?_)
            · replace h := h.1 c_42
              refine wa_sub C [0, 1, 2, 3] rfl ?_
              exact k_32 R_waitingCount_11 R_waiting_14 R_waits_15 h
            · replace h := h.2 c_42
              refine wa_aload_n C 0 rfl dX7_mark_87 rfl ?_
              refine wa_getI C 6 8 dW_6 rfl rfl (by decide) okX7 gw_306 dX7_mark_88 (fun r_43 => ?_)
              refine wa_sipush C (z := 144) dX7_mark_91 (by decide) ?_
              refine wa_icmp_ge C (tgt := 126) r_43 (inR_k 144 rfl) dX7_mark_94 (by decide) (fun c_44 => ?_) (fun c_44 => ?_)
              · replace h := h.1 c_44
                refine wa_sub C [0, 1, 2, 3] rfl ?_
                exact k_32 R_waitingCount_11 R_waiting_14 R_waits_15 h
              · replace h := h.2 c_44
                refine wa_aload_n C 0 rfl dX7_mark_97 rfl ?_
                refine wa_getR C 6 7 dW_6 rfl rfl (by decide) okX7 gw_305 dX7_mark_98 ?_
                refine wa_iload C 4 rfl dX7_mark_101 ?_
                refine wa_iconst C (z := 1) dX7_mark_103 rfl ?_
                obtain ⟨t_45, h⟩ := h
                refine wa_bast C (ws' := fun w9 => (dW D_hasBoard D_beganBlank F_mines F_moves F_changes G_width G_height G_size B_parts B_longest S_groups S_askedGroup S_taken R_waitingCount_11 R_metCount A_grade A_cell A_mined A_withTotal A_numbers X_low X_high Y_low Y_high F_mined F_number F_state F_cellsIn F_unknownNear F_hitNear F_moveStart F_changed F_waiting F_seen G_near G_nearEnd B_chosen B_partOf B_rest B_unknowns B_partStart B_cells S_minedSet S_safeSet S_partSet S_tally S_askedTally S_groupOf S_groupSize S_links S_linkEnd S_pick S_groupMinedSet S_groupSafeSet O_sums O_nextSums R_found_2 R_openEnds_25 R_need_28 R_waiting_14 w9 R_common R_met A_number Q_mined Q_all Q_choices Q_term Q_divisor Q_spare X_limbs X_sum Y_limbs Y_sum)) 48 dW_48 dX7_mark_104 t_45.1 t_45.2 (Or.inr rfl) dWs_48 (fun R_waits_46 eR_waits_46 => ?_)
                replace h := h R_waits_46 eR_waits_46
                refine wa_aload_n C 0 rfl dX7_mark_105 rfl ?_
                refine wa_getR C 6 6 dW_6 rfl rfl (by decide) okX7 gw_304 dX7_mark_106 ?_
                refine wa_aload_n C 0 rfl dX7_mark_109 rfl ?_
                refine wa_getI C 6 8 dW_6 rfl rfl (by decide) okX7 gw_306 dX7_mark_110 (fun r_47 => ?_)
                refine wa_iload C 4 rfl dX7_mark_113 ?_
                obtain ⟨t_48, h⟩ := h
                refine wa_iast C (ws' := fun w9 => (dW D_hasBoard D_beganBlank F_mines F_moves F_changes G_width G_height G_size B_parts B_longest S_groups S_askedGroup S_taken R_waitingCount_11 R_metCount A_grade A_cell A_mined A_withTotal A_numbers X_low X_high Y_low Y_high F_mined F_number F_state F_cellsIn F_unknownNear F_hitNear F_moveStart F_changed F_waiting F_seen G_near G_nearEnd B_chosen B_partOf B_rest B_unknowns B_partStart B_cells S_minedSet S_safeSet S_partSet S_tally S_askedTally S_groupOf S_groupSize S_links S_linkEnd S_pick S_groupMinedSet S_groupSafeSet O_sums O_nextSums R_found_2 R_openEnds_25 R_need_28 w9 R_waits_46 R_common R_met A_number Q_mined Q_all Q_choices Q_term Q_divisor Q_spare X_limbs X_sum Y_limbs Y_sum)) 47 dW_47 dX7_mark_115 t_48.1 t_48.2 rv_20 dWs_47 (fun R_waiting_49 eR_waiting_49 => ?_)
                replace h := h R_waiting_49 eR_waiting_49
                refine wa_aload_n C 0 rfl dX7_mark_116 rfl ?_
                refine wa_dup C dX7_mark_117 rfl ?_
                refine wa_getI C 6 8 dW_6 rfl rfl (by decide) okX7 gw_306 dX7_mark_118 (fun r_50 => ?_)
                refine wa_iconst C (z := 1) dX7_mark_121 rfl ?_
                refine wa_iadd C dX7_mark_122 ?_
                obtain ⟨r_51, h⟩ := h
                refine wa_nmi (fun R_waitingCount_52 eR_waitingCount_52 => ?_)
                replace h := h R_waitingCount_52 eR_waitingCount_52
                have rR_waitingCount_52 : inR R_waitingCount_52 := by rw [eR_waitingCount_52]; exact r_51
                refine wa_putI C (ws' := (dW D_hasBoard D_beganBlank F_mines F_moves F_changes G_width G_height G_size B_parts B_longest S_groups S_askedGroup S_taken R_waitingCount_52 R_metCount A_grade A_cell A_mined A_withTotal A_numbers X_low X_high Y_low Y_high F_mined F_number F_state F_cellsIn F_unknownNear F_hitNear F_moveStart F_changed F_waiting F_seen G_near G_nearEnd B_chosen B_partOf B_rest B_unknowns B_partStart B_cells S_minedSet S_safeSet S_partSet S_tally S_askedTally S_groupOf S_groupSize S_links S_linkEnd S_pick S_groupMinedSet S_groupSafeSet O_sums O_nextSums R_found_2 R_openEnds_25 R_need_28 R_waiting_49 R_waits_46 R_common R_met A_number Q_mined Q_all Q_choices Q_term Q_divisor Q_spare X_limbs X_sum Y_limbs Y_sum)) 6 8 dW_6 rfl (by decide) okX7 gw_306 rfl rfl (Nat.le_of_ble_eq_true rfl) rR_waitingCount_52 (dWp_6_8 _) dX7_mark_123 ?_
                refine wa_sub C [0, 1, 2, 3] rfl ?_
                exact k_32 R_waitingCount_52 R_waiting_49 R_waits_46 h
        refine wa_icmp_ne C (tgt := 63) rx2 (inR_k 2 rfl) dX7_mark_49 (by decide) (fun c_53 => ?_) (fun c_53 => ?_)
        · replace h := h.1 c_53
          refine wa_sub C [1, 2, 3, 4, 0] rfl ?_
          exact k_27 R_need_13 h
        · replace h := h.2 c_53
          refine wa_aload_n C 1 rfl dX7_mark_52 rfl ?_
          refine wa_getR C 6 5 dW_6 rfl rfl (by decide) okX7 gw_303 dX7_mark_53 ?_
          refine wa_iload C 0 rfl dX7_mark_56 ?_
          refine wa_dup2 C dX7_mark_58 rfl rfl ?_
          obtain ⟨t_54, h⟩ := h
          refine wa_iald C 46 dW_46 dX7_mark_59 t_54.1 t_54.2 (fun v_55 ev_55 rv_55 => ?_)
          replace h := h v_55 ev_55 rv_55
          refine wa_iconst C (z := 1) dX7_mark_60 rfl ?_
          refine wa_isub C dX7_mark_61 ?_
          obtain ⟨t_56, h⟩ := h
          obtain ⟨r_57, h⟩ := h
          refine wa_iast C (ws' := fun w9 => (dW D_hasBoard D_beganBlank F_mines F_moves F_changes G_width G_height G_size B_parts B_longest S_groups S_askedGroup S_taken R_waitingCount_11 R_metCount A_grade A_cell A_mined A_withTotal A_numbers X_low X_high Y_low Y_high F_mined F_number F_state F_cellsIn F_unknownNear F_hitNear F_moveStart F_changed F_waiting F_seen G_near G_nearEnd B_chosen B_partOf B_rest B_unknowns B_partStart B_cells S_minedSet S_safeSet S_partSet S_tally S_askedTally S_groupOf S_groupSize S_links S_linkEnd S_pick S_groupMinedSet S_groupSafeSet O_sums O_nextSums R_found_2 R_openEnds_25 w9 R_waiting_14 R_waits_15 R_common R_met A_number Q_mined Q_all Q_choices Q_term Q_divisor Q_spare X_limbs X_sum Y_limbs Y_sum)) 46 dW_46 dX7_mark_62 t_56.1 t_56.2 r_57 dWs_46 (fun R_need_58 eR_need_58 => ?_)
          replace h := h R_need_58 eR_need_58
          refine wa_sub C [1, 2, 3, 4, 0] rfl ?_
          exact k_27 R_need_58 h
  refine wa_sub C [1, 2, 3, 0] rfl ?_
  exact k_9 n_6 x3_4 R_waitingCount R_openEnds R_need R_waiting R_waits rx3_4 h0Inv_5
def P_X7_markEnds (post : (Int) → (Int → Int) → (Int → Int) → (Int → Int) → (Int → Int) → (Int → Int) → Prop) (R_waitingCount : Int) (F_state : Int → Int) (G_near : Int → Int) (G_nearEnd : Int → Int) (R_found : Int → Int) (R_openEnds : Int → Int) (R_need : Int → Int) (R_waiting : Int → Int) (R_waits : Int → Int) (x1 : Int) (x2 : Int) (x3 : Int) : Prop :=
  inR (x1 * 8) ∧ (∀ x4_2 : Int, x4_2 = (x1 * 8) → (∃ Inv_3 : Nat → (Int) → (Int) → (Int → Int) → (Int → Int) → (Int → Int) → (Int → Int) → (Int → Int) → Prop, (∃ n_4 : Nat, Inv_3 n_4 x4_2 R_waitingCount R_found R_openEnds R_need R_waiting R_waits) ∧ ∀ (n_5 : Nat) (x4_8 : Int) (R_waitingCount_9 : Int) (R_found_10 : Int → Int) (R_openEnds_11 : Int → Int) (R_need_12 : Int → Int) (R_waiting_13 : Int → Int) (R_waits_14 : Int → Int), inR x4_8 → Inv_3 n_5 x4_8 R_waitingCount_9 R_found_10 R_openEnds_11 R_need_12 R_waiting_13 R_waits_14 → ((0 ≤ x1 ∧ x1 < 144) ∧ (∀ v_16 : Int, v_16 = G_nearEnd x1 → inR v_16 → ((v_16 ≤ x4_8 → (post R_waitingCount_9 R_found_10 R_openEnds_11 R_need_12 R_waiting_13 R_waits_14)) ∧ (¬ v_16 ≤ x4_8 → ((0 ≤ x4_8 ∧ x4_8 < 1152) ∧ (∀ v_19 : Int, v_19 = G_near x4_8 → inR v_19 → ((0 ≤ v_19 ∧ v_19 < 144) ∧ (∀ v_21 : Int, v_21 = R_found_10 v_19 → inR v_21 → (∃ J_22 : (Int) → (Int → Int) → (Int → Int) → (Int → Int) → (Int → Int) → (Int → Int) → Prop, ((¬ v_21 = 0 → (J_22 R_waitingCount_9 R_found_10 R_openEnds_11 R_need_12 R_waiting_13 R_waits_14)) ∧ (v_21 = 0 → (∃ J_34 : Prop, ((x2 = (-1) → (J_34)) ∧ (¬ x2 = (-1) → (P_X3_areNear (fun (c_43 : Int) => (c_43 = 0 ∨ c_43 = 1) → ((¬ c_43 = 0 → (J_22 R_waitingCount_9 R_found_10 R_openEnds_11 R_need_12 R_waiting_13 R_waits_14)) ∧ (c_43 = 0 → (J_34)))) G_near G_nearEnd x2 v_19))) ∧ (J_34 → (P_X7_mark (fun (R_waitingCount_36 : Int) (R_found_37 : Int → Int) (R_openEnds_38 : Int → Int) (R_need_39 : Int → Int) (R_waiting_40 : Int → Int) (R_waits_41 : Int → Int) => (J_22 R_waitingCount_36 R_found_37 R_openEnds_38 R_need_39 R_waiting_40 R_waits_41)) R_waitingCount_9 F_state G_near G_nearEnd R_found_10 R_openEnds_11 R_need_12 R_waiting_13 R_waits_14 v_19 x3))))) ∧ (∀ (R_waitingCount_24 : Int) (R_found_25 : Int → Int) (R_openEnds_26 : Int → Int) (R_need_27 : Int → Int) (R_waiting_28 : Int → Int) (R_waits_29 : Int → Int), J_22 R_waitingCount_24 R_found_25 R_openEnds_26 R_need_27 R_waiting_28 R_waits_29 → (inR (x4_8 + 1) ∧ (∀ x4_31 : Int, x4_31 = (x4_8 + 1) → (∃ n_32 : Nat, n_32 < n_5 ∧ Inv_3 n_32 x4_31 R_waitingCount_24 R_found_25 R_openEnds_26 R_need_27 R_waiting_28 R_waits_29)))))))))))))))
set_option maxRecDepth 100000 in
set_option maxHeartbeats 4000000 in
theorem c_X7_markEnds (l : Launch) (K : wK) (ad : Nat → Nat) {D_hasBoard : Int} {D_beganBlank : Int} {F_mines : Int} {F_moves : Int} {F_changes : Int} {G_width : Int} {G_height : Int} {G_size : Int} {B_parts : Int} {B_longest : Int} {S_groups : Int} {S_askedGroup : Int} {S_taken : Int} {R_waitingCount : Int} {R_metCount : Int} {A_grade : Int} {A_cell : Int} {A_mined : Int} {A_withTotal : Int} {A_numbers : Int} {X_low : Int} {X_high : Int} {Y_low : Int} {Y_high : Int} {F_mined : Int → Int} {F_number : Int → Int} {F_state : Int → Int} {F_cellsIn : Int → Int} {F_unknownNear : Int → Int} {F_hitNear : Int → Int} {F_moveStart : Int → Int} {F_changed : Int → Int} {F_waiting : Int → Int} {F_seen : Int → Int} {G_near : Int → Int} {G_nearEnd : Int → Int} {B_chosen : Int → Int} {B_partOf : Int → Int} {B_rest : Int → Int} {B_unknowns : Int → Int} {B_partStart : Int → Int} {B_cells : Int → Int} {S_minedSet : Int → Int} {S_safeSet : Int → Int} {S_partSet : Int → Int} {S_tally : Int → Int} {S_askedTally : Int → Int} {S_groupOf : Int → Int} {S_groupSize : Int → Int} {S_links : Int → Int} {S_linkEnd : Int → Int} {S_pick : Int → Int} {S_groupMinedSet : Int → Int} {S_groupSafeSet : Int → Int} {O_sums : Int → Int64} {O_nextSums : Int → Int64} {R_found : Int → Int} {R_openEnds : Int → Int} {R_need : Int → Int} {R_waiting : Int → Int} {R_waits : Int → Int} {R_common : Int → Int} {R_met : Int → Int} {A_number : Int → Int} {Q_mined : Int → Int64} {Q_all : Int → Int64} {Q_choices : Int → Int64} {Q_term : Int → Int64} {Q_divisor : Int → Int64} {Q_spare : Int → Int64} {X_limbs : Int → Int64} {X_sum : Int → Int64} {Y_limbs : Int → Int64} {Y_sum : Int → Int64} (x1 : Int) (x2 : Int) (x3 : Int) (rx1 : inR x1) (rx2 : inR x2) (rx3 : inR x3) (post : (Int) → (Int → Int) → (Int → Int) → (Int → Int) → (Int → Int) → (Int → Int) → Prop) (h : P_X7_markEnds post R_waitingCount F_state G_near G_nearEnd R_found R_openEnds R_need R_waiting R_waits x1 x2 x3) : mV l yX7_markEnds (Cond.code yX7_markEnds cX7_markEnds 6 none :: GT) ({ frames := 3, cells := 0, slots := 0, locals := 180 } : Room) [.ref (ad 6), .int (iI x1), .int (iI x2), .int (iI x3)] K ad (dW D_hasBoard D_beganBlank F_mines F_moves F_changes G_width G_height G_size B_parts B_longest S_groups S_askedGroup S_taken R_waitingCount R_metCount A_grade A_cell A_mined A_withTotal A_numbers X_low X_high Y_low Y_high F_mined F_number F_state F_cellsIn F_unknownNear F_hitNear F_moveStart F_changed F_waiting F_seen G_near G_nearEnd B_chosen B_partOf B_rest B_unknowns B_partStart B_cells S_minedSet S_safeSet S_partSet S_tally S_askedTally S_groupOf S_groupSize S_links S_linkEnd S_pick S_groupMinedSet S_groupSafeSet O_sums O_nextSums R_found R_openEnds R_need R_waiting R_waits R_common R_met A_number Q_mined Q_all Q_choices Q_term Q_divisor Q_spare X_limbs X_sum Y_limbs Y_sum) (fun u9 => ∃ R_waitingCount9 R_found9 R_openEnds9 R_need9 R_waiting9 R_waits9, u9 = (dW D_hasBoard D_beganBlank F_mines F_moves F_changes G_width G_height G_size B_parts B_longest S_groups S_askedGroup S_taken R_waitingCount9 R_metCount A_grade A_cell A_mined A_withTotal A_numbers X_low X_high Y_low Y_high F_mined F_number F_state F_cellsIn F_unknownNear F_hitNear F_moveStart F_changed F_waiting F_seen G_near G_nearEnd B_chosen B_partOf B_rest B_unknowns B_partStart B_cells S_minedSet S_safeSet S_partSet S_tally S_askedTally S_groupOf S_groupSize S_links S_linkEnd S_pick S_groupMinedSet S_groupSafeSet O_sums O_nextSums R_found9 R_openEnds9 R_need9 R_waiting9 R_waits9 R_common R_met A_number Q_mined Q_all Q_choices Q_term Q_divisor Q_spare X_limbs X_sum Y_limbs Y_sum) ∧ post R_waitingCount9 R_found9 R_openEnds9 R_need9 R_waiting9 R_waits9) := by
  refine mV_of (lv0 := [(0, .ref (ad 6)), (1, .int (iI x1)), (2, .int (iI x2)), (3, .int (iI x3))]) (by decide) (Nat.le_of_ble_eq_true rfl) rfl ?_
  intro p e s m args below meth c Q A C ret
  replace C : Cx p ({ frames := 3, cells := 0, slots := 0, locals := 180 } : Room) m c 0 0 cX7_markEnds 6 s args RX7 K A := C
  unfold P_X7_markEnds at h
  refine wa_iload_n C 1 rfl dX7_markEnds_0 rfl ?_
  refine wa_bipush C (z := 8) dX7_markEnds_1 (by decide) ?_
  refine wa_imul C dX7_markEnds_3 ?_
  obtain ⟨r_1, h⟩ := h
  refine wa_nmi (fun x4_2 ex4_2 => ?_)
  replace h := h x4_2 ex4_2
  have rx4_2 : inR x4_2 := by rw [ex4_2]; exact r_1
  refine wa_istore C dX7_markEnds_4 (by decide) rfl ?_
  obtain ⟨Inv_3, ⟨n_4, h0Inv_3⟩, hInv_3⟩ := h
  have k_7 : ∀ (n_5 : Nat) (x4_8 : Int) (R_waitingCount_9 : Int) (R_found_10 : Int → Int) (R_openEnds_11 : Int → Int) (R_need_12 : Int → Int) (R_waiting_13 : Int → Int) (R_waits_14 : Int → Int), inR x4_8 → Inv_3 n_5 x4_8 R_waitingCount_9 R_found_10 R_openEnds_11 R_need_12 R_waiting_13 R_waits_14 → WA p l e ({ frames := 3, cells := 0, slots := 0, locals := 180 } : Room) s m args below meth c 0 0 Q K ad 6 A 6 [(0, .ref (ad 6)), (1, .int (iI x1)), (2, .int (iI x2)), (3, .int (iI x3)), (4, .int (iI x4_8))] [] (dW D_hasBoard D_beganBlank F_mines F_moves F_changes G_width G_height G_size B_parts B_longest S_groups S_askedGroup S_taken R_waitingCount_9 R_metCount A_grade A_cell A_mined A_withTotal A_numbers X_low X_high Y_low Y_high F_mined F_number F_state F_cellsIn F_unknownNear F_hitNear F_moveStart F_changed F_waiting F_seen G_near G_nearEnd B_chosen B_partOf B_rest B_unknowns B_partStart B_cells S_minedSet S_safeSet S_partSet S_tally S_askedTally S_groupOf S_groupSize S_links S_linkEnd S_pick S_groupMinedSet S_groupSafeSet O_sums O_nextSums R_found_10 R_openEnds_11 R_need_12 R_waiting_13 R_waits_14 R_common R_met A_number Q_mined Q_all Q_choices Q_term Q_divisor Q_spare X_limbs X_sum Y_limbs Y_sum) := by
    intro n_5
    induction n_5 using Nat.strongRecOn with
    | ind n_5 ih_6 =>
      intro x4_8 R_waitingCount_9 R_found_10 R_openEnds_11 R_need_12 R_waiting_13 R_waits_14 rx4_8 h
      replace h := hInv_3 n_5 x4_8 R_waitingCount_9 R_found_10 R_openEnds_11 R_need_12 R_waiting_13 R_waits_14 rx4_8 h
      refine wa_iload C 4 rfl dX7_markEnds_6 ?_
      refine wa_aload_n C 0 rfl dX7_markEnds_8 rfl ?_
      refine wa_getR C 6 2 dW_6 rfl rfl (by decide) okX7 gw_300 dX7_markEnds_9 ?_
      refine wa_getR C 2 4 dW_2 rfl rfl (by decide) okX3 gw_67 dX7_markEnds_12 ?_
      refine wa_iload_n C 1 rfl dX7_markEnds_15 rfl ?_
      obtain ⟨t_15, h⟩ := h
      refine wa_iald C 23 dW_23 dX7_markEnds_16 t_15.1 t_15.2 (fun v_16 ev_16 rv_16 => ?_)
      replace h := h v_16 ev_16 rv_16
      refine wa_icmp_ge C (tgt := 73) rx4_8 rv_16 dX7_markEnds_17 (by decide) (fun c_17 => ?_) (fun c_17 => ?_)
      · replace h := h.1 c_17
        exact ret dX7_markEnds_73 ⟨_, _, _, _, _, _, rfl, h⟩
      · replace h := h.2 c_17
        refine wa_aload_n C 0 rfl dX7_markEnds_20 rfl ?_
        refine wa_getR C 6 2 dW_6 rfl rfl (by decide) okX7 gw_300 dX7_markEnds_21 ?_
        refine wa_getR C 2 3 dW_2 rfl rfl (by decide) okX3 gw_61 dX7_markEnds_24 ?_
        refine wa_iload C 4 rfl dX7_markEnds_27 ?_
        obtain ⟨t_18, h⟩ := h
        refine wa_iald C 22 dW_22 dX7_markEnds_29 t_18.1 t_18.2 (fun v_19 ev_19 rv_19 => ?_)
        replace h := h v_19 ev_19 rv_19
        refine wa_istore C dX7_markEnds_30 (by decide) rfl ?_
        refine wa_aload_n C 1 rfl dX7_markEnds_32 rfl ?_
        refine wa_getR C 6 0 dW_6 rfl rfl (by decide) okX7 gw_295 dX7_markEnds_33 ?_
        refine wa_iload C 0 rfl dX7_markEnds_36 ?_
        obtain ⟨t_20, h⟩ := h
        refine wa_iald C 44 dW_44 dX7_markEnds_38 t_20.1 t_20.2 (fun v_21 ev_21 rv_21 => ?_)
        replace h := h v_21 ev_21 rv_21
        obtain ⟨J_22, h, hJ_22⟩ := h
        have k_23 : ∀ (R_waitingCount_24 : Int) (R_found_25 : Int → Int) (R_openEnds_26 : Int → Int) (R_need_27 : Int → Int) (R_waiting_28 : Int → Int) (R_waits_29 : Int → Int), J_22 R_waitingCount_24 R_found_25 R_openEnds_26 R_need_27 R_waiting_28 R_waits_29 → WA p l e ({ frames := 3, cells := 0, slots := 0, locals := 180 } : Room) s m args below meth c 0 0 Q K ad 6 A 67 [(0, .ref (ad 6)), (1, .int (iI x1)), (2, .int (iI x2)), (3, .int (iI x3)), (4, .int (iI x4_8))] [] (dW D_hasBoard D_beganBlank F_mines F_moves F_changes G_width G_height G_size B_parts B_longest S_groups S_askedGroup S_taken R_waitingCount_24 R_metCount A_grade A_cell A_mined A_withTotal A_numbers X_low X_high Y_low Y_high F_mined F_number F_state F_cellsIn F_unknownNear F_hitNear F_moveStart F_changed F_waiting F_seen G_near G_nearEnd B_chosen B_partOf B_rest B_unknowns B_partStart B_cells S_minedSet S_safeSet S_partSet S_tally S_askedTally S_groupOf S_groupSize S_links S_linkEnd S_pick S_groupMinedSet S_groupSafeSet O_sums O_nextSums R_found_25 R_openEnds_26 R_need_27 R_waiting_28 R_waits_29 R_common R_met A_number Q_mined Q_all Q_choices Q_term Q_divisor Q_spare X_limbs X_sum Y_limbs Y_sum) := by
          intro R_waitingCount_24 R_found_25 R_openEnds_26 R_need_27 R_waiting_28 R_waits_29 h
          replace h := hJ_22 R_waitingCount_24 R_found_25 R_openEnds_26 R_need_27 R_waiting_28 R_waits_29 h
          obtain ⟨r_30, h⟩ := h
          refine wa_iinc C (lv' := fun w9 => [(4, .int (iI w9)), (0, .ref (ad 6)), (1, .int (iI x1)), (2, .int (iI x2)), (3, .int (iI x3))]) 4 rfl dX7_markEnds_67 (by decide) (fun _ => rfl) (fun x4_31 ex4_31 => ?_)
          replace h := h x4_31 ex4_31
          have rx4_31 : inR x4_31 := by rw [ex4_31]; exact r_30
          refine wa_goto C (tgt := 6) dX7_markEnds_70 (by decide) ?_
          obtain ⟨n_32, ln_32, h⟩ := h
          refine wa_sub C [1, 2, 3, 4, 0] rfl ?_
          exact ih_6 n_32 ln_32 x4_31 R_waitingCount_24 R_found_25 R_openEnds_26 R_need_27 R_waiting_28 R_waits_29 rx4_31 h
        refine wa_if_ne C (tgt := 67) rv_21 dX7_markEnds_39 (by decide) (fun c_33 => ?_) (fun c_33 => ?_)
        · replace h := h.1 c_33
          refine wa_sub C [1, 2, 3, 4, 5] rfl ?_
          exact k_23 R_waitingCount_9 R_found_10 R_openEnds_11 R_need_12 R_waiting_13 R_waits_14 h
        · replace h := h.2 c_33
          refine wa_iload_n C 3 rfl dX7_markEnds_42 rfl ?_
          refine wa_iconst C (z := -1) dX7_markEnds_43 rfl ?_
          obtain ⟨J_34, h, hJ_34⟩ := h
          have k_35 : J_34 → WA p l e ({ frames := 3, cells := 0, slots := 0, locals := 180 } : Room) s m args below meth c 0 0 Q K ad 6 A 60 [(0, .ref (ad 6)), (1, .int (iI x1)), (2, .int (iI x2)), (3, .int (iI x3)), (4, .int (iI x4_8)), (5, .int (iI v_19))] [] (dW D_hasBoard D_beganBlank F_mines F_moves F_changes G_width G_height G_size B_parts B_longest S_groups S_askedGroup S_taken R_waitingCount_9 R_metCount A_grade A_cell A_mined A_withTotal A_numbers X_low X_high Y_low Y_high F_mined F_number F_state F_cellsIn F_unknownNear F_hitNear F_moveStart F_changed F_waiting F_seen G_near G_nearEnd B_chosen B_partOf B_rest B_unknowns B_partStart B_cells S_minedSet S_safeSet S_partSet S_tally S_askedTally S_groupOf S_groupSize S_links S_linkEnd S_pick S_groupMinedSet S_groupSafeSet O_sums O_nextSums R_found_10 R_openEnds_11 R_need_12 R_waiting_13 R_waits_14 R_common R_met A_number Q_mined Q_all Q_choices Q_term Q_divisor Q_spare X_limbs X_sum Y_limbs Y_sum) := by
            intro h
            replace h := hJ_34 h
            refine wa_aload_n C 0 rfl dX7_markEnds_60 rfl ?_
            refine wa_iload C 5 rfl dX7_markEnds_61 ?_
            refine wa_iload_n C 3 rfl dX7_markEnds_63 rfl ?_
            refine wa_callVv C (k := 6) (As := [.int (iI v_19), .int (iI x3)]) (rest := []) (c_X7_mark l K ad v_19 x3 rv_19 rx3 _ h) gw_696 gw_693 dW_6 rfl gw_695 gs_13 gw_7 q_X7_mark rfl rfl rfl ⟨by decide, by decide⟩ rfl (Nat.le_of_ble_eq_true rfl) dX7_markEnds_64 (fun u9 hp => ?_)
            obtain ⟨R_waitingCount_36, R_found_37, R_openEnds_38, R_need_39, R_waiting_40, R_waits_41, rfl, h⟩ := hp
            refine wa_sub C [0, 1, 2, 3, 4] rfl ?_
            exact k_23 R_waitingCount_36 R_found_37 R_openEnds_38 R_need_39 R_waiting_40 R_waits_41 h
          refine wa_icmp_eq C (tgt := 60) rx2 (inR_k (-1) rfl) dX7_markEnds_44 (by decide) (fun c_42 => ?_) (fun c_42 => ?_)
          · replace h := h.1 c_42
            refine wa_sub C [1, 2, 3, 4, 5, 0] rfl ?_
            exact k_35 h
          · replace h := h.2 c_42
            refine wa_aload_n C 1 rfl dX7_markEnds_47 rfl ?_
            refine wa_getR C 6 2 dW_6 rfl rfl (by decide) okX7 gw_300 dX7_markEnds_48 ?_
            refine wa_iload_n C 3 rfl dX7_markEnds_51 rfl ?_
            refine wa_iload C 0 rfl dX7_markEnds_52 ?_
            refine wa_callVi C (k := 2) (As := [.int (iI x2), .int (iI v_19)]) (rest := []) (c_X3_areNear l K ad x2 v_19 rx2 rv_19 _ h) gw_622 gw_692 dW_2 rfl gw_620 gw_621 gw_3 q_X3_areNear rfl rfl rfl ⟨by decide, by decide⟩ rfl (Nat.le_of_ble_eq_true rfl) dX7_markEnds_54 (fun c_43 u9 rc_43 hp => ?_)
            obtain ⟨bc_43, rfl, h⟩ := hp
            replace h := h bc_43
            refine wa_if_ne C (tgt := 67) (inR_b bc_43) dX7_markEnds_57 (by decide) (fun c_44 => ?_) (fun c_44 => ?_)
            · replace h := h.1 c_44
              refine wa_sub C [1, 2, 3, 4, 5] rfl ?_
              exact k_23 R_waitingCount_9 R_found_10 R_openEnds_11 R_need_12 R_waiting_13 R_waits_14 h
            · replace h := h.2 c_44
              refine wa_sub C [1, 2, 3, 4, 5, 0] rfl ?_
              exact k_35 h
  refine wa_sub C [1, 2, 3, 4, 0] rfl ?_
  exact k_7 n_4 x4_2 R_waitingCount R_found R_openEnds R_need R_waiting R_waits rx4_2 h0Inv_3
def P_X7_compare (post : Int → (Int) → (Int → Int) → (Int → Int) → (Int → Int) → (Int → Int) → (Int → Int) → Prop) (R_waitingCount : Int) (F_state : Int → Int) (G_near : Int → Int) (G_nearEnd : Int → Int) (R_found : Int → Int) (R_openEnds : Int → Int) (R_need : Int → Int) (R_waiting : Int → Int) (R_waits : Int → Int) (x1 : Int) (x2 : Int) (x3 : Int) : Prop :=
  (0 ≤ x2 ∧ x2 < 144) ∧ (∀ v_2 : Int, v_2 = R_need x2 → inR v_2 → ((0 ≤ x1 ∧ x1 < 144) ∧ (∀ v_4 : Int, v_4 = R_need x1 → inR v_4 → (inR (v_2 - v_4) ∧ (∀ x4_6 : Int, x4_6 = (v_2 - v_4) → (∃ J_7 : Prop, ((x4_6 = 0 → (J_7)) ∧ (¬ x4_6 = 0 → ((x4_6 = x3 → (J_7)) ∧ (¬ x4_6 = x3 → (post 0 R_waitingCount R_found R_openEnds R_need R_waiting R_waits))))) ∧ (J_7 → (∃ J_9 : (Int) → Prop, ((¬ x4_6 = 0 → (J_9 2)) ∧ (x4_6 = 0 → (J_9 1))) ∧ (∀ (z_11 : Int), inR z_11 → J_9 z_11 → (P_X7_markEnds (fun (R_waitingCount_12 : Int) (R_found_13 : Int → Int) (R_openEnds_14 : Int → Int) (R_need_15 : Int → Int) (R_waiting_16 : Int → Int) (R_waits_17 : Int → Int) => (post 1 R_waitingCount_12 R_found_13 R_openEnds_14 R_need_15 R_waiting_16 R_waits_17)) R_waitingCount F_state G_near G_nearEnd R_found R_openEnds R_need R_waiting R_waits x2 x1 z_11))))))))))
set_option maxRecDepth 100000 in
set_option maxHeartbeats 4000000 in
theorem c_X7_compare (l : Launch) (K : wK) (ad : Nat → Nat) {D_hasBoard : Int} {D_beganBlank : Int} {F_mines : Int} {F_moves : Int} {F_changes : Int} {G_width : Int} {G_height : Int} {G_size : Int} {B_parts : Int} {B_longest : Int} {S_groups : Int} {S_askedGroup : Int} {S_taken : Int} {R_waitingCount : Int} {R_metCount : Int} {A_grade : Int} {A_cell : Int} {A_mined : Int} {A_withTotal : Int} {A_numbers : Int} {X_low : Int} {X_high : Int} {Y_low : Int} {Y_high : Int} {F_mined : Int → Int} {F_number : Int → Int} {F_state : Int → Int} {F_cellsIn : Int → Int} {F_unknownNear : Int → Int} {F_hitNear : Int → Int} {F_moveStart : Int → Int} {F_changed : Int → Int} {F_waiting : Int → Int} {F_seen : Int → Int} {G_near : Int → Int} {G_nearEnd : Int → Int} {B_chosen : Int → Int} {B_partOf : Int → Int} {B_rest : Int → Int} {B_unknowns : Int → Int} {B_partStart : Int → Int} {B_cells : Int → Int} {S_minedSet : Int → Int} {S_safeSet : Int → Int} {S_partSet : Int → Int} {S_tally : Int → Int} {S_askedTally : Int → Int} {S_groupOf : Int → Int} {S_groupSize : Int → Int} {S_links : Int → Int} {S_linkEnd : Int → Int} {S_pick : Int → Int} {S_groupMinedSet : Int → Int} {S_groupSafeSet : Int → Int} {O_sums : Int → Int64} {O_nextSums : Int → Int64} {R_found : Int → Int} {R_openEnds : Int → Int} {R_need : Int → Int} {R_waiting : Int → Int} {R_waits : Int → Int} {R_common : Int → Int} {R_met : Int → Int} {A_number : Int → Int} {Q_mined : Int → Int64} {Q_all : Int → Int64} {Q_choices : Int → Int64} {Q_term : Int → Int64} {Q_divisor : Int → Int64} {Q_spare : Int → Int64} {X_limbs : Int → Int64} {X_sum : Int → Int64} {Y_limbs : Int → Int64} {Y_sum : Int → Int64} (x1 : Int) (x2 : Int) (x3 : Int) (rx1 : inR x1) (rx2 : inR x2) (rx3 : inR x3) (post : Int → (Int) → (Int → Int) → (Int → Int) → (Int → Int) → (Int → Int) → (Int → Int) → Prop) (h : P_X7_compare post R_waitingCount F_state G_near G_nearEnd R_found R_openEnds R_need R_waiting R_waits x1 x2 x3) : mI l yX7_compare (Cond.code yX7_compare cX7_compare 5 (some .boolean) :: GT) ({ frames := 4, cells := 0, slots := 0, locals := 240 } : Room) [.ref (ad 6), .int (iI x1), .int (iI x2), .int (iI x3)] K ad (dW D_hasBoard D_beganBlank F_mines F_moves F_changes G_width G_height G_size B_parts B_longest S_groups S_askedGroup S_taken R_waitingCount R_metCount A_grade A_cell A_mined A_withTotal A_numbers X_low X_high Y_low Y_high F_mined F_number F_state F_cellsIn F_unknownNear F_hitNear F_moveStart F_changed F_waiting F_seen G_near G_nearEnd B_chosen B_partOf B_rest B_unknowns B_partStart B_cells S_minedSet S_safeSet S_partSet S_tally S_askedTally S_groupOf S_groupSize S_links S_linkEnd S_pick S_groupMinedSet S_groupSafeSet O_sums O_nextSums R_found R_openEnds R_need R_waiting R_waits R_common R_met A_number Q_mined Q_all Q_choices Q_term Q_divisor Q_spare X_limbs X_sum Y_limbs Y_sum) (fun z9 u9 => (z9 = 0 ∨ z9 = 1) ∧ ∃ R_waitingCount9 R_found9 R_openEnds9 R_need9 R_waiting9 R_waits9, u9 = (dW D_hasBoard D_beganBlank F_mines F_moves F_changes G_width G_height G_size B_parts B_longest S_groups S_askedGroup S_taken R_waitingCount9 R_metCount A_grade A_cell A_mined A_withTotal A_numbers X_low X_high Y_low Y_high F_mined F_number F_state F_cellsIn F_unknownNear F_hitNear F_moveStart F_changed F_waiting F_seen G_near G_nearEnd B_chosen B_partOf B_rest B_unknowns B_partStart B_cells S_minedSet S_safeSet S_partSet S_tally S_askedTally S_groupOf S_groupSize S_links S_linkEnd S_pick S_groupMinedSet S_groupSafeSet O_sums O_nextSums R_found9 R_openEnds9 R_need9 R_waiting9 R_waits9 R_common R_met A_number Q_mined Q_all Q_choices Q_term Q_divisor Q_spare X_limbs X_sum Y_limbs Y_sum) ∧ post z9 R_waitingCount9 R_found9 R_openEnds9 R_need9 R_waiting9 R_waits9) := by
  refine mZ_of (lv0 := [(0, .ref (ad 6)), (1, .int (iI x1)), (2, .int (iI x2)), (3, .int (iI x3))]) (by decide) (Nat.le_of_ble_eq_true rfl) rfl ?_
  intro p e s m args below meth c Q A C ret
  replace C : Cx p ({ frames := 4, cells := 0, slots := 0, locals := 240 } : Room) m c 0 0 cX7_compare 5 s args RX7 K A := C
  unfold P_X7_compare at h
  refine wa_aload_n C 0 rfl dX7_compare_0 rfl ?_
  refine wa_getR C 6 5 dW_6 rfl rfl (by decide) okX7 gw_303 dX7_compare_1 ?_
  refine wa_iload_n C 2 rfl dX7_compare_4 rfl ?_
  obtain ⟨t_1, h⟩ := h
  refine wa_iald C 46 dW_46 dX7_compare_5 t_1.1 t_1.2 (fun v_2 ev_2 rv_2 => ?_)
  replace h := h v_2 ev_2 rv_2
  refine wa_aload_n C 0 rfl dX7_compare_6 rfl ?_
  refine wa_getR C 6 5 dW_6 rfl rfl (by decide) okX7 gw_303 dX7_compare_7 ?_
  refine wa_iload_n C 1 rfl dX7_compare_10 rfl ?_
  obtain ⟨t_3, h⟩ := h
  refine wa_iald C 46 dW_46 dX7_compare_11 t_3.1 t_3.2 (fun v_4 ev_4 rv_4 => ?_)
  replace h := h v_4 ev_4 rv_4
  refine wa_isub C dX7_compare_12 ?_
  obtain ⟨r_5, h⟩ := h
  refine wa_nmi (fun x4_6 ex4_6 => ?_)
  replace h := h x4_6 ex4_6
  have rx4_6 : inR x4_6 := by rw [ex4_6]; exact r_5
  refine wa_istore C dX7_compare_13 (by decide) rfl ?_
  refine wa_iload C 0 rfl dX7_compare_15 ?_
  obtain ⟨J_7, h, hJ_7⟩ := h
  have k_8 : J_7 → WA p l e ({ frames := 4, cells := 0, slots := 0, locals := 240 } : Room) s m args below meth c 0 0 Q K ad 5 A 28 [(0, .ref (ad 6)), (1, .int (iI x1)), (2, .int (iI x2)), (4, .int (iI x4_6))] [] (dW D_hasBoard D_beganBlank F_mines F_moves F_changes G_width G_height G_size B_parts B_longest S_groups S_askedGroup S_taken R_waitingCount R_metCount A_grade A_cell A_mined A_withTotal A_numbers X_low X_high Y_low Y_high F_mined F_number F_state F_cellsIn F_unknownNear F_hitNear F_moveStart F_changed F_waiting F_seen G_near G_nearEnd B_chosen B_partOf B_rest B_unknowns B_partStart B_cells S_minedSet S_safeSet S_partSet S_tally S_askedTally S_groupOf S_groupSize S_links S_linkEnd S_pick S_groupMinedSet S_groupSafeSet O_sums O_nextSums R_found R_openEnds R_need R_waiting R_waits R_common R_met A_number Q_mined Q_all Q_choices Q_term Q_divisor Q_spare X_limbs X_sum Y_limbs Y_sum) := by
    intro h
    replace h := hJ_7 h
    refine wa_aload_n C 0 rfl dX7_compare_28 rfl ?_
    refine wa_iload_n C 2 rfl dX7_compare_29 rfl ?_
    refine wa_iload_n C 1 rfl dX7_compare_30 rfl ?_
    refine wa_iload C 3 rfl dX7_compare_31 ?_
    obtain ⟨J_9, h, hJ_9⟩ := h
    have k_10 : ∀ (z_11 : Int), inR z_11 → J_9 z_11 → WA p l e ({ frames := 4, cells := 0, slots := 0, locals := 240 } : Room) s m args below meth c 0 0 Q K ad 5 A 41 [] [.int (iI z_11), .int (iI x1), .int (iI x2), .ref (ad 6)] (dW D_hasBoard D_beganBlank F_mines F_moves F_changes G_width G_height G_size B_parts B_longest S_groups S_askedGroup S_taken R_waitingCount R_metCount A_grade A_cell A_mined A_withTotal A_numbers X_low X_high Y_low Y_high F_mined F_number F_state F_cellsIn F_unknownNear F_hitNear F_moveStart F_changed F_waiting F_seen G_near G_nearEnd B_chosen B_partOf B_rest B_unknowns B_partStart B_cells S_minedSet S_safeSet S_partSet S_tally S_askedTally S_groupOf S_groupSize S_links S_linkEnd S_pick S_groupMinedSet S_groupSafeSet O_sums O_nextSums R_found R_openEnds R_need R_waiting R_waits R_common R_met A_number Q_mined Q_all Q_choices Q_term Q_divisor Q_spare X_limbs X_sum Y_limbs Y_sum) := by
      intro z_11 rz_11 h
      replace h := hJ_9 z_11 rz_11 h
      refine wa_callVv C (k := 6) (As := [.int (iI x2), .int (iI x1), .int (iI z_11)]) (rest := []) (c_X7_markEnds l K ad x2 x1 z_11 rx2 rx1 rz_11 _ h) gw_691 gw_688 dW_6 rfl gw_690 gs_12 gw_7 q_X7_markEnds rfl rfl rfl ⟨by decide, by decide⟩ rfl (Nat.le_of_ble_eq_true rfl) dX7_compare_41 (fun u9 hp => ?_)
      obtain ⟨R_waitingCount_12, R_found_13, R_openEnds_14, R_need_15, R_waiting_16, R_waits_17, rfl, h⟩ := hp
      refine wa_iconst C (z := 1) dX7_compare_44 rfl ?_
      exact ret dX7_compare_45 (Or.inr rfl) ⟨(Or.inr rfl), _, _, _, _, _, _, rfl, h⟩
    refine wa_if_ne C (tgt := 40) rx4_6 dX7_compare_33 (by decide) (fun c_18 => ?_) (fun c_18 => ?_)
    · replace h := h.1 c_18
      refine wa_iconst C (z := 2) dX7_compare_40 rfl ?_
      refine wa_sub C [] rfl ?_
      exact k_10 2 (inR_k 2 rfl) h
    · replace h := h.2 c_18
      refine wa_iconst C (z := 1) dX7_compare_36 rfl ?_
      refine wa_goto C (tgt := 41) dX7_compare_37 (by decide) ?_
      refine wa_sub C [] rfl ?_
      exact k_10 1 (inR_k 1 rfl) h
  refine wa_if_eq C (tgt := 28) rx4_6 dX7_compare_17 (by decide) (fun c_19 => ?_) (fun c_19 => ?_)
  · replace h := h.1 c_19
    refine wa_sub C [1, 2, 3, 0] rfl ?_
    exact k_8 h
  · replace h := h.2 c_19
    refine wa_iload C 0 rfl dX7_compare_20 ?_
    refine wa_iload_n C 4 rfl dX7_compare_22 rfl ?_
    refine wa_icmp_eq C (tgt := 28) rx4_6 rx3 dX7_compare_23 (by decide) (fun c_20 => ?_) (fun c_20 => ?_)
    · replace h := h.1 c_20
      refine wa_sub C [1, 2, 3, 0] rfl ?_
      exact k_8 h
    · replace h := h.2 c_20
      refine wa_iconst C (z := 0) dX7_compare_26 rfl ?_
      exact ret dX7_compare_27 (Or.inl rfl) ⟨(Or.inl rfl), _, _, _, _, _, _, rfl, h⟩
def P_X7_findBeyond (post : Int → (Int) → (Int) → (Int → Int) → (Int → Int) → (Int → Int) → (Int → Int) → (Int → Int) → (Int → Int) → (Int → Int) → Prop) (R_waitingCount : Int) (R_metCount : Int) (F_state : Int → Int) (G_near : Int → Int) (G_nearEnd : Int → Int) (R_found : Int → Int) (R_openEnds : Int → Int) (R_need : Int → Int) (R_waiting : Int → Int) (R_waits : Int → Int) (R_common : Int → Int) (R_met : Int → Int) (x1 : Int) : Prop :=
  P_X7_countCommonEnds (fun (R_metCount_1 : Int) (R_common_2 : Int → Int) (R_met_3 : Int → Int) => (∃ Inv_4 : Nat → (Int) → (Int) → (Int) → (Int → Int) → (Int → Int) → (Int → Int) → (Int → Int) → (Int → Int) → (Int → Int) → Prop, (∃ n_5 : Nat, Inv_4 n_5 0 0 R_waitingCount R_found R_openEnds R_need R_waiting R_waits R_common_2) ∧ ∀ (n_6 : Nat) (x2_9 : Int) (x3_10 : Int) (R_waitingCount_11 : Int) (R_found_12 : Int → Int) (R_openEnds_13 : Int → Int) (R_need_14 : Int → Int) (R_waiting_15 : Int → Int) (R_waits_16 : Int → Int) (R_common_17 : Int → Int), inR x2_9 → inR x3_10 → Inv_4 n_6 x2_9 x3_10 R_waitingCount_11 R_found_12 R_openEnds_13 R_need_14 R_waiting_15 R_waits_16 R_common_17 → ((R_metCount_1 ≤ x3_10 → ((x2_9 = 0 ∨ x2_9 = 1) ∧ (post x2_9 R_waitingCount_11 R_metCount_1 R_found_12 R_openEnds_13 R_need_14 R_waiting_15 R_waits_16 R_common_17 R_met_3))) ∧ (¬ R_metCount_1 ≤ x3_10 → ((0 ≤ x3_10 ∧ x3_10 < 144) ∧ (∀ v_22 : Int, v_22 = R_met_3 x3_10 → inR v_22 → ((0 ≤ v_22 ∧ v_22 < 144) ∧ (∀ v_24 : Int, v_24 = R_openEnds_13 v_22 → inR v_24 → ((0 ≤ x1 ∧ x1 < 144) ∧ (∀ v_26 : Int, v_26 = R_openEnds_13 x1 → inR v_26 → (inR (v_24 - v_26) ∧ (∀ x5_28 : Int, x5_28 = (v_24 - v_26) → (∃ J_29 : (Int) → (Int) → (Int → Int) → (Int → Int) → (Int → Int) → (Int → Int) → (Int → Int) → Prop, ((¬ x2_9 = 0 → (J_29 x2_9 R_waitingCount_11 R_found_12 R_openEnds_13 R_need_14 R_waiting_15 R_waits_16)) ∧ (x2_9 = 0 → ((x5_28 ≤ 0 → (J_29 x2_9 R_waitingCount_11 R_found_12 R_openEnds_13 R_need_14 R_waiting_15 R_waits_16)) ∧ (¬ x5_28 ≤ 0 → ((0 ≤ v_22 ∧ v_22 < 144) ∧ (∀ v_46 : Int, v_46 = R_common_17 v_22 → inR v_46 → ((0 ≤ x1 ∧ x1 < 144) ∧ (∀ v_48 : Int, v_48 = R_openEnds_13 x1 → inR v_48 → ((¬ v_46 = v_48 → (J_29 x2_9 R_waitingCount_11 R_found_12 R_openEnds_13 R_need_14 R_waiting_15 R_waits_16)) ∧ (v_46 = v_48 → (P_X7_compare (fun (c_50 : Int) (R_waitingCount_51 : Int) (R_found_52 : Int → Int) (R_openEnds_53 : Int → Int) (R_need_54 : Int → Int) (R_waiting_55 : Int → Int) (R_waits_56 : Int → Int) => (c_50 = 0 ∨ c_50 = 1) → (J_29 c_50 R_waitingCount_51 R_found_52 R_openEnds_53 R_need_54 R_waiting_55 R_waits_56)) R_waitingCount_11 F_state G_near G_nearEnd R_found_12 R_openEnds_13 R_need_14 R_waiting_15 R_waits_16 x1 v_22 x5_28))))))))))) ∧ (∀ (x2_31 : Int) (R_waitingCount_32 : Int) (R_found_33 : Int → Int) (R_openEnds_34 : Int → Int) (R_need_35 : Int → Int) (R_waiting_36 : Int → Int) (R_waits_37 : Int → Int), inR x2_31 → J_29 x2_31 R_waitingCount_32 R_found_33 R_openEnds_34 R_need_35 R_waiting_36 R_waits_37 → ((0 ≤ v_22 ∧ v_22 < 144) ∧ (∀ R_common_39 : Int → Int, R_common_39 = upZ R_common_17 v_22 0 → (inR (x3_10 + 1) ∧ (∀ x3_41 : Int, x3_41 = (x3_10 + 1) → (∃ n_42 : Nat, n_42 < n_6 ∧ Inv_4 n_42 x2_31 x3_41 R_waitingCount_32 R_found_33 R_openEnds_34 R_need_35 R_waiting_36 R_waits_37 R_common_39))))))))))))))))))) R_metCount F_state G_near G_nearEnd R_found R_common R_met x1
set_option maxRecDepth 100000 in
set_option maxHeartbeats 4000000 in
theorem c_X7_findBeyond (l : Launch) (K : wK) (ad : Nat → Nat) {D_hasBoard : Int} {D_beganBlank : Int} {F_mines : Int} {F_moves : Int} {F_changes : Int} {G_width : Int} {G_height : Int} {G_size : Int} {B_parts : Int} {B_longest : Int} {S_groups : Int} {S_askedGroup : Int} {S_taken : Int} {R_waitingCount : Int} {R_metCount : Int} {A_grade : Int} {A_cell : Int} {A_mined : Int} {A_withTotal : Int} {A_numbers : Int} {X_low : Int} {X_high : Int} {Y_low : Int} {Y_high : Int} {F_mined : Int → Int} {F_number : Int → Int} {F_state : Int → Int} {F_cellsIn : Int → Int} {F_unknownNear : Int → Int} {F_hitNear : Int → Int} {F_moveStart : Int → Int} {F_changed : Int → Int} {F_waiting : Int → Int} {F_seen : Int → Int} {G_near : Int → Int} {G_nearEnd : Int → Int} {B_chosen : Int → Int} {B_partOf : Int → Int} {B_rest : Int → Int} {B_unknowns : Int → Int} {B_partStart : Int → Int} {B_cells : Int → Int} {S_minedSet : Int → Int} {S_safeSet : Int → Int} {S_partSet : Int → Int} {S_tally : Int → Int} {S_askedTally : Int → Int} {S_groupOf : Int → Int} {S_groupSize : Int → Int} {S_links : Int → Int} {S_linkEnd : Int → Int} {S_pick : Int → Int} {S_groupMinedSet : Int → Int} {S_groupSafeSet : Int → Int} {O_sums : Int → Int64} {O_nextSums : Int → Int64} {R_found : Int → Int} {R_openEnds : Int → Int} {R_need : Int → Int} {R_waiting : Int → Int} {R_waits : Int → Int} {R_common : Int → Int} {R_met : Int → Int} {A_number : Int → Int} {Q_mined : Int → Int64} {Q_all : Int → Int64} {Q_choices : Int → Int64} {Q_term : Int → Int64} {Q_divisor : Int → Int64} {Q_spare : Int → Int64} {X_limbs : Int → Int64} {X_sum : Int → Int64} {Y_limbs : Int → Int64} {Y_sum : Int → Int64} (x1 : Int) (rx1 : inR x1) (post : Int → (Int) → (Int) → (Int → Int) → (Int → Int) → (Int → Int) → (Int → Int) → (Int → Int) → (Int → Int) → (Int → Int) → Prop) (h : P_X7_findBeyond post R_waitingCount R_metCount F_state G_near G_nearEnd R_found R_openEnds R_need R_waiting R_waits R_common R_met x1) : mI l yX7_findBeyond (Cond.code yX7_findBeyond cX7_findBeyond 6 (some .boolean) :: GT) ({ frames := 5, cells := 0, slots := 0, locals := 300 } : Room) [.ref (ad 6), .int (iI x1)] K ad (dW D_hasBoard D_beganBlank F_mines F_moves F_changes G_width G_height G_size B_parts B_longest S_groups S_askedGroup S_taken R_waitingCount R_metCount A_grade A_cell A_mined A_withTotal A_numbers X_low X_high Y_low Y_high F_mined F_number F_state F_cellsIn F_unknownNear F_hitNear F_moveStart F_changed F_waiting F_seen G_near G_nearEnd B_chosen B_partOf B_rest B_unknowns B_partStart B_cells S_minedSet S_safeSet S_partSet S_tally S_askedTally S_groupOf S_groupSize S_links S_linkEnd S_pick S_groupMinedSet S_groupSafeSet O_sums O_nextSums R_found R_openEnds R_need R_waiting R_waits R_common R_met A_number Q_mined Q_all Q_choices Q_term Q_divisor Q_spare X_limbs X_sum Y_limbs Y_sum) (fun z9 u9 => (z9 = 0 ∨ z9 = 1) ∧ ∃ R_waitingCount9 R_metCount9 R_found9 R_openEnds9 R_need9 R_waiting9 R_waits9 R_common9 R_met9, u9 = (dW D_hasBoard D_beganBlank F_mines F_moves F_changes G_width G_height G_size B_parts B_longest S_groups S_askedGroup S_taken R_waitingCount9 R_metCount9 A_grade A_cell A_mined A_withTotal A_numbers X_low X_high Y_low Y_high F_mined F_number F_state F_cellsIn F_unknownNear F_hitNear F_moveStart F_changed F_waiting F_seen G_near G_nearEnd B_chosen B_partOf B_rest B_unknowns B_partStart B_cells S_minedSet S_safeSet S_partSet S_tally S_askedTally S_groupOf S_groupSize S_links S_linkEnd S_pick S_groupMinedSet S_groupSafeSet O_sums O_nextSums R_found9 R_openEnds9 R_need9 R_waiting9 R_waits9 R_common9 R_met9 A_number Q_mined Q_all Q_choices Q_term Q_divisor Q_spare X_limbs X_sum Y_limbs Y_sum) ∧ post z9 R_waitingCount9 R_metCount9 R_found9 R_openEnds9 R_need9 R_waiting9 R_waits9 R_common9 R_met9) := by
  refine mZ_of (lv0 := [(0, .ref (ad 6)), (1, .int (iI x1))]) (by decide) (Nat.le_of_ble_eq_true rfl) rfl ?_
  intro p e s m args below meth c Q A C ret
  replace C : Cx p ({ frames := 5, cells := 0, slots := 0, locals := 300 } : Room) m c 0 0 cX7_findBeyond 6 s args RX7 K A := C
  unfold P_X7_findBeyond at h
  refine wa_aload_n C 0 rfl dX7_findBeyond_0 rfl ?_
  refine wa_iload_n C 1 rfl dX7_findBeyond_1 rfl ?_
  refine wa_callVv C (k := 6) (As := [.int (iI x1)]) (rest := []) (c_X7_countCommonEnds l K ad x1 rx1 _ h) gw_708 gw_705 dW_6 rfl gw_707 gs_16 gw_7 q_X7_countCommonEnds rfl rfl rfl ⟨by decide, by decide⟩ rfl (Nat.le_of_ble_eq_true rfl) dX7_findBeyond_2 (fun u9 hp => ?_)
  obtain ⟨R_metCount_1, R_common_2, R_met_3, rfl, h⟩ := hp
  refine wa_iconst C (z := 0) dX7_findBeyond_5 rfl ?_
  refine wa_istore_n C dX7_findBeyond_6 rfl (by decide) rfl ?_
  refine wa_iconst C (z := 0) dX7_findBeyond_7 rfl ?_
  refine wa_istore_n C dX7_findBeyond_8 rfl (by decide) rfl ?_
  obtain ⟨Inv_4, ⟨n_5, h0Inv_4⟩, hInv_4⟩ := h
  have k_8 : ∀ (n_6 : Nat) (x2_9 : Int) (x3_10 : Int) (R_waitingCount_11 : Int) (R_found_12 : Int → Int) (R_openEnds_13 : Int → Int) (R_need_14 : Int → Int) (R_waiting_15 : Int → Int) (R_waits_16 : Int → Int) (R_common_17 : Int → Int), inR x2_9 → inR x3_10 → Inv_4 n_6 x2_9 x3_10 R_waitingCount_11 R_found_12 R_openEnds_13 R_need_14 R_waiting_15 R_waits_16 R_common_17 → WA p l e ({ frames := 5, cells := 0, slots := 0, locals := 300 } : Room) s m args below meth c 0 0 Q K ad 6 A 9 [(0, .ref (ad 6)), (1, .int (iI x1)), (2, .int (iI x2_9)), (3, .int (iI x3_10))] [] (dW D_hasBoard D_beganBlank F_mines F_moves F_changes G_width G_height G_size B_parts B_longest S_groups S_askedGroup S_taken R_waitingCount_11 R_metCount_1 A_grade A_cell A_mined A_withTotal A_numbers X_low X_high Y_low Y_high F_mined F_number F_state F_cellsIn F_unknownNear F_hitNear F_moveStart F_changed F_waiting F_seen G_near G_nearEnd B_chosen B_partOf B_rest B_unknowns B_partStart B_cells S_minedSet S_safeSet S_partSet S_tally S_askedTally S_groupOf S_groupSize S_links S_linkEnd S_pick S_groupMinedSet S_groupSafeSet O_sums O_nextSums R_found_12 R_openEnds_13 R_need_14 R_waiting_15 R_waits_16 R_common_17 R_met_3 A_number Q_mined Q_all Q_choices Q_term Q_divisor Q_spare X_limbs X_sum Y_limbs Y_sum) := by
    intro n_6
    induction n_6 using Nat.strongRecOn with
    | ind n_6 ih_7 =>
      intro x2_9 x3_10 R_waitingCount_11 R_found_12 R_openEnds_13 R_need_14 R_waiting_15 R_waits_16 R_common_17 rx2_9 rx3_10 h
      replace h := hInv_4 n_6 x2_9 x3_10 R_waitingCount_11 R_found_12 R_openEnds_13 R_need_14 R_waiting_15 R_waits_16 R_common_17 rx2_9 rx3_10 h
      refine wa_iload_n C 3 rfl dX7_findBeyond_9 rfl ?_
      refine wa_aload_n C 0 rfl dX7_findBeyond_10 rfl ?_
      refine wa_getI C 6 11 dW_6 rfl rfl (by decide) okX7 gw_309 dX7_findBeyond_11 (fun r_18 => ?_)
      refine wa_icmp_ge C (tgt := 90) rx3_10 r_18 dX7_findBeyond_14 (by decide) (fun c_19 => ?_) (fun c_19 => ?_)
      · replace h := h.1 c_19
        refine wa_iload_n C 2 rfl dX7_findBeyond_90 rfl ?_
        obtain ⟨b_20, h⟩ := h
        exact ret dX7_findBeyond_91 b_20 ⟨b_20, _, _, _, _, _, _, _, _, _, rfl, h⟩
      · replace h := h.2 c_19
        refine wa_aload_n C 0 rfl dX7_findBeyond_17 rfl ?_
        refine wa_getR C 6 10 dW_6 rfl rfl (by decide) okX7 gw_308 dX7_findBeyond_18 ?_
        refine wa_iload_n C 3 rfl dX7_findBeyond_21 rfl ?_
        obtain ⟨t_21, h⟩ := h
        refine wa_iald C 50 dW_50 dX7_findBeyond_22 t_21.1 t_21.2 (fun v_22 ev_22 rv_22 => ?_)
        replace h := h v_22 ev_22 rv_22
        refine wa_istore C dX7_findBeyond_23 (by decide) rfl ?_
        refine wa_aload_n C 1 rfl dX7_findBeyond_25 rfl ?_
        refine wa_getR C 6 4 dW_6 rfl rfl (by decide) okX7 gw_302 dX7_findBeyond_26 ?_
        refine wa_iload C 0 rfl dX7_findBeyond_29 ?_
        obtain ⟨t_23, h⟩ := h
        refine wa_iald C 45 dW_45 dX7_findBeyond_31 t_23.1 t_23.2 (fun v_24 ev_24 rv_24 => ?_)
        replace h := h v_24 ev_24 rv_24
        refine wa_aload_n C 1 rfl dX7_findBeyond_32 rfl ?_
        refine wa_getR C 6 4 dW_6 rfl rfl (by decide) okX7 gw_302 dX7_findBeyond_33 ?_
        refine wa_iload_n C 2 rfl dX7_findBeyond_36 rfl ?_
        obtain ⟨t_25, h⟩ := h
        refine wa_iald C 45 dW_45 dX7_findBeyond_37 t_25.1 t_25.2 (fun v_26 ev_26 rv_26 => ?_)
        replace h := h v_26 ev_26 rv_26
        refine wa_isub C dX7_findBeyond_38 ?_
        obtain ⟨r_27, h⟩ := h
        refine wa_nmi (fun x5_28 ex5_28 => ?_)
        replace h := h x5_28 ex5_28
        have rx5_28 : inR x5_28 := by rw [ex5_28]; exact r_27
        refine wa_istore C dX7_findBeyond_39 (by decide) rfl ?_
        refine wa_iload_n C 4 rfl dX7_findBeyond_41 rfl ?_
        obtain ⟨J_29, h, hJ_29⟩ := h
        have k_30 : ∀ (x2_31 : Int) (R_waitingCount_32 : Int) (R_found_33 : Int → Int) (R_openEnds_34 : Int → Int) (R_need_35 : Int → Int) (R_waiting_36 : Int → Int) (R_waits_37 : Int → Int), inR x2_31 → J_29 x2_31 R_waitingCount_32 R_found_33 R_openEnds_34 R_need_35 R_waiting_36 R_waits_37 → WA p l e ({ frames := 5, cells := 0, slots := 0, locals := 300 } : Room) s m args below meth c 0 0 Q K ad 6 A 76 [(0, .ref (ad 6)), (1, .int (iI x1)), (2, .int (iI x2_31)), (3, .int (iI x3_10)), (4, .int (iI v_22))] [] (dW D_hasBoard D_beganBlank F_mines F_moves F_changes G_width G_height G_size B_parts B_longest S_groups S_askedGroup S_taken R_waitingCount_32 R_metCount_1 A_grade A_cell A_mined A_withTotal A_numbers X_low X_high Y_low Y_high F_mined F_number F_state F_cellsIn F_unknownNear F_hitNear F_moveStart F_changed F_waiting F_seen G_near G_nearEnd B_chosen B_partOf B_rest B_unknowns B_partStart B_cells S_minedSet S_safeSet S_partSet S_tally S_askedTally S_groupOf S_groupSize S_links S_linkEnd S_pick S_groupMinedSet S_groupSafeSet O_sums O_nextSums R_found_33 R_openEnds_34 R_need_35 R_waiting_36 R_waits_37 R_common_17 R_met_3 A_number Q_mined Q_all Q_choices Q_term Q_divisor Q_spare X_limbs X_sum Y_limbs Y_sum) := by
          intro x2_31 R_waitingCount_32 R_found_33 R_openEnds_34 R_need_35 R_waiting_36 R_waits_37 rx2_31 h
          replace h := hJ_29 x2_31 R_waitingCount_32 R_found_33 R_openEnds_34 R_need_35 R_waiting_36 R_waits_37 rx2_31 h
          refine wa_aload_n C 0 rfl dX7_findBeyond_76 rfl ?_
          refine wa_getR C 6 9 dW_6 rfl rfl (by decide) okX7 gw_307 dX7_findBeyond_77 ?_
          refine wa_iload C 4 rfl dX7_findBeyond_80 ?_
          refine wa_iconst C (z := 0) dX7_findBeyond_82 rfl ?_
          obtain ⟨t_38, h⟩ := h
          refine wa_iast C (ws' := fun w9 => (dW D_hasBoard D_beganBlank F_mines F_moves F_changes G_width G_height G_size B_parts B_longest S_groups S_askedGroup S_taken R_waitingCount_32 R_metCount_1 A_grade A_cell A_mined A_withTotal A_numbers X_low X_high Y_low Y_high F_mined F_number F_state F_cellsIn F_unknownNear F_hitNear F_moveStart F_changed F_waiting F_seen G_near G_nearEnd B_chosen B_partOf B_rest B_unknowns B_partStart B_cells S_minedSet S_safeSet S_partSet S_tally S_askedTally S_groupOf S_groupSize S_links S_linkEnd S_pick S_groupMinedSet S_groupSafeSet O_sums O_nextSums R_found_33 R_openEnds_34 R_need_35 R_waiting_36 R_waits_37 w9 R_met_3 A_number Q_mined Q_all Q_choices Q_term Q_divisor Q_spare X_limbs X_sum Y_limbs Y_sum)) 49 dW_49 dX7_findBeyond_83 t_38.1 t_38.2 (inR_k 0 rfl) dWs_49 (fun R_common_39 eR_common_39 => ?_)
          replace h := h R_common_39 eR_common_39
          obtain ⟨r_40, h⟩ := h
          refine wa_iinc C (lv' := fun w9 => [(3, .int (iI w9)), (0, .ref (ad 6)), (1, .int (iI x1)), (2, .int (iI x2_31)), (4, .int (iI v_22))]) 3 rfl dX7_findBeyond_84 (by decide) (fun _ => rfl) (fun x3_41 ex3_41 => ?_)
          replace h := h x3_41 ex3_41
          have rx3_41 : inR x3_41 := by rw [ex3_41]; exact r_40
          refine wa_goto C (tgt := 9) dX7_findBeyond_87 (by decide) ?_
          obtain ⟨n_42, ln_42, h⟩ := h
          refine wa_sub C [1, 2, 3, 0] rfl ?_
          exact ih_7 n_42 ln_42 x2_31 x3_41 R_waitingCount_32 R_found_33 R_openEnds_34 R_need_35 R_waiting_36 R_waits_37 R_common_39 rx2_31 rx3_41 h
        refine wa_if_ne C (tgt := 76) rx2_9 dX7_findBeyond_42 (by decide) (fun c_43 => ?_) (fun c_43 => ?_)
        · replace h := h.1 c_43
          refine wa_sub C [2, 3, 4, 5, 1] rfl ?_
          exact k_30 x2_9 R_waitingCount_11 R_found_12 R_openEnds_13 R_need_14 R_waiting_15 R_waits_16 rx2_9 h
        · replace h := h.2 c_43
          refine wa_iload C 0 rfl dX7_findBeyond_45 ?_
          refine wa_if_le C (tgt := 76) rx5_28 dX7_findBeyond_47 (by decide) (fun c_44 => ?_) (fun c_44 => ?_)
          · replace h := h.1 c_44
            refine wa_sub C [2, 3, 4, 5, 1] rfl ?_
            exact k_30 x2_9 R_waitingCount_11 R_found_12 R_openEnds_13 R_need_14 R_waiting_15 R_waits_16 rx2_9 h
          · replace h := h.2 c_44
            refine wa_aload_n C 2 rfl dX7_findBeyond_50 rfl ?_
            refine wa_getR C 6 9 dW_6 rfl rfl (by decide) okX7 gw_307 dX7_findBeyond_51 ?_
            refine wa_iload C 1 rfl dX7_findBeyond_54 ?_
            obtain ⟨t_45, h⟩ := h
            refine wa_iald C 49 dW_49 dX7_findBeyond_56 t_45.1 t_45.2 (fun v_46 ev_46 rv_46 => ?_)
            replace h := h v_46 ev_46 rv_46
            refine wa_aload_n C 2 rfl dX7_findBeyond_57 rfl ?_
            refine wa_getR C 6 4 dW_6 rfl rfl (by decide) okX7 gw_302 dX7_findBeyond_58 ?_
            refine wa_iload_n C 3 rfl dX7_findBeyond_61 rfl ?_
            obtain ⟨t_47, h⟩ := h
            refine wa_iald C 45 dW_45 dX7_findBeyond_62 t_47.1 t_47.2 (fun v_48 ev_48 rv_48 => ?_)
            replace h := h v_48 ev_48 rv_48
            refine wa_icmp_ne C (tgt := 76) rv_46 rv_48 dX7_findBeyond_63 (by decide) (fun c_49 => ?_) (fun c_49 => ?_)
            · replace h := h.1 c_49
              refine wa_sub C [2, 3, 4, 5, 1] rfl ?_
              exact k_30 x2_9 R_waitingCount_11 R_found_12 R_openEnds_13 R_need_14 R_waiting_15 R_waits_16 rx2_9 h
            · replace h := h.2 c_49
              refine wa_aload_n C 2 rfl dX7_findBeyond_66 rfl ?_
              refine wa_iload_n C 3 rfl dX7_findBeyond_67 rfl ?_
              refine wa_iload C 1 rfl dX7_findBeyond_68 ?_
              refine wa_iload C 0 rfl dX7_findBeyond_70 ?_
              refine wa_callVi C (k := 6) (As := [.int (iI x1), .int (iI v_22), .int (iI x5_28)]) (rest := []) (c_X7_compare l K ad x1 v_22 x5_28 rx1 rv_22 rx5_28 _ h) gw_716 gw_713 dW_6 rfl gw_715 gs_18 gw_7 q_X7_compare rfl rfl rfl ⟨by decide, by decide⟩ rfl (Nat.le_of_ble_eq_true rfl) dX7_findBeyond_72 (fun c_50 u9 rc_50 hp => ?_)
              obtain ⟨bc_50, R_waitingCount_51, R_found_52, R_openEnds_53, R_need_54, R_waiting_55, R_waits_56, rfl, h⟩ := hp
              replace h := h bc_50
              refine wa_istore_n C dX7_findBeyond_75 rfl (by decide) rfl ?_
              refine wa_sub C [3, 4, 0, 5, 2] rfl ?_
              exact k_30 c_50 R_waitingCount_51 R_found_52 R_openEnds_53 R_need_54 R_waiting_55 R_waits_56 (inR_b bc_50) h
  refine wa_sub C [2, 3, 1, 0] rfl ?_
  exact k_8 n_5 0 0 R_waitingCount R_found R_openEnds R_need R_waiting R_waits R_common_2 (inR_k 0 rfl) (inR_k 0 rfl) h0Inv_4
def P_X7_findBySingles (post : (Int) → (Int → Int) → (Int → Int) → (Int → Int) → (Int → Int) → (Int → Int) → Prop) (R_waitingCount : Int) (F_state : Int → Int) (G_near : Int → Int) (G_nearEnd : Int → Int) (R_found : Int → Int) (R_openEnds : Int → Int) (R_need : Int → Int) (R_waiting : Int → Int) (R_waits : Int → Int) : Prop :=
  ∃ Inv_1 : Nat → (Int) → (Int) → (Int → Int) → (Int → Int) → (Int → Int) → (Int → Int) → (Int → Int) → Prop, (∃ n_2 : Nat, Inv_1 n_2 0 R_waitingCount R_found R_openEnds R_need R_waiting R_waits) ∧ ∀ (n_3 : Nat) (x1_6 : Int) (R_waitingCount_7 : Int) (R_found_8 : Int → Int) (R_openEnds_9 : Int → Int) (R_need_10 : Int → Int) (R_waiting_11 : Int → Int) (R_waits_12 : Int → Int), inR x1_6 → Inv_1 n_3 x1_6 R_waitingCount_7 R_found_8 R_openEnds_9 R_need_10 R_waiting_11 R_waits_12 → ((1296 ≤ x1_6 → (post R_waitingCount_7 R_found_8 R_openEnds_9 R_need_10 R_waiting_11 R_waits_12)) ∧ (¬ 1296 ≤ x1_6 → ((R_waitingCount_7 ≤ 0 → (post R_waitingCount_7 R_found_8 R_openEnds_9 R_need_10 R_waiting_11 R_waits_12)) ∧ (¬ R_waitingCount_7 ≤ 0 → (inR (R_waitingCount_7 - 1) ∧ (∀ R_waitingCount_18 : Int, R_waitingCount_18 = (R_waitingCount_7 - 1) → ((0 ≤ R_waitingCount_18 ∧ R_waitingCount_18 < 144) ∧ (∀ v_21 : Int, v_21 = R_waiting_11 R_waitingCount_18 → inR v_21 → ((0 ≤ v_21 ∧ v_21 < 144) ∧ (∀ R_waits_23 : Int → Int, R_waits_23 = upZ R_waits_12 v_21 0 → ((0 ≤ v_21 ∧ v_21 < 144) ∧ (∀ v_25 : Int, v_25 = R_need_10 v_21 → inR v_25 → (∃ J_26 : (Int) → (Int → Int) → (Int → Int) → (Int → Int) → (Int → Int) → (Int → Int) → Prop, ((¬ v_25 = 0 → ((0 ≤ v_21 ∧ v_21 < 144) ∧ (∀ v_39 : Int, v_39 = R_need_10 v_21 → inR v_39 → ((0 ≤ v_21 ∧ v_21 < 144) ∧ (∀ v_41 : Int, v_41 = R_openEnds_9 v_21 → inR v_41 → ((¬ v_39 = v_41 → (J_26 R_waitingCount_18 R_found_8 R_openEnds_9 R_need_10 R_waiting_11 R_waits_23)) ∧ (v_39 = v_41 → (P_X7_markEnds (fun (R_waitingCount_43 : Int) (R_found_44 : Int → Int) (R_openEnds_45 : Int → Int) (R_need_46 : Int → Int) (R_waiting_47 : Int → Int) (R_waits_48 : Int → Int) => (J_26 R_waitingCount_43 R_found_44 R_openEnds_45 R_need_46 R_waiting_47 R_waits_48)) R_waitingCount_18 F_state G_near G_nearEnd R_found_8 R_openEnds_9 R_need_10 R_waiting_11 R_waits_23 v_21 (-1) 2)))))))) ∧ (v_25 = 0 → (P_X7_markEnds (fun (R_waitingCount_49 : Int) (R_found_50 : Int → Int) (R_openEnds_51 : Int → Int) (R_need_52 : Int → Int) (R_waiting_53 : Int → Int) (R_waits_54 : Int → Int) => (J_26 R_waitingCount_49 R_found_50 R_openEnds_51 R_need_52 R_waiting_53 R_waits_54)) R_waitingCount_18 F_state G_near G_nearEnd R_found_8 R_openEnds_9 R_need_10 R_waiting_11 R_waits_23 v_21 (-1) 1))) ∧ (∀ (R_waitingCount_28 : Int) (R_found_29 : Int → Int) (R_openEnds_30 : Int → Int) (R_need_31 : Int → Int) (R_waiting_32 : Int → Int) (R_waits_33 : Int → Int), J_26 R_waitingCount_28 R_found_29 R_openEnds_30 R_need_31 R_waiting_32 R_waits_33 → (inR (x1_6 + 1) ∧ (∀ x1_35 : Int, x1_35 = (x1_6 + 1) → (∃ n_36 : Nat, n_36 < n_3 ∧ Inv_1 n_36 x1_35 R_waitingCount_28 R_found_29 R_openEnds_30 R_need_31 R_waiting_32 R_waits_33)))))))))))))))))
set_option maxRecDepth 100000 in
set_option maxHeartbeats 4000000 in
theorem c_X7_findBySingles (l : Launch) (K : wK) (ad : Nat → Nat) {D_hasBoard : Int} {D_beganBlank : Int} {F_mines : Int} {F_moves : Int} {F_changes : Int} {G_width : Int} {G_height : Int} {G_size : Int} {B_parts : Int} {B_longest : Int} {S_groups : Int} {S_askedGroup : Int} {S_taken : Int} {R_waitingCount : Int} {R_metCount : Int} {A_grade : Int} {A_cell : Int} {A_mined : Int} {A_withTotal : Int} {A_numbers : Int} {X_low : Int} {X_high : Int} {Y_low : Int} {Y_high : Int} {F_mined : Int → Int} {F_number : Int → Int} {F_state : Int → Int} {F_cellsIn : Int → Int} {F_unknownNear : Int → Int} {F_hitNear : Int → Int} {F_moveStart : Int → Int} {F_changed : Int → Int} {F_waiting : Int → Int} {F_seen : Int → Int} {G_near : Int → Int} {G_nearEnd : Int → Int} {B_chosen : Int → Int} {B_partOf : Int → Int} {B_rest : Int → Int} {B_unknowns : Int → Int} {B_partStart : Int → Int} {B_cells : Int → Int} {S_minedSet : Int → Int} {S_safeSet : Int → Int} {S_partSet : Int → Int} {S_tally : Int → Int} {S_askedTally : Int → Int} {S_groupOf : Int → Int} {S_groupSize : Int → Int} {S_links : Int → Int} {S_linkEnd : Int → Int} {S_pick : Int → Int} {S_groupMinedSet : Int → Int} {S_groupSafeSet : Int → Int} {O_sums : Int → Int64} {O_nextSums : Int → Int64} {R_found : Int → Int} {R_openEnds : Int → Int} {R_need : Int → Int} {R_waiting : Int → Int} {R_waits : Int → Int} {R_common : Int → Int} {R_met : Int → Int} {A_number : Int → Int} {Q_mined : Int → Int64} {Q_all : Int → Int64} {Q_choices : Int → Int64} {Q_term : Int → Int64} {Q_divisor : Int → Int64} {Q_spare : Int → Int64} {X_limbs : Int → Int64} {X_sum : Int → Int64} {Y_limbs : Int → Int64} {Y_sum : Int → Int64}   (post : (Int) → (Int → Int) → (Int → Int) → (Int → Int) → (Int → Int) → (Int → Int) → Prop) (h : P_X7_findBySingles post R_waitingCount F_state G_near G_nearEnd R_found R_openEnds R_need R_waiting R_waits) : mV l yX7_findBySingles (Cond.code yX7_findBySingles cX7_findBySingles 3 none :: GT) ({ frames := 4, cells := 0, slots := 0, locals := 240 } : Room) [.ref (ad 6)] K ad (dW D_hasBoard D_beganBlank F_mines F_moves F_changes G_width G_height G_size B_parts B_longest S_groups S_askedGroup S_taken R_waitingCount R_metCount A_grade A_cell A_mined A_withTotal A_numbers X_low X_high Y_low Y_high F_mined F_number F_state F_cellsIn F_unknownNear F_hitNear F_moveStart F_changed F_waiting F_seen G_near G_nearEnd B_chosen B_partOf B_rest B_unknowns B_partStart B_cells S_minedSet S_safeSet S_partSet S_tally S_askedTally S_groupOf S_groupSize S_links S_linkEnd S_pick S_groupMinedSet S_groupSafeSet O_sums O_nextSums R_found R_openEnds R_need R_waiting R_waits R_common R_met A_number Q_mined Q_all Q_choices Q_term Q_divisor Q_spare X_limbs X_sum Y_limbs Y_sum) (fun u9 => ∃ R_waitingCount9 R_found9 R_openEnds9 R_need9 R_waiting9 R_waits9, u9 = (dW D_hasBoard D_beganBlank F_mines F_moves F_changes G_width G_height G_size B_parts B_longest S_groups S_askedGroup S_taken R_waitingCount9 R_metCount A_grade A_cell A_mined A_withTotal A_numbers X_low X_high Y_low Y_high F_mined F_number F_state F_cellsIn F_unknownNear F_hitNear F_moveStart F_changed F_waiting F_seen G_near G_nearEnd B_chosen B_partOf B_rest B_unknowns B_partStart B_cells S_minedSet S_safeSet S_partSet S_tally S_askedTally S_groupOf S_groupSize S_links S_linkEnd S_pick S_groupMinedSet S_groupSafeSet O_sums O_nextSums R_found9 R_openEnds9 R_need9 R_waiting9 R_waits9 R_common R_met A_number Q_mined Q_all Q_choices Q_term Q_divisor Q_spare X_limbs X_sum Y_limbs Y_sum) ∧ post R_waitingCount9 R_found9 R_openEnds9 R_need9 R_waiting9 R_waits9) := by
  refine mV_of (lv0 := [(0, .ref (ad 6))]) (by decide) (Nat.le_of_ble_eq_true rfl) rfl ?_
  intro p e s m args below meth c Q A C ret
  replace C : Cx p ({ frames := 4, cells := 0, slots := 0, locals := 240 } : Room) m c 0 0 cX7_findBySingles 3 s args RX7 K A := C
  unfold P_X7_findBySingles at h
  refine wa_iconst C (z := 0) dX7_findBySingles_0 rfl ?_
  refine wa_istore_n C dX7_findBySingles_1 rfl (by decide) rfl ?_
  obtain ⟨Inv_1, ⟨n_2, h0Inv_1⟩, hInv_1⟩ := h
  have k_5 : ∀ (n_3 : Nat) (x1_6 : Int) (R_waitingCount_7 : Int) (R_found_8 : Int → Int) (R_openEnds_9 : Int → Int) (R_need_10 : Int → Int) (R_waiting_11 : Int → Int) (R_waits_12 : Int → Int), inR x1_6 → Inv_1 n_3 x1_6 R_waitingCount_7 R_found_8 R_openEnds_9 R_need_10 R_waiting_11 R_waits_12 → WA p l e ({ frames := 4, cells := 0, slots := 0, locals := 240 } : Room) s m args below meth c 0 0 Q K ad 3 A 2 [(0, .ref (ad 6)), (1, .int (iI x1_6))] [] (dW D_hasBoard D_beganBlank F_mines F_moves F_changes G_width G_height G_size B_parts B_longest S_groups S_askedGroup S_taken R_waitingCount_7 R_metCount A_grade A_cell A_mined A_withTotal A_numbers X_low X_high Y_low Y_high F_mined F_number F_state F_cellsIn F_unknownNear F_hitNear F_moveStart F_changed F_waiting F_seen G_near G_nearEnd B_chosen B_partOf B_rest B_unknowns B_partStart B_cells S_minedSet S_safeSet S_partSet S_tally S_askedTally S_groupOf S_groupSize S_links S_linkEnd S_pick S_groupMinedSet S_groupSafeSet O_sums O_nextSums R_found_8 R_openEnds_9 R_need_10 R_waiting_11 R_waits_12 R_common R_met A_number Q_mined Q_all Q_choices Q_term Q_divisor Q_spare X_limbs X_sum Y_limbs Y_sum) := by
    intro n_3
    induction n_3 using Nat.strongRecOn with
    | ind n_3 ih_4 =>
      intro x1_6 R_waitingCount_7 R_found_8 R_openEnds_9 R_need_10 R_waiting_11 R_waits_12 rx1_6 h
      replace h := hInv_1 n_3 x1_6 R_waitingCount_7 R_found_8 R_openEnds_9 R_need_10 R_waiting_11 R_waits_12 rx1_6 h
      refine wa_iload_n C 1 rfl dX7_findBySingles_2 rfl ?_
      refine wa_sipush C (z := 1296) dX7_findBySingles_3 (by decide) ?_
      refine wa_icmp_ge C (tgt := 90) rx1_6 (inR_k 1296 rfl) dX7_findBySingles_6 (by decide) (fun c_13 => ?_) (fun c_13 => ?_)
      · replace h := h.1 c_13
        exact ret dX7_findBySingles_90 ⟨_, _, _, _, _, _, rfl, h⟩
      · replace h := h.2 c_13
        refine wa_aload_n C 0 rfl dX7_findBySingles_9 rfl ?_
        refine wa_getI C 6 8 dW_6 rfl rfl (by decide) okX7 gw_306 dX7_findBySingles_10 (fun r_14 => ?_)
        refine wa_if_le C (tgt := 90) r_14 dX7_findBySingles_13 (by decide) (fun c_15 => ?_) (fun c_15 => ?_)
        · replace h := h.1 c_15
          exact ret dX7_findBySingles_90 ⟨_, _, _, _, _, _, rfl, h⟩
        · replace h := h.2 c_15
          refine wa_aload_n C 0 rfl dX7_findBySingles_16 rfl ?_
          refine wa_dup C dX7_findBySingles_17 rfl ?_
          refine wa_getI C 6 8 dW_6 rfl rfl (by decide) okX7 gw_306 dX7_findBySingles_18 (fun r_16 => ?_)
          refine wa_iconst C (z := 1) dX7_findBySingles_21 rfl ?_
          refine wa_isub C dX7_findBySingles_22 ?_
          obtain ⟨r_17, h⟩ := h
          refine wa_nmi (fun R_waitingCount_18 eR_waitingCount_18 => ?_)
          replace h := h R_waitingCount_18 eR_waitingCount_18
          have rR_waitingCount_18 : inR R_waitingCount_18 := by rw [eR_waitingCount_18]; exact r_17
          refine wa_putI C (ws' := (dW D_hasBoard D_beganBlank F_mines F_moves F_changes G_width G_height G_size B_parts B_longest S_groups S_askedGroup S_taken R_waitingCount_18 R_metCount A_grade A_cell A_mined A_withTotal A_numbers X_low X_high Y_low Y_high F_mined F_number F_state F_cellsIn F_unknownNear F_hitNear F_moveStart F_changed F_waiting F_seen G_near G_nearEnd B_chosen B_partOf B_rest B_unknowns B_partStart B_cells S_minedSet S_safeSet S_partSet S_tally S_askedTally S_groupOf S_groupSize S_links S_linkEnd S_pick S_groupMinedSet S_groupSafeSet O_sums O_nextSums R_found_8 R_openEnds_9 R_need_10 R_waiting_11 R_waits_12 R_common R_met A_number Q_mined Q_all Q_choices Q_term Q_divisor Q_spare X_limbs X_sum Y_limbs Y_sum)) 6 8 dW_6 rfl (by decide) okX7 gw_306 rfl rfl (Nat.le_of_ble_eq_true rfl) rR_waitingCount_18 (dWp_6_8 _) dX7_findBySingles_23 ?_
          refine wa_aload_n C 0 rfl dX7_findBySingles_26 rfl ?_
          refine wa_getR C 6 6 dW_6 rfl rfl (by decide) okX7 gw_304 dX7_findBySingles_27 ?_
          refine wa_aload_n C 0 rfl dX7_findBySingles_30 rfl ?_
          refine wa_getI C 6 8 dW_6 rfl rfl (by decide) okX7 gw_306 dX7_findBySingles_31 (fun r_19 => ?_)
          obtain ⟨t_20, h⟩ := h
          refine wa_iald C 47 dW_47 dX7_findBySingles_34 t_20.1 t_20.2 (fun v_21 ev_21 rv_21 => ?_)
          replace h := h v_21 ev_21 rv_21
          refine wa_istore_n C dX7_findBySingles_35 rfl (by decide) rfl ?_
          refine wa_aload_n C 1 rfl dX7_findBySingles_36 rfl ?_
          refine wa_getR C 6 7 dW_6 rfl rfl (by decide) okX7 gw_305 dX7_findBySingles_37 ?_
          refine wa_iload_n C 0 rfl dX7_findBySingles_40 rfl ?_
          refine wa_iconst C (z := 0) dX7_findBySingles_41 rfl ?_
          obtain ⟨t_22, h⟩ := h
          refine wa_bast C (ws' := fun w9 => (dW D_hasBoard D_beganBlank F_mines F_moves F_changes G_width G_height G_size B_parts B_longest S_groups S_askedGroup S_taken R_waitingCount_18 R_metCount A_grade A_cell A_mined A_withTotal A_numbers X_low X_high Y_low Y_high F_mined F_number F_state F_cellsIn F_unknownNear F_hitNear F_moveStart F_changed F_waiting F_seen G_near G_nearEnd B_chosen B_partOf B_rest B_unknowns B_partStart B_cells S_minedSet S_safeSet S_partSet S_tally S_askedTally S_groupOf S_groupSize S_links S_linkEnd S_pick S_groupMinedSet S_groupSafeSet O_sums O_nextSums R_found_8 R_openEnds_9 R_need_10 R_waiting_11 w9 R_common R_met A_number Q_mined Q_all Q_choices Q_term Q_divisor Q_spare X_limbs X_sum Y_limbs Y_sum)) 48 dW_48 dX7_findBySingles_42 t_22.1 t_22.2 (Or.inl rfl) dWs_48 (fun R_waits_23 eR_waits_23 => ?_)
          replace h := h R_waits_23 eR_waits_23
          refine wa_aload_n C 1 rfl dX7_findBySingles_43 rfl ?_
          refine wa_getR C 6 5 dW_6 rfl rfl (by decide) okX7 gw_303 dX7_findBySingles_44 ?_
          refine wa_iload_n C 0 rfl dX7_findBySingles_47 rfl ?_
          obtain ⟨t_24, h⟩ := h
          refine wa_iald C 46 dW_46 dX7_findBySingles_48 t_24.1 t_24.2 (fun v_25 ev_25 rv_25 => ?_)
          replace h := h v_25 ev_25 rv_25
          obtain ⟨J_26, h, hJ_26⟩ := h
          have k_27 : ∀ (R_waitingCount_28 : Int) (R_found_29 : Int → Int) (R_openEnds_30 : Int → Int) (R_need_31 : Int → Int) (R_waiting_32 : Int → Int) (R_waits_33 : Int → Int), J_26 R_waitingCount_28 R_found_29 R_openEnds_30 R_need_31 R_waiting_32 R_waits_33 → WA p l e ({ frames := 4, cells := 0, slots := 0, locals := 240 } : Room) s m args below meth c 0 0 Q K ad 3 A 84 [(0, .ref (ad 6)), (1, .int (iI x1_6))] [] (dW D_hasBoard D_beganBlank F_mines F_moves F_changes G_width G_height G_size B_parts B_longest S_groups S_askedGroup S_taken R_waitingCount_28 R_metCount A_grade A_cell A_mined A_withTotal A_numbers X_low X_high Y_low Y_high F_mined F_number F_state F_cellsIn F_unknownNear F_hitNear F_moveStart F_changed F_waiting F_seen G_near G_nearEnd B_chosen B_partOf B_rest B_unknowns B_partStart B_cells S_minedSet S_safeSet S_partSet S_tally S_askedTally S_groupOf S_groupSize S_links S_linkEnd S_pick S_groupMinedSet S_groupSafeSet O_sums O_nextSums R_found_29 R_openEnds_30 R_need_31 R_waiting_32 R_waits_33 R_common R_met A_number Q_mined Q_all Q_choices Q_term Q_divisor Q_spare X_limbs X_sum Y_limbs Y_sum) := by
            intro R_waitingCount_28 R_found_29 R_openEnds_30 R_need_31 R_waiting_32 R_waits_33 h
            replace h := hJ_26 R_waitingCount_28 R_found_29 R_openEnds_30 R_need_31 R_waiting_32 R_waits_33 h
            obtain ⟨r_34, h⟩ := h
            refine wa_iinc C (lv' := fun w9 => [(1, .int (iI w9)), (0, .ref (ad 6))]) 1 rfl dX7_findBySingles_84 (by decide) (fun _ => rfl) (fun x1_35 ex1_35 => ?_)
            replace h := h x1_35 ex1_35
            have rx1_35 : inR x1_35 := by rw [ex1_35]; exact r_34
            refine wa_goto C (tgt := 2) dX7_findBySingles_87 (by decide) ?_
            obtain ⟨n_36, ln_36, h⟩ := h
            refine wa_sub C [1, 0] rfl ?_
            exact ih_4 n_36 ln_36 x1_35 R_waitingCount_28 R_found_29 R_openEnds_30 R_need_31 R_waiting_32 R_waits_33 rx1_35 h
          refine wa_if_ne C (tgt := 62) rv_25 dX7_findBySingles_49 (by decide) (fun c_37 => ?_) (fun c_37 => ?_)
          · replace h := h.1 c_37
            refine wa_aload_n C 1 rfl dX7_findBySingles_62 rfl ?_
            refine wa_getR C 6 5 dW_6 rfl rfl (by decide) okX7 gw_303 dX7_findBySingles_63 ?_
            refine wa_iload_n C 0 rfl dX7_findBySingles_66 rfl ?_
            obtain ⟨t_38, h⟩ := h
            refine wa_iald C 46 dW_46 dX7_findBySingles_67 t_38.1 t_38.2 (fun v_39 ev_39 rv_39 => ?_)
            replace h := h v_39 ev_39 rv_39
            refine wa_aload_n C 1 rfl dX7_findBySingles_68 rfl ?_
            refine wa_getR C 6 4 dW_6 rfl rfl (by decide) okX7 gw_302 dX7_findBySingles_69 ?_
            refine wa_iload_n C 0 rfl dX7_findBySingles_72 rfl ?_
            obtain ⟨t_40, h⟩ := h
            refine wa_iald C 45 dW_45 dX7_findBySingles_73 t_40.1 t_40.2 (fun v_41 ev_41 rv_41 => ?_)
            replace h := h v_41 ev_41 rv_41
            refine wa_icmp_ne C (tgt := 84) rv_39 rv_41 dX7_findBySingles_74 (by decide) (fun c_42 => ?_) (fun c_42 => ?_)
            · replace h := h.1 c_42
              refine wa_sub C [1, 2] rfl ?_
              exact k_27 R_waitingCount_18 R_found_8 R_openEnds_9 R_need_10 R_waiting_11 R_waits_23 h
            · replace h := h.2 c_42
              refine wa_aload_n C 1 rfl dX7_findBySingles_77 rfl ?_
              refine wa_iload_n C 0 rfl dX7_findBySingles_78 rfl ?_
              refine wa_iconst C (z := -1) dX7_findBySingles_79 rfl ?_
              refine wa_iconst C (z := 2) dX7_findBySingles_80 rfl ?_
              refine wa_callVv C (k := 6) (As := [.int (iI v_21), .int (iI (-1)), .int (iI 2)]) (rest := []) (c_X7_markEnds l K ad v_21 (-1) 2 rv_21 (inR_k (-1) rfl) (inR_k 2 rfl) _ h) gw_691 gw_688 dW_6 rfl gw_690 gs_12 gw_7 q_X7_markEnds rfl rfl rfl ⟨by decide, by decide⟩ rfl (Nat.le_of_ble_eq_true rfl) dX7_findBySingles_81 (fun u9 hp => ?_)
              obtain ⟨R_waitingCount_43, R_found_44, R_openEnds_45, R_need_46, R_waiting_47, R_waits_48, rfl, h⟩ := hp
              refine wa_sub C [1, 2] rfl ?_
              exact k_27 R_waitingCount_43 R_found_44 R_openEnds_45 R_need_46 R_waiting_47 R_waits_48 h
          · replace h := h.2 c_37
            refine wa_aload_n C 1 rfl dX7_findBySingles_52 rfl ?_
            refine wa_iload_n C 0 rfl dX7_findBySingles_53 rfl ?_
            refine wa_iconst C (z := -1) dX7_findBySingles_54 rfl ?_
            refine wa_iconst C (z := 1) dX7_findBySingles_55 rfl ?_
            refine wa_callVv C (k := 6) (As := [.int (iI v_21), .int (iI (-1)), .int (iI 1)]) (rest := []) (c_X7_markEnds l K ad v_21 (-1) 1 rv_21 (inR_k (-1) rfl) (inR_k 1 rfl) _ h) gw_691 gw_688 dW_6 rfl gw_690 gs_12 gw_7 q_X7_markEnds rfl rfl rfl ⟨by decide, by decide⟩ rfl (Nat.le_of_ble_eq_true rfl) dX7_findBySingles_56 (fun u9 hp => ?_)
            obtain ⟨R_waitingCount_49, R_found_50, R_openEnds_51, R_need_52, R_waiting_53, R_waits_54, rfl, h⟩ := hp
            refine wa_goto C (tgt := 84) dX7_findBySingles_59 (by decide) ?_
            refine wa_sub C [1, 2] rfl ?_
            exact k_27 R_waitingCount_49 R_found_50 R_openEnds_51 R_need_52 R_waiting_53 R_waits_54 h
  refine wa_sub C [1, 0] rfl ?_
  exact k_5 n_2 0 R_waitingCount R_found R_openEnds R_need R_waiting R_waits (inR_k 0 rfl) h0Inv_1
def P_X7_findByPairs (post : (Int) → (Int) → (Int → Int) → (Int → Int) → (Int → Int) → (Int → Int) → (Int → Int) → (Int → Int) → (Int → Int) → Prop) (G_size : Int) (R_waitingCount : Int) (R_metCount : Int) (F_state : Int → Int) (G_near : Int → Int) (G_nearEnd : Int → Int) (R_found : Int → Int) (R_openEnds : Int → Int) (R_need : Int → Int) (R_waiting : Int → Int) (R_waits : Int → Int) (R_common : Int → Int) (R_met : Int → Int) : Prop :=
  ∃ Inv_1 : Nat → (Int) → (Int) → (Int) → (Int) → (Int → Int) → (Int → Int) → (Int → Int) → (Int → Int) → (Int → Int) → (Int → Int) → (Int → Int) → Prop, (∃ n_2 : Nat, Inv_1 n_2 1 0 R_waitingCount R_metCount R_found R_openEnds R_need R_waiting R_waits R_common R_met) ∧ ∀ (n_3 : Nat) (x1_6 : Int) (x2_7 : Int) (R_waitingCount_8 : Int) (R_metCount_9 : Int) (R_found_10 : Int → Int) (R_openEnds_11 : Int → Int) (R_need_12 : Int → Int) (R_waiting_13 : Int → Int) (R_waits_14 : Int → Int) (R_common_15 : Int → Int) (R_met_16 : Int → Int), inR x1_6 → inR x2_7 → Inv_1 n_3 x1_6 x2_7 R_waitingCount_8 R_metCount_9 R_found_10 R_openEnds_11 R_need_12 R_waiting_13 R_waits_14 R_common_15 R_met_16 → ((144 < x2_7 → (post R_waitingCount_8 R_metCount_9 R_found_10 R_openEnds_11 R_need_12 R_waiting_13 R_waits_14 R_common_15 R_met_16)) ∧ (¬ 144 < x2_7 → ((x1_6 = 0 → (post R_waitingCount_8 R_metCount_9 R_found_10 R_openEnds_11 R_need_12 R_waiting_13 R_waits_14 R_common_15 R_met_16)) ∧ (¬ x1_6 = 0 → (∃ Inv_19 : Nat → (Int) → (Int) → (Int) → (Int) → (Int → Int) → (Int → Int) → (Int → Int) → (Int → Int) → (Int → Int) → (Int → Int) → (Int → Int) → Prop, (∃ n_20 : Nat, Inv_19 n_20 0 0 R_waitingCount_8 R_metCount_9 R_found_10 R_openEnds_11 R_need_12 R_waiting_13 R_waits_14 R_common_15 R_met_16) ∧ ∀ (n_21 : Nat) (x1_24 : Int) (x3_25 : Int) (R_waitingCount_26 : Int) (R_metCount_27 : Int) (R_found_28 : Int → Int) (R_openEnds_29 : Int → Int) (R_need_30 : Int → Int) (R_waiting_31 : Int → Int) (R_waits_32 : Int → Int) (R_common_33 : Int → Int) (R_met_34 : Int → Int), inR x1_24 → inR x3_25 → Inv_19 n_21 x1_24 x3_25 R_waitingCount_26 R_metCount_27 R_found_28 R_openEnds_29 R_need_30 R_waiting_31 R_waits_32 R_common_33 R_met_34 → ((G_size ≤ x3_25 → (inR (x2_7 + 1) ∧ (∀ x2_38 : Int, x2_38 = (x2_7 + 1) → (∃ n_39 : Nat, n_39 < n_3 ∧ Inv_1 n_39 x1_24 x2_38 R_waitingCount_26 R_metCount_27 R_found_28 R_openEnds_29 R_need_30 R_waiting_31 R_waits_32 R_common_33 R_met_34)))) ∧ (¬ G_size ≤ x3_25 → (P_X7_isTelling (fun (c_40 : Int) => (c_40 = 0 ∨ c_40 = 1) → (∃ J_41 : (Int) → (Int) → (Int) → (Int → Int) → (Int → Int) → (Int → Int) → (Int → Int) → (Int → Int) → (Int → Int) → (Int → Int) → Prop, ((c_40 = 0 → (J_41 x1_24 R_waitingCount_26 R_metCount_27 R_found_28 R_openEnds_29 R_need_30 R_waiting_31 R_waits_32 R_common_33 R_met_34)) ∧ (¬ c_40 = 0 → (P_X7_findBeyond (fun (c_57 : Int) (R_waitingCount_58 : Int) (R_metCount_59 : Int) (R_found_60 : Int → Int) (R_openEnds_61 : Int → Int) (R_need_62 : Int → Int) (R_waiting_63 : Int → Int) (R_waits_64 : Int → Int) (R_common_65 : Int → Int) (R_met_66 : Int → Int) => (c_57 = 0 ∨ c_57 = 1) → ((c_57 = 0 → (J_41 x1_24 R_waitingCount_58 R_metCount_59 R_found_60 R_openEnds_61 R_need_62 R_waiting_63 R_waits_64 R_common_65 R_met_66)) ∧ (¬ c_57 = 0 → (P_X7_findBySingles (fun (R_waitingCount_68 : Int) (R_found_69 : Int → Int) (R_openEnds_70 : Int → Int) (R_need_71 : Int → Int) (R_waiting_72 : Int → Int) (R_waits_73 : Int → Int) => (J_41 1 R_waitingCount_68 R_metCount_59 R_found_69 R_openEnds_70 R_need_71 R_waiting_72 R_waits_73 R_common_65 R_met_66)) R_waitingCount_58 F_state G_near G_nearEnd R_found_60 R_openEnds_61 R_need_62 R_waiting_63 R_waits_64 )))) R_waitingCount_26 R_metCount_27 F_state G_near G_nearEnd R_found_28 R_openEnds_29 R_need_30 R_waiting_31 R_waits_32 R_common_33 R_met_34 x3_25))) ∧ (∀ (x1_43 : Int) (R_waitingCount_44 : Int) (R_metCount_45 : Int) (R_found_46 : Int → Int) (R_openEnds_47 : Int → Int) (R_need_48 : Int → Int) (R_waiting_49 : Int → Int) (R_waits_50 : Int → Int) (R_common_51 : Int → Int) (R_met_52 : Int → Int), inR x1_43 → J_41 x1_43 R_waitingCount_44 R_metCount_45 R_found_46 R_openEnds_47 R_need_48 R_waiting_49 R_waits_50 R_common_51 R_met_52 → (inR (x3_25 + 1) ∧ (∀ x3_54 : Int, x3_54 = (x3_25 + 1) → (∃ n_55 : Nat, n_55 < n_21 ∧ Inv_19 n_55 x1_43 x3_54 R_waitingCount_44 R_metCount_45 R_found_46 R_openEnds_47 R_need_48 R_waiting_49 R_waits_50 R_common_51 R_met_52)))))) F_state R_openEnds_29 x3_25))))))))
set_option maxRecDepth 100000 in
set_option maxHeartbeats 4000000 in
theorem c_X7_findByPairs (l : Launch) (K : wK) (ad : Nat → Nat) {D_hasBoard : Int} {D_beganBlank : Int} {F_mines : Int} {F_moves : Int} {F_changes : Int} {G_width : Int} {G_height : Int} {G_size : Int} {B_parts : Int} {B_longest : Int} {S_groups : Int} {S_askedGroup : Int} {S_taken : Int} {R_waitingCount : Int} {R_metCount : Int} {A_grade : Int} {A_cell : Int} {A_mined : Int} {A_withTotal : Int} {A_numbers : Int} {X_low : Int} {X_high : Int} {Y_low : Int} {Y_high : Int} {F_mined : Int → Int} {F_number : Int → Int} {F_state : Int → Int} {F_cellsIn : Int → Int} {F_unknownNear : Int → Int} {F_hitNear : Int → Int} {F_moveStart : Int → Int} {F_changed : Int → Int} {F_waiting : Int → Int} {F_seen : Int → Int} {G_near : Int → Int} {G_nearEnd : Int → Int} {B_chosen : Int → Int} {B_partOf : Int → Int} {B_rest : Int → Int} {B_unknowns : Int → Int} {B_partStart : Int → Int} {B_cells : Int → Int} {S_minedSet : Int → Int} {S_safeSet : Int → Int} {S_partSet : Int → Int} {S_tally : Int → Int} {S_askedTally : Int → Int} {S_groupOf : Int → Int} {S_groupSize : Int → Int} {S_links : Int → Int} {S_linkEnd : Int → Int} {S_pick : Int → Int} {S_groupMinedSet : Int → Int} {S_groupSafeSet : Int → Int} {O_sums : Int → Int64} {O_nextSums : Int → Int64} {R_found : Int → Int} {R_openEnds : Int → Int} {R_need : Int → Int} {R_waiting : Int → Int} {R_waits : Int → Int} {R_common : Int → Int} {R_met : Int → Int} {A_number : Int → Int} {Q_mined : Int → Int64} {Q_all : Int → Int64} {Q_choices : Int → Int64} {Q_term : Int → Int64} {Q_divisor : Int → Int64} {Q_spare : Int → Int64} {X_limbs : Int → Int64} {X_sum : Int → Int64} {Y_limbs : Int → Int64} {Y_sum : Int → Int64}   (post : (Int) → (Int) → (Int → Int) → (Int → Int) → (Int → Int) → (Int → Int) → (Int → Int) → (Int → Int) → (Int → Int) → Prop) (h : P_X7_findByPairs post G_size R_waitingCount R_metCount F_state G_near G_nearEnd R_found R_openEnds R_need R_waiting R_waits R_common R_met) : mV l yX7_findByPairs (Cond.code yX7_findByPairs cX7_findByPairs 4 none :: GT) ({ frames := 6, cells := 0, slots := 0, locals := 360 } : Room) [.ref (ad 6)] K ad (dW D_hasBoard D_beganBlank F_mines F_moves F_changes G_width G_height G_size B_parts B_longest S_groups S_askedGroup S_taken R_waitingCount R_metCount A_grade A_cell A_mined A_withTotal A_numbers X_low X_high Y_low Y_high F_mined F_number F_state F_cellsIn F_unknownNear F_hitNear F_moveStart F_changed F_waiting F_seen G_near G_nearEnd B_chosen B_partOf B_rest B_unknowns B_partStart B_cells S_minedSet S_safeSet S_partSet S_tally S_askedTally S_groupOf S_groupSize S_links S_linkEnd S_pick S_groupMinedSet S_groupSafeSet O_sums O_nextSums R_found R_openEnds R_need R_waiting R_waits R_common R_met A_number Q_mined Q_all Q_choices Q_term Q_divisor Q_spare X_limbs X_sum Y_limbs Y_sum) (fun u9 => ∃ R_waitingCount9 R_metCount9 R_found9 R_openEnds9 R_need9 R_waiting9 R_waits9 R_common9 R_met9, u9 = (dW D_hasBoard D_beganBlank F_mines F_moves F_changes G_width G_height G_size B_parts B_longest S_groups S_askedGroup S_taken R_waitingCount9 R_metCount9 A_grade A_cell A_mined A_withTotal A_numbers X_low X_high Y_low Y_high F_mined F_number F_state F_cellsIn F_unknownNear F_hitNear F_moveStart F_changed F_waiting F_seen G_near G_nearEnd B_chosen B_partOf B_rest B_unknowns B_partStart B_cells S_minedSet S_safeSet S_partSet S_tally S_askedTally S_groupOf S_groupSize S_links S_linkEnd S_pick S_groupMinedSet S_groupSafeSet O_sums O_nextSums R_found9 R_openEnds9 R_need9 R_waiting9 R_waits9 R_common9 R_met9 A_number Q_mined Q_all Q_choices Q_term Q_divisor Q_spare X_limbs X_sum Y_limbs Y_sum) ∧ post R_waitingCount9 R_metCount9 R_found9 R_openEnds9 R_need9 R_waiting9 R_waits9 R_common9 R_met9) := by
  refine mV_of (lv0 := [(0, .ref (ad 6))]) (by decide) (Nat.le_of_ble_eq_true rfl) rfl ?_
  intro p e s m args below meth c Q A C ret
  replace C : Cx p ({ frames := 6, cells := 0, slots := 0, locals := 360 } : Room) m c 0 0 cX7_findByPairs 4 s args RX7 K A := C
  unfold P_X7_findByPairs at h
  refine wa_iconst C (z := 1) dX7_findByPairs_0 rfl ?_
  refine wa_istore_n C dX7_findByPairs_1 rfl (by decide) rfl ?_
  refine wa_iconst C (z := 0) dX7_findByPairs_2 rfl ?_
  refine wa_istore_n C dX7_findByPairs_3 rfl (by decide) rfl ?_
  obtain ⟨Inv_1, ⟨n_2, h0Inv_1⟩, hInv_1⟩ := h
  have k_5 : ∀ (n_3 : Nat) (x1_6 : Int) (x2_7 : Int) (R_waitingCount_8 : Int) (R_metCount_9 : Int) (R_found_10 : Int → Int) (R_openEnds_11 : Int → Int) (R_need_12 : Int → Int) (R_waiting_13 : Int → Int) (R_waits_14 : Int → Int) (R_common_15 : Int → Int) (R_met_16 : Int → Int), inR x1_6 → inR x2_7 → Inv_1 n_3 x1_6 x2_7 R_waitingCount_8 R_metCount_9 R_found_10 R_openEnds_11 R_need_12 R_waiting_13 R_waits_14 R_common_15 R_met_16 → WA p l e ({ frames := 6, cells := 0, slots := 0, locals := 360 } : Room) s m args below meth c 0 0 Q K ad 4 A 4 [(0, .ref (ad 6)), (1, .int (iI x1_6)), (2, .int (iI x2_7))] [] (dW D_hasBoard D_beganBlank F_mines F_moves F_changes G_width G_height G_size B_parts B_longest S_groups S_askedGroup S_taken R_waitingCount_8 R_metCount_9 A_grade A_cell A_mined A_withTotal A_numbers X_low X_high Y_low Y_high F_mined F_number F_state F_cellsIn F_unknownNear F_hitNear F_moveStart F_changed F_waiting F_seen G_near G_nearEnd B_chosen B_partOf B_rest B_unknowns B_partStart B_cells S_minedSet S_safeSet S_partSet S_tally S_askedTally S_groupOf S_groupSize S_links S_linkEnd S_pick S_groupMinedSet S_groupSafeSet O_sums O_nextSums R_found_10 R_openEnds_11 R_need_12 R_waiting_13 R_waits_14 R_common_15 R_met_16 A_number Q_mined Q_all Q_choices Q_term Q_divisor Q_spare X_limbs X_sum Y_limbs Y_sum) := by
    intro n_3
    induction n_3 using Nat.strongRecOn with
    | ind n_3 ih_4 =>
      intro x1_6 x2_7 R_waitingCount_8 R_metCount_9 R_found_10 R_openEnds_11 R_need_12 R_waiting_13 R_waits_14 R_common_15 R_met_16 rx1_6 rx2_7 h
      replace h := hInv_1 n_3 x1_6 x2_7 R_waitingCount_8 R_metCount_9 R_found_10 R_openEnds_11 R_need_12 R_waiting_13 R_waits_14 R_common_15 R_met_16 rx1_6 rx2_7 h
      refine wa_iload_n C 2 rfl dX7_findByPairs_4 rfl ?_
      refine wa_sipush C (z := 144) dX7_findByPairs_5 (by decide) ?_
      refine wa_icmp_gt C (tgt := 64) rx2_7 (inR_k 144 rfl) dX7_findByPairs_8 (by decide) (fun c_17 => ?_) (fun c_17 => ?_)
      · replace h := h.1 c_17
        exact ret dX7_findByPairs_64 ⟨_, _, _, _, _, _, _, _, _, rfl, h⟩
      · replace h := h.2 c_17
        refine wa_iload_n C 1 rfl dX7_findByPairs_11 rfl ?_
        refine wa_if_eq C (tgt := 64) rx1_6 dX7_findByPairs_12 (by decide) (fun c_18 => ?_) (fun c_18 => ?_)
        · replace h := h.1 c_18
          exact ret dX7_findByPairs_64 ⟨_, _, _, _, _, _, _, _, _, rfl, h⟩
        · replace h := h.2 c_18
          refine wa_iconst C (z := 0) dX7_findByPairs_15 rfl ?_
          refine wa_istore_n C dX7_findByPairs_16 rfl (by decide) rfl ?_
          refine wa_iconst C (z := 0) dX7_findByPairs_17 rfl ?_
          refine wa_istore_n C dX7_findByPairs_18 rfl (by decide) rfl ?_
          obtain ⟨Inv_19, ⟨n_20, h0Inv_19⟩, hInv_19⟩ := h
          have k_23 : ∀ (n_21 : Nat) (x1_24 : Int) (x3_25 : Int) (R_waitingCount_26 : Int) (R_metCount_27 : Int) (R_found_28 : Int → Int) (R_openEnds_29 : Int → Int) (R_need_30 : Int → Int) (R_waiting_31 : Int → Int) (R_waits_32 : Int → Int) (R_common_33 : Int → Int) (R_met_34 : Int → Int), inR x1_24 → inR x3_25 → Inv_19 n_21 x1_24 x3_25 R_waitingCount_26 R_metCount_27 R_found_28 R_openEnds_29 R_need_30 R_waiting_31 R_waits_32 R_common_33 R_met_34 → WA p l e ({ frames := 6, cells := 0, slots := 0, locals := 360 } : Room) s m args below meth c 0 0 Q K ad 4 A 19 [(0, .ref (ad 6)), (1, .int (iI x1_24)), (2, .int (iI x2_7)), (3, .int (iI x3_25))] [] (dW D_hasBoard D_beganBlank F_mines F_moves F_changes G_width G_height G_size B_parts B_longest S_groups S_askedGroup S_taken R_waitingCount_26 R_metCount_27 A_grade A_cell A_mined A_withTotal A_numbers X_low X_high Y_low Y_high F_mined F_number F_state F_cellsIn F_unknownNear F_hitNear F_moveStart F_changed F_waiting F_seen G_near G_nearEnd B_chosen B_partOf B_rest B_unknowns B_partStart B_cells S_minedSet S_safeSet S_partSet S_tally S_askedTally S_groupOf S_groupSize S_links S_linkEnd S_pick S_groupMinedSet S_groupSafeSet O_sums O_nextSums R_found_28 R_openEnds_29 R_need_30 R_waiting_31 R_waits_32 R_common_33 R_met_34 A_number Q_mined Q_all Q_choices Q_term Q_divisor Q_spare X_limbs X_sum Y_limbs Y_sum) := by
            intro n_21
            induction n_21 using Nat.strongRecOn with
            | ind n_21 ih_22 =>
              intro x1_24 x3_25 R_waitingCount_26 R_metCount_27 R_found_28 R_openEnds_29 R_need_30 R_waiting_31 R_waits_32 R_common_33 R_met_34 rx1_24 rx3_25 h
              replace h := hInv_19 n_21 x1_24 x3_25 R_waitingCount_26 R_metCount_27 R_found_28 R_openEnds_29 R_need_30 R_waiting_31 R_waits_32 R_common_33 R_met_34 rx1_24 rx3_25 h
              refine wa_iload_n C 3 rfl dX7_findByPairs_19 rfl ?_
              refine wa_aload_n C 0 rfl dX7_findByPairs_20 rfl ?_
              refine wa_getR C 6 2 dW_6 rfl rfl (by decide) okX7 gw_300 dX7_findByPairs_21 ?_
              refine wa_getI C 2 2 dW_2 rfl rfl (by decide) okX3 gw_54 dX7_findByPairs_24 (fun r_35 => ?_)
              refine wa_icmp_ge C (tgt := 58) rx3_25 r_35 dX7_findByPairs_27 (by decide) (fun c_36 => ?_) (fun c_36 => ?_)
              · replace h := h.1 c_36
                obtain ⟨r_37, h⟩ := h
                refine wa_iinc C (lv' := fun w9 => [(2, .int (iI w9)), (0, .ref (ad 6)), (1, .int (iI x1_24)), (3, .int (iI x3_25))]) 2 rfl dX7_findByPairs_58 (by decide) (fun _ => rfl) (fun x2_38 ex2_38 => ?_)
                replace h := h x2_38 ex2_38
                have rx2_38 : inR x2_38 := by rw [ex2_38]; exact r_37
                refine wa_goto C (tgt := 4) dX7_findByPairs_61 (by decide) ?_
                obtain ⟨n_39, ln_39, h⟩ := h
                refine wa_sub C [1, 2, 0] rfl ?_
                exact ih_4 n_39 ln_39 x1_24 x2_38 R_waitingCount_26 R_metCount_27 R_found_28 R_openEnds_29 R_need_30 R_waiting_31 R_waits_32 R_common_33 R_met_34 rx1_24 rx2_38 h
              · replace h := h.2 c_36
                refine wa_aload_n C 0 rfl dX7_findByPairs_30 rfl ?_
                refine wa_iload_n C 3 rfl dX7_findByPairs_31 rfl ?_
                refine wa_callVi C (k := 6) (As := [.int (iI x3_25)]) (rest := []) (c_X7_isTelling l K ad x3_25 rx3_25 _ h) gw_683 gw_680 dW_6 rfl gw_682 gs_10 gw_7 q_X7_isTelling rfl rfl rfl ⟨by decide, by decide⟩ rfl (Nat.le_of_ble_eq_true rfl) dX7_findByPairs_32 (fun c_40 u9 rc_40 hp => ?_)
                obtain ⟨bc_40, rfl, h⟩ := hp
                replace h := h bc_40
                obtain ⟨J_41, h, hJ_41⟩ := h
                have k_42 : ∀ (x1_43 : Int) (R_waitingCount_44 : Int) (R_metCount_45 : Int) (R_found_46 : Int → Int) (R_openEnds_47 : Int → Int) (R_need_48 : Int → Int) (R_waiting_49 : Int → Int) (R_waits_50 : Int → Int) (R_common_51 : Int → Int) (R_met_52 : Int → Int), inR x1_43 → J_41 x1_43 R_waitingCount_44 R_metCount_45 R_found_46 R_openEnds_47 R_need_48 R_waiting_49 R_waits_50 R_common_51 R_met_52 → WA p l e ({ frames := 6, cells := 0, slots := 0, locals := 360 } : Room) s m args below meth c 0 0 Q K ad 4 A 52 [(0, .ref (ad 6)), (1, .int (iI x1_43)), (2, .int (iI x2_7)), (3, .int (iI x3_25))] [] (dW D_hasBoard D_beganBlank F_mines F_moves F_changes G_width G_height G_size B_parts B_longest S_groups S_askedGroup S_taken R_waitingCount_44 R_metCount_45 A_grade A_cell A_mined A_withTotal A_numbers X_low X_high Y_low Y_high F_mined F_number F_state F_cellsIn F_unknownNear F_hitNear F_moveStart F_changed F_waiting F_seen G_near G_nearEnd B_chosen B_partOf B_rest B_unknowns B_partStart B_cells S_minedSet S_safeSet S_partSet S_tally S_askedTally S_groupOf S_groupSize S_links S_linkEnd S_pick S_groupMinedSet S_groupSafeSet O_sums O_nextSums R_found_46 R_openEnds_47 R_need_48 R_waiting_49 R_waits_50 R_common_51 R_met_52 A_number Q_mined Q_all Q_choices Q_term Q_divisor Q_spare X_limbs X_sum Y_limbs Y_sum) := by
                  intro x1_43 R_waitingCount_44 R_metCount_45 R_found_46 R_openEnds_47 R_need_48 R_waiting_49 R_waits_50 R_common_51 R_met_52 rx1_43 h
                  replace h := hJ_41 x1_43 R_waitingCount_44 R_metCount_45 R_found_46 R_openEnds_47 R_need_48 R_waiting_49 R_waits_50 R_common_51 R_met_52 rx1_43 h
                  obtain ⟨r_53, h⟩ := h
                  refine wa_iinc C (lv' := fun w9 => [(3, .int (iI w9)), (0, .ref (ad 6)), (1, .int (iI x1_43)), (2, .int (iI x2_7))]) 3 rfl dX7_findByPairs_52 (by decide) (fun _ => rfl) (fun x3_54 ex3_54 => ?_)
                  replace h := h x3_54 ex3_54
                  have rx3_54 : inR x3_54 := by rw [ex3_54]; exact r_53
                  refine wa_goto C (tgt := 19) dX7_findByPairs_55 (by decide) ?_
                  obtain ⟨n_55, ln_55, h⟩ := h
                  refine wa_sub C [1, 2, 3, 0] rfl ?_
                  exact ih_22 n_55 ln_55 x1_43 x3_54 R_waitingCount_44 R_metCount_45 R_found_46 R_openEnds_47 R_need_48 R_waiting_49 R_waits_50 R_common_51 R_met_52 rx1_43 rx3_54 h
                refine wa_if_eq C (tgt := 52) (inR_b bc_40) dX7_findByPairs_35 (by decide) (fun c_56 => ?_) (fun c_56 => ?_)
                · replace h := h.1 c_56
                  refine wa_sub C [0, 1, 2, 3] rfl ?_
                  exact k_42 x1_24 R_waitingCount_26 R_metCount_27 R_found_28 R_openEnds_29 R_need_30 R_waiting_31 R_waits_32 R_common_33 R_met_34 rx1_24 h
                · replace h := h.2 c_56
                  refine wa_aload_n C 0 rfl dX7_findByPairs_38 rfl ?_
                  refine wa_iload_n C 3 rfl dX7_findByPairs_39 rfl ?_
                  refine wa_callVi C (k := 6) (As := [.int (iI x3_25)]) (rest := []) (c_X7_findBeyond l K ad x3_25 rx3_25 _ h) gw_704 gw_701 dW_6 rfl gw_703 gs_15 gw_7 q_X7_findBeyond rfl rfl rfl ⟨by decide, by decide⟩ rfl (Nat.le_of_ble_eq_true rfl) dX7_findByPairs_40 (fun c_57 u9 rc_57 hp => ?_)
                  obtain ⟨bc_57, R_waitingCount_58, R_metCount_59, R_found_60, R_openEnds_61, R_need_62, R_waiting_63, R_waits_64, R_common_65, R_met_66, rfl, h⟩ := hp
                  replace h := h bc_57
                  refine wa_if_eq C (tgt := 52) (inR_b bc_57) dX7_findByPairs_43 (by decide) (fun c_67 => ?_) (fun c_67 => ?_)
                  · replace h := h.1 c_67
                    refine wa_sub C [0, 1, 2, 3] rfl ?_
                    exact k_42 x1_24 R_waitingCount_58 R_metCount_59 R_found_60 R_openEnds_61 R_need_62 R_waiting_63 R_waits_64 R_common_65 R_met_66 rx1_24 h
                  · replace h := h.2 c_67
                    refine wa_iconst C (z := 1) dX7_findByPairs_46 rfl ?_
                    refine wa_istore_n C dX7_findByPairs_47 rfl (by decide) rfl ?_
                    refine wa_aload_n C 1 rfl dX7_findByPairs_48 rfl ?_
                    refine wa_callVv C (k := 6) (As := []) (rest := []) (c_X7_findBySingles l K ad  _ h) gw_687 gw_684 dW_6 rfl gw_686 gs_11 gw_7 q_X7_findBySingles rfl rfl rfl ⟨by decide, by decide⟩ rfl (Nat.le_of_ble_eq_true rfl) dX7_findByPairs_49 (fun u9 hp => ?_)
                    obtain ⟨R_waitingCount_68, R_found_69, R_openEnds_70, R_need_71, R_waiting_72, R_waits_73, rfl, h⟩ := hp
                    refine wa_sub C [1, 0, 2, 3] rfl ?_
                    exact k_42 1 R_waitingCount_68 R_metCount_59 R_found_69 R_openEnds_70 R_need_71 R_waiting_72 R_waits_73 R_common_65 R_met_66 (inR_k 1 rfl) h
          refine wa_sub C [2, 1, 3, 0] rfl ?_
          exact k_23 n_20 0 0 R_waitingCount_8 R_metCount_9 R_found_10 R_openEnds_11 R_need_12 R_waiting_13 R_waits_14 R_common_15 R_met_16 (inR_k 0 rfl) (inR_k 0 rfl) h0Inv_19
  refine wa_sub C [2, 1, 0] rfl ?_
  exact k_5 n_2 1 0 R_waitingCount R_metCount R_found R_openEnds R_need R_waiting R_waits R_common R_met (inR_k 1 rfl) (inR_k 0 rfl) h0Inv_1
def P_X7_begin (post : (Int) → (Int → Int) → (Int → Int) → (Int → Int) → (Int → Int) → (Int → Int) → (Int → Int) → Prop) (G_size : Int) (R_waitingCount : Int) (F_number : Int → Int) (F_state : Int → Int) (F_unknownNear : Int → Int) (F_hitNear : Int → Int) (R_found : Int → Int) (R_openEnds : Int → Int) (R_need : Int → Int) (R_waiting : Int → Int) (R_waits : Int → Int) (R_common : Int → Int) : Prop :=
  ∃ Inv_1 : Nat → (Int) → (Int) → (Int → Int) → (Int → Int) → (Int → Int) → (Int → Int) → (Int → Int) → (Int → Int) → Prop, (∃ n_2 : Nat, Inv_1 n_2 0 0 R_found R_openEnds R_need R_waiting R_waits R_common) ∧ ∀ (n_3 : Nat) (x1_6 : Int) (R_waitingCount_7 : Int) (R_found_8 : Int → Int) (R_openEnds_9 : Int → Int) (R_need_10 : Int → Int) (R_waiting_11 : Int → Int) (R_waits_12 : Int → Int) (R_common_13 : Int → Int), inR x1_6 → Inv_1 n_3 x1_6 R_waitingCount_7 R_found_8 R_openEnds_9 R_need_10 R_waiting_11 R_waits_12 R_common_13 → ((G_size ≤ x1_6 → (post R_waitingCount_7 R_found_8 R_openEnds_9 R_need_10 R_waiting_11 R_waits_12 R_common_13)) ∧ (¬ G_size ≤ x1_6 → (P_X2_isUnknown (fun (c_16 : Int) => (c_16 = 0 ∨ c_16 = 1) → (∃ J_17 : (Int) → Prop, ((c_16 = 0 → (J_17 3)) ∧ (¬ c_16 = 0 → (J_17 0))) ∧ (∀ (z_19 : Int), inR z_19 → J_17 z_19 → ((0 ≤ x1_6 ∧ x1_6 < 144) ∧ (∀ R_found_21 : Int → Int, R_found_21 = upZ R_found_8 x1_6 z_19 → ((0 ≤ x1_6 ∧ x1_6 < 144) ∧ (∀ R_common_23 : Int → Int, R_common_23 = upZ R_common_13 x1_6 0 → ((0 ≤ x1_6 ∧ x1_6 < 144) ∧ (∀ v_25 : Int, v_25 = F_unknownNear x1_6 → inR v_25 → ((0 ≤ x1_6 ∧ x1_6 < 144) ∧ (∀ R_openEnds_27 : Int → Int, R_openEnds_27 = upZ R_openEnds_9 x1_6 v_25 → ((0 ≤ x1_6 ∧ x1_6 < 144) ∧ (∀ v_29 : Int, v_29 = F_number x1_6 → inR v_29 → ((0 ≤ x1_6 ∧ x1_6 < 144) ∧ (∀ v_31 : Int, v_31 = F_hitNear x1_6 → inR v_31 → ((0 ≤ x1_6 ∧ x1_6 < 144) ∧ (inR (v_29 - v_31) ∧ (∀ R_need_34 : Int → Int, R_need_34 = upZ R_need_10 x1_6 (v_29 - v_31) → (P_X7_isTelling (fun (c_35 : Int) => (c_35 = 0 ∨ c_35 = 1) → ((0 ≤ x1_6 ∧ x1_6 < 144) ∧ (∀ R_waits_37 : Int → Int, R_waits_37 = upZ R_waits_12 x1_6 c_35 → ((0 ≤ x1_6 ∧ x1_6 < 144) ∧ (∀ v_39 : Int, v_39 = R_waits_37 x1_6 → (v_39 = 0 ∨ v_39 = 1) → (∃ J_40 : (Int) → (Int → Int) → Prop, ((v_39 = 0 → (J_40 R_waitingCount_7 R_waiting_11)) ∧ (¬ v_39 = 0 → ((0 ≤ R_waitingCount_7 ∧ R_waitingCount_7 < 144) ∧ (∀ R_waiting_50 : Int → Int, R_waiting_50 = upZ R_waiting_11 R_waitingCount_7 x1_6 → (inR (R_waitingCount_7 + 1) ∧ (∀ R_waitingCount_53 : Int, R_waitingCount_53 = (R_waitingCount_7 + 1) → (J_40 R_waitingCount_53 R_waiting_50))))))) ∧ (∀ (R_waitingCount_42 : Int) (R_waiting_43 : Int → Int), J_40 R_waitingCount_42 R_waiting_43 → (inR (x1_6 + 1) ∧ (∀ x1_45 : Int, x1_45 = (x1_6 + 1) → (∃ n_46 : Nat, n_46 < n_3 ∧ Inv_1 n_46 x1_45 R_waitingCount_42 R_found_21 R_openEnds_27 R_need_34 R_waiting_43 R_waits_37 R_common_23)))))))))) F_state R_openEnds_27 x1_6))))))))))))))))))) F_state x1_6)))
set_option maxRecDepth 100000 in
set_option maxHeartbeats 4000000 in
theorem c_X7_begin (l : Launch) (K : wK) (ad : Nat → Nat) {D_hasBoard : Int} {D_beganBlank : Int} {F_mines : Int} {F_moves : Int} {F_changes : Int} {G_width : Int} {G_height : Int} {G_size : Int} {B_parts : Int} {B_longest : Int} {S_groups : Int} {S_askedGroup : Int} {S_taken : Int} {R_waitingCount : Int} {R_metCount : Int} {A_grade : Int} {A_cell : Int} {A_mined : Int} {A_withTotal : Int} {A_numbers : Int} {X_low : Int} {X_high : Int} {Y_low : Int} {Y_high : Int} {F_mined : Int → Int} {F_number : Int → Int} {F_state : Int → Int} {F_cellsIn : Int → Int} {F_unknownNear : Int → Int} {F_hitNear : Int → Int} {F_moveStart : Int → Int} {F_changed : Int → Int} {F_waiting : Int → Int} {F_seen : Int → Int} {G_near : Int → Int} {G_nearEnd : Int → Int} {B_chosen : Int → Int} {B_partOf : Int → Int} {B_rest : Int → Int} {B_unknowns : Int → Int} {B_partStart : Int → Int} {B_cells : Int → Int} {S_minedSet : Int → Int} {S_safeSet : Int → Int} {S_partSet : Int → Int} {S_tally : Int → Int} {S_askedTally : Int → Int} {S_groupOf : Int → Int} {S_groupSize : Int → Int} {S_links : Int → Int} {S_linkEnd : Int → Int} {S_pick : Int → Int} {S_groupMinedSet : Int → Int} {S_groupSafeSet : Int → Int} {O_sums : Int → Int64} {O_nextSums : Int → Int64} {R_found : Int → Int} {R_openEnds : Int → Int} {R_need : Int → Int} {R_waiting : Int → Int} {R_waits : Int → Int} {R_common : Int → Int} {R_met : Int → Int} {A_number : Int → Int} {Q_mined : Int → Int64} {Q_all : Int → Int64} {Q_choices : Int → Int64} {Q_term : Int → Int64} {Q_divisor : Int → Int64} {Q_spare : Int → Int64} {X_limbs : Int → Int64} {X_sum : Int → Int64} {Y_limbs : Int → Int64} {Y_sum : Int → Int64}   (post : (Int) → (Int → Int) → (Int → Int) → (Int → Int) → (Int → Int) → (Int → Int) → (Int → Int) → Prop) (h : P_X7_begin post G_size R_waitingCount F_number F_state F_unknownNear F_hitNear R_found R_openEnds R_need R_waiting R_waits R_common) : mV l yX7_begin (Cond.code yX7_begin cX7_begin 2 none :: GT) ({ frames := 3, cells := 0, slots := 0, locals := 180 } : Room) [.ref (ad 6)] K ad (dW D_hasBoard D_beganBlank F_mines F_moves F_changes G_width G_height G_size B_parts B_longest S_groups S_askedGroup S_taken R_waitingCount R_metCount A_grade A_cell A_mined A_withTotal A_numbers X_low X_high Y_low Y_high F_mined F_number F_state F_cellsIn F_unknownNear F_hitNear F_moveStart F_changed F_waiting F_seen G_near G_nearEnd B_chosen B_partOf B_rest B_unknowns B_partStart B_cells S_minedSet S_safeSet S_partSet S_tally S_askedTally S_groupOf S_groupSize S_links S_linkEnd S_pick S_groupMinedSet S_groupSafeSet O_sums O_nextSums R_found R_openEnds R_need R_waiting R_waits R_common R_met A_number Q_mined Q_all Q_choices Q_term Q_divisor Q_spare X_limbs X_sum Y_limbs Y_sum) (fun u9 => ∃ R_waitingCount9 R_found9 R_openEnds9 R_need9 R_waiting9 R_waits9 R_common9, u9 = (dW D_hasBoard D_beganBlank F_mines F_moves F_changes G_width G_height G_size B_parts B_longest S_groups S_askedGroup S_taken R_waitingCount9 R_metCount A_grade A_cell A_mined A_withTotal A_numbers X_low X_high Y_low Y_high F_mined F_number F_state F_cellsIn F_unknownNear F_hitNear F_moveStart F_changed F_waiting F_seen G_near G_nearEnd B_chosen B_partOf B_rest B_unknowns B_partStart B_cells S_minedSet S_safeSet S_partSet S_tally S_askedTally S_groupOf S_groupSize S_links S_linkEnd S_pick S_groupMinedSet S_groupSafeSet O_sums O_nextSums R_found9 R_openEnds9 R_need9 R_waiting9 R_waits9 R_common9 R_met A_number Q_mined Q_all Q_choices Q_term Q_divisor Q_spare X_limbs X_sum Y_limbs Y_sum) ∧ post R_waitingCount9 R_found9 R_openEnds9 R_need9 R_waiting9 R_waits9 R_common9) := by
  refine mV_of (lv0 := [(0, .ref (ad 6))]) (by decide) (Nat.le_of_ble_eq_true rfl) rfl ?_
  intro p e s m args below meth c Q A C ret
  replace C : Cx p ({ frames := 3, cells := 0, slots := 0, locals := 180 } : Room) m c 0 0 cX7_begin 2 s args RX7 K A := C
  unfold P_X7_begin at h
  refine wa_aload_n C 0 rfl dX7_begin_0 rfl ?_
  refine wa_iconst C (z := 0) dX7_begin_1 rfl ?_
  refine wa_putI C (ws' := (dW D_hasBoard D_beganBlank F_mines F_moves F_changes G_width G_height G_size B_parts B_longest S_groups S_askedGroup S_taken 0 R_metCount A_grade A_cell A_mined A_withTotal A_numbers X_low X_high Y_low Y_high F_mined F_number F_state F_cellsIn F_unknownNear F_hitNear F_moveStart F_changed F_waiting F_seen G_near G_nearEnd B_chosen B_partOf B_rest B_unknowns B_partStart B_cells S_minedSet S_safeSet S_partSet S_tally S_askedTally S_groupOf S_groupSize S_links S_linkEnd S_pick S_groupMinedSet S_groupSafeSet O_sums O_nextSums R_found R_openEnds R_need R_waiting R_waits R_common R_met A_number Q_mined Q_all Q_choices Q_term Q_divisor Q_spare X_limbs X_sum Y_limbs Y_sum)) 6 8 dW_6 rfl (by decide) okX7 gw_306 rfl rfl (Nat.le_of_ble_eq_true rfl) (inR_k 0 rfl) (dWp_6_8 _) dX7_begin_2 ?_
  refine wa_iconst C (z := 0) dX7_begin_5 rfl ?_
  refine wa_istore_n C dX7_begin_6 rfl (by decide) rfl ?_
  obtain ⟨Inv_1, ⟨n_2, h0Inv_1⟩, hInv_1⟩ := h
  have k_5 : ∀ (n_3 : Nat) (x1_6 : Int) (R_waitingCount_7 : Int) (R_found_8 : Int → Int) (R_openEnds_9 : Int → Int) (R_need_10 : Int → Int) (R_waiting_11 : Int → Int) (R_waits_12 : Int → Int) (R_common_13 : Int → Int), inR x1_6 → Inv_1 n_3 x1_6 R_waitingCount_7 R_found_8 R_openEnds_9 R_need_10 R_waiting_11 R_waits_12 R_common_13 → WA p l e ({ frames := 3, cells := 0, slots := 0, locals := 180 } : Room) s m args below meth c 0 0 Q K ad 2 A 7 [(0, .ref (ad 6)), (1, .int (iI x1_6))] [] (dW D_hasBoard D_beganBlank F_mines F_moves F_changes G_width G_height G_size B_parts B_longest S_groups S_askedGroup S_taken R_waitingCount_7 R_metCount A_grade A_cell A_mined A_withTotal A_numbers X_low X_high Y_low Y_high F_mined F_number F_state F_cellsIn F_unknownNear F_hitNear F_moveStart F_changed F_waiting F_seen G_near G_nearEnd B_chosen B_partOf B_rest B_unknowns B_partStart B_cells S_minedSet S_safeSet S_partSet S_tally S_askedTally S_groupOf S_groupSize S_links S_linkEnd S_pick S_groupMinedSet S_groupSafeSet O_sums O_nextSums R_found_8 R_openEnds_9 R_need_10 R_waiting_11 R_waits_12 R_common_13 R_met A_number Q_mined Q_all Q_choices Q_term Q_divisor Q_spare X_limbs X_sum Y_limbs Y_sum) := by
    intro n_3
    induction n_3 using Nat.strongRecOn with
    | ind n_3 ih_4 =>
      intro x1_6 R_waitingCount_7 R_found_8 R_openEnds_9 R_need_10 R_waiting_11 R_waits_12 R_common_13 rx1_6 h
      replace h := hInv_1 n_3 x1_6 R_waitingCount_7 R_found_8 R_openEnds_9 R_need_10 R_waiting_11 R_waits_12 R_common_13 rx1_6 h
      refine wa_iload_n C 1 rfl dX7_begin_7 rfl ?_
      refine wa_aload_n C 0 rfl dX7_begin_8 rfl ?_
      refine wa_getR C 6 2 dW_6 rfl rfl (by decide) okX7 gw_300 dX7_begin_9 ?_
      refine wa_getI C 2 2 dW_2 rfl rfl (by decide) okX3 gw_54 dX7_begin_12 (fun r_14 => ?_)
      refine wa_icmp_ge C (tgt := 133) rx1_6 r_14 dX7_begin_15 (by decide) (fun c_15 => ?_) (fun c_15 => ?_)
      · replace h := h.1 c_15
        exact ret dX7_begin_133 ⟨_, _, _, _, _, _, _, rfl, h⟩
      · replace h := h.2 c_15
        refine wa_aload_n C 0 rfl dX7_begin_18 rfl ?_
        refine wa_getR C 6 0 dW_6 rfl rfl (by decide) okX7 gw_295 dX7_begin_19 ?_
        refine wa_iload_n C 1 rfl dX7_begin_22 rfl ?_
        refine wa_aload_n C 0 rfl dX7_begin_23 rfl ?_
        refine wa_getR C 6 1 dW_6 rfl rfl (by decide) okX7 gw_299 dX7_begin_24 ?_
        refine wa_iload_n C 1 rfl dX7_begin_27 rfl ?_
        refine wa_callVi C (k := 1) (As := [.int (iI x1_6)]) (rest := [.int (iI x1_6), .ref (ad 44)]) (c_X2_isUnknown l K ad x1_6 rx1_6 _ h) gw_665 gw_679 dW_1 rfl gw_663 gw_664 gw_2 q_X2_isUnknown rfl rfl rfl ⟨by decide, by decide⟩ rfl (Nat.le_of_ble_eq_true rfl) dX7_begin_28 (fun c_16 u9 rc_16 hp => ?_)
        obtain ⟨bc_16, rfl, h⟩ := hp
        replace h := h bc_16
        obtain ⟨J_17, h, hJ_17⟩ := h
        have k_18 : ∀ (z_19 : Int), inR z_19 → J_17 z_19 → WA p l e ({ frames := 3, cells := 0, slots := 0, locals := 180 } : Room) s m args below meth c 0 0 Q K ad 2 A 39 [(0, .ref (ad 6)), (1, .int (iI x1_6))] [.int (iI z_19), .int (iI x1_6), .ref (ad 44)] (dW D_hasBoard D_beganBlank F_mines F_moves F_changes G_width G_height G_size B_parts B_longest S_groups S_askedGroup S_taken R_waitingCount_7 R_metCount A_grade A_cell A_mined A_withTotal A_numbers X_low X_high Y_low Y_high F_mined F_number F_state F_cellsIn F_unknownNear F_hitNear F_moveStart F_changed F_waiting F_seen G_near G_nearEnd B_chosen B_partOf B_rest B_unknowns B_partStart B_cells S_minedSet S_safeSet S_partSet S_tally S_askedTally S_groupOf S_groupSize S_links S_linkEnd S_pick S_groupMinedSet S_groupSafeSet O_sums O_nextSums R_found_8 R_openEnds_9 R_need_10 R_waiting_11 R_waits_12 R_common_13 R_met A_number Q_mined Q_all Q_choices Q_term Q_divisor Q_spare X_limbs X_sum Y_limbs Y_sum) := by
          intro z_19 rz_19 h
          replace h := hJ_17 z_19 rz_19 h
          obtain ⟨t_20, h⟩ := h
          refine wa_iast C (ws' := fun w9 => (dW D_hasBoard D_beganBlank F_mines F_moves F_changes G_width G_height G_size B_parts B_longest S_groups S_askedGroup S_taken R_waitingCount_7 R_metCount A_grade A_cell A_mined A_withTotal A_numbers X_low X_high Y_low Y_high F_mined F_number F_state F_cellsIn F_unknownNear F_hitNear F_moveStart F_changed F_waiting F_seen G_near G_nearEnd B_chosen B_partOf B_rest B_unknowns B_partStart B_cells S_minedSet S_safeSet S_partSet S_tally S_askedTally S_groupOf S_groupSize S_links S_linkEnd S_pick S_groupMinedSet S_groupSafeSet O_sums O_nextSums w9 R_openEnds_9 R_need_10 R_waiting_11 R_waits_12 R_common_13 R_met A_number Q_mined Q_all Q_choices Q_term Q_divisor Q_spare X_limbs X_sum Y_limbs Y_sum)) 44 dW_44 dX7_begin_39 t_20.1 t_20.2 rz_19 dWs_44 (fun R_found_21 eR_found_21 => ?_)
          replace h := h R_found_21 eR_found_21
          refine wa_aload_n C 0 rfl dX7_begin_40 rfl ?_
          refine wa_getR C 6 9 dW_6 rfl rfl (by decide) okX7 gw_307 dX7_begin_41 ?_
          refine wa_iload_n C 1 rfl dX7_begin_44 rfl ?_
          refine wa_iconst C (z := 0) dX7_begin_45 rfl ?_
          obtain ⟨t_22, h⟩ := h
          refine wa_iast C (ws' := fun w9 => (dW D_hasBoard D_beganBlank F_mines F_moves F_changes G_width G_height G_size B_parts B_longest S_groups S_askedGroup S_taken R_waitingCount_7 R_metCount A_grade A_cell A_mined A_withTotal A_numbers X_low X_high Y_low Y_high F_mined F_number F_state F_cellsIn F_unknownNear F_hitNear F_moveStart F_changed F_waiting F_seen G_near G_nearEnd B_chosen B_partOf B_rest B_unknowns B_partStart B_cells S_minedSet S_safeSet S_partSet S_tally S_askedTally S_groupOf S_groupSize S_links S_linkEnd S_pick S_groupMinedSet S_groupSafeSet O_sums O_nextSums R_found_21 R_openEnds_9 R_need_10 R_waiting_11 R_waits_12 w9 R_met A_number Q_mined Q_all Q_choices Q_term Q_divisor Q_spare X_limbs X_sum Y_limbs Y_sum)) 49 dW_49 dX7_begin_46 t_22.1 t_22.2 (inR_k 0 rfl) dWs_49 (fun R_common_23 eR_common_23 => ?_)
          replace h := h R_common_23 eR_common_23
          refine wa_aload_n C 0 rfl dX7_begin_47 rfl ?_
          refine wa_getR C 6 4 dW_6 rfl rfl (by decide) okX7 gw_302 dX7_begin_48 ?_
          refine wa_iload_n C 1 rfl dX7_begin_51 rfl ?_
          refine wa_aload_n C 0 rfl dX7_begin_52 rfl ?_
          refine wa_getR C 6 1 dW_6 rfl rfl (by decide) okX7 gw_299 dX7_begin_53 ?_
          refine wa_getR C 1 5 dW_1 rfl rfl (by decide) okX2 gw_106 dX7_begin_56 ?_
          refine wa_iload_n C 1 rfl dX7_begin_59 rfl ?_
          obtain ⟨t_24, h⟩ := h
          refine wa_iald C 16 dW_16 dX7_begin_60 t_24.1 t_24.2 (fun v_25 ev_25 rv_25 => ?_)
          replace h := h v_25 ev_25 rv_25
          obtain ⟨t_26, h⟩ := h
          refine wa_iast C (ws' := fun w9 => (dW D_hasBoard D_beganBlank F_mines F_moves F_changes G_width G_height G_size B_parts B_longest S_groups S_askedGroup S_taken R_waitingCount_7 R_metCount A_grade A_cell A_mined A_withTotal A_numbers X_low X_high Y_low Y_high F_mined F_number F_state F_cellsIn F_unknownNear F_hitNear F_moveStart F_changed F_waiting F_seen G_near G_nearEnd B_chosen B_partOf B_rest B_unknowns B_partStart B_cells S_minedSet S_safeSet S_partSet S_tally S_askedTally S_groupOf S_groupSize S_links S_linkEnd S_pick S_groupMinedSet S_groupSafeSet O_sums O_nextSums R_found_21 w9 R_need_10 R_waiting_11 R_waits_12 R_common_23 R_met A_number Q_mined Q_all Q_choices Q_term Q_divisor Q_spare X_limbs X_sum Y_limbs Y_sum)) 45 dW_45 dX7_begin_61 t_26.1 t_26.2 rv_25 dWs_45 (fun R_openEnds_27 eR_openEnds_27 => ?_)
          replace h := h R_openEnds_27 eR_openEnds_27
          refine wa_aload_n C 0 rfl dX7_begin_62 rfl ?_
          refine wa_getR C 6 5 dW_6 rfl rfl (by decide) okX7 gw_303 dX7_begin_63 ?_
          refine wa_iload_n C 1 rfl dX7_begin_66 rfl ?_
          refine wa_aload_n C 0 rfl dX7_begin_67 rfl ?_
          refine wa_getR C 6 1 dW_6 rfl rfl (by decide) okX7 gw_299 dX7_begin_68 ?_
          refine wa_getR C 1 2 dW_1 rfl rfl (by decide) okX2 gw_93 dX7_begin_71 ?_
          refine wa_iload_n C 1 rfl dX7_begin_74 rfl ?_
          obtain ⟨t_28, h⟩ := h
          refine wa_iald C 13 dW_13 dX7_begin_75 t_28.1 t_28.2 (fun v_29 ev_29 rv_29 => ?_)
          replace h := h v_29 ev_29 rv_29
          refine wa_aload_n C 0 rfl dX7_begin_76 rfl ?_
          refine wa_getR C 6 1 dW_6 rfl rfl (by decide) okX7 gw_299 dX7_begin_77 ?_
          refine wa_getR C 1 6 dW_1 rfl rfl (by decide) okX2 gw_108 dX7_begin_80 ?_
          refine wa_iload_n C 1 rfl dX7_begin_83 rfl ?_
          obtain ⟨t_30, h⟩ := h
          refine wa_iald C 17 dW_17 dX7_begin_84 t_30.1 t_30.2 (fun v_31 ev_31 rv_31 => ?_)
          replace h := h v_31 ev_31 rv_31
          refine wa_isub C dX7_begin_85 ?_
          obtain ⟨t_32, h⟩ := h
          obtain ⟨r_33, h⟩ := h
          refine wa_iast C (ws' := fun w9 => (dW D_hasBoard D_beganBlank F_mines F_moves F_changes G_width G_height G_size B_parts B_longest S_groups S_askedGroup S_taken R_waitingCount_7 R_metCount A_grade A_cell A_mined A_withTotal A_numbers X_low X_high Y_low Y_high F_mined F_number F_state F_cellsIn F_unknownNear F_hitNear F_moveStart F_changed F_waiting F_seen G_near G_nearEnd B_chosen B_partOf B_rest B_unknowns B_partStart B_cells S_minedSet S_safeSet S_partSet S_tally S_askedTally S_groupOf S_groupSize S_links S_linkEnd S_pick S_groupMinedSet S_groupSafeSet O_sums O_nextSums R_found_21 R_openEnds_27 w9 R_waiting_11 R_waits_12 R_common_23 R_met A_number Q_mined Q_all Q_choices Q_term Q_divisor Q_spare X_limbs X_sum Y_limbs Y_sum)) 46 dW_46 dX7_begin_86 t_32.1 t_32.2 r_33 dWs_46 (fun R_need_34 eR_need_34 => ?_)
          replace h := h R_need_34 eR_need_34
          refine wa_aload_n C 0 rfl dX7_begin_87 rfl ?_
          refine wa_getR C 6 7 dW_6 rfl rfl (by decide) okX7 gw_305 dX7_begin_88 ?_
          refine wa_iload_n C 1 rfl dX7_begin_91 rfl ?_
          refine wa_aload_n C 0 rfl dX7_begin_92 rfl ?_
          refine wa_iload_n C 1 rfl dX7_begin_93 rfl ?_
          refine wa_callVi C (k := 6) (As := [.int (iI x1_6)]) (rest := [.int (iI x1_6), .ref (ad 48)]) (c_X7_isTelling l K ad x1_6 rx1_6 _ h) gw_683 gw_680 dW_6 rfl gw_682 gs_10 gw_7 q_X7_isTelling rfl rfl rfl ⟨by decide, by decide⟩ rfl (Nat.le_of_ble_eq_true rfl) dX7_begin_94 (fun c_35 u9 rc_35 hp => ?_)
          obtain ⟨bc_35, rfl, h⟩ := hp
          replace h := h bc_35
          obtain ⟨t_36, h⟩ := h
          refine wa_bast C (ws' := fun w9 => (dW D_hasBoard D_beganBlank F_mines F_moves F_changes G_width G_height G_size B_parts B_longest S_groups S_askedGroup S_taken R_waitingCount_7 R_metCount A_grade A_cell A_mined A_withTotal A_numbers X_low X_high Y_low Y_high F_mined F_number F_state F_cellsIn F_unknownNear F_hitNear F_moveStart F_changed F_waiting F_seen G_near G_nearEnd B_chosen B_partOf B_rest B_unknowns B_partStart B_cells S_minedSet S_safeSet S_partSet S_tally S_askedTally S_groupOf S_groupSize S_links S_linkEnd S_pick S_groupMinedSet S_groupSafeSet O_sums O_nextSums R_found_21 R_openEnds_27 R_need_34 R_waiting_11 w9 R_common_23 R_met A_number Q_mined Q_all Q_choices Q_term Q_divisor Q_spare X_limbs X_sum Y_limbs Y_sum)) 48 dW_48 dX7_begin_97 t_36.1 t_36.2 bc_35 dWs_48 (fun R_waits_37 eR_waits_37 => ?_)
          replace h := h R_waits_37 eR_waits_37
          refine wa_aload_n C 0 rfl dX7_begin_98 rfl ?_
          refine wa_getR C 6 7 dW_6 rfl rfl (by decide) okX7 gw_305 dX7_begin_99 ?_
          refine wa_iload_n C 1 rfl dX7_begin_102 rfl ?_
          obtain ⟨t_38, h⟩ := h
          refine wa_bald C 48 dW_48 dX7_begin_103 t_38.1 t_38.2 (fun v_39 ev_39 rv_39 => ?_)
          replace h := h v_39 ev_39 rv_39
          obtain ⟨J_40, h, hJ_40⟩ := h
          have k_41 : ∀ (R_waitingCount_42 : Int) (R_waiting_43 : Int → Int), J_40 R_waitingCount_42 R_waiting_43 → WA p l e ({ frames := 3, cells := 0, slots := 0, locals := 180 } : Room) s m args below meth c 0 0 Q K ad 2 A 127 [(0, .ref (ad 6)), (1, .int (iI x1_6))] [] (dW D_hasBoard D_beganBlank F_mines F_moves F_changes G_width G_height G_size B_parts B_longest S_groups S_askedGroup S_taken R_waitingCount_42 R_metCount A_grade A_cell A_mined A_withTotal A_numbers X_low X_high Y_low Y_high F_mined F_number F_state F_cellsIn F_unknownNear F_hitNear F_moveStart F_changed F_waiting F_seen G_near G_nearEnd B_chosen B_partOf B_rest B_unknowns B_partStart B_cells S_minedSet S_safeSet S_partSet S_tally S_askedTally S_groupOf S_groupSize S_links S_linkEnd S_pick S_groupMinedSet S_groupSafeSet O_sums O_nextSums R_found_21 R_openEnds_27 R_need_34 R_waiting_43 R_waits_37 R_common_23 R_met A_number Q_mined Q_all Q_choices Q_term Q_divisor Q_spare X_limbs X_sum Y_limbs Y_sum) := by
            intro R_waitingCount_42 R_waiting_43 h
            replace h := hJ_40 R_waitingCount_42 R_waiting_43 h
            obtain ⟨r_44, h⟩ := h
            refine wa_iinc C (lv' := fun w9 => [(1, .int (iI w9)), (0, .ref (ad 6))]) 1 rfl dX7_begin_127 (by decide) (fun _ => rfl) (fun x1_45 ex1_45 => ?_)
            replace h := h x1_45 ex1_45
            have rx1_45 : inR x1_45 := by rw [ex1_45]; exact r_44
            refine wa_goto C (tgt := 7) dX7_begin_130 (by decide) ?_
            obtain ⟨n_46, ln_46, h⟩ := h
            refine wa_sub C [1, 0] rfl ?_
            exact ih_4 n_46 ln_46 x1_45 R_waitingCount_42 R_found_21 R_openEnds_27 R_need_34 R_waiting_43 R_waits_37 R_common_23 rx1_45 h
          refine wa_if_eq C (tgt := 127) (inR_b rv_39) dX7_begin_104 (by decide) (fun c_47 => ?_) (fun c_47 => ?_)
          · replace h := h.1 c_47
            refine wa_sub C [0, 1] rfl ?_
            exact k_41 R_waitingCount_7 R_waiting_11 h
          · replace h := h.2 c_47
            refine wa_aload_n C 0 rfl dX7_begin_107 rfl ?_
            refine wa_getR C 6 6 dW_6 rfl rfl (by decide) okX7 gw_304 dX7_begin_108 ?_
            refine wa_aload_n C 0 rfl dX7_begin_111 rfl ?_
            refine wa_getI C 6 8 dW_6 rfl rfl (by decide) okX7 gw_306 dX7_begin_112 (fun r_48 => ?_)
            refine wa_iload_n C 1 rfl dX7_begin_115 rfl ?_
            obtain ⟨t_49, h⟩ := h
            refine wa_iast C (ws' := fun w9 => (dW D_hasBoard D_beganBlank F_mines F_moves F_changes G_width G_height G_size B_parts B_longest S_groups S_askedGroup S_taken R_waitingCount_7 R_metCount A_grade A_cell A_mined A_withTotal A_numbers X_low X_high Y_low Y_high F_mined F_number F_state F_cellsIn F_unknownNear F_hitNear F_moveStart F_changed F_waiting F_seen G_near G_nearEnd B_chosen B_partOf B_rest B_unknowns B_partStart B_cells S_minedSet S_safeSet S_partSet S_tally S_askedTally S_groupOf S_groupSize S_links S_linkEnd S_pick S_groupMinedSet S_groupSafeSet O_sums O_nextSums R_found_21 R_openEnds_27 R_need_34 w9 R_waits_37 R_common_23 R_met A_number Q_mined Q_all Q_choices Q_term Q_divisor Q_spare X_limbs X_sum Y_limbs Y_sum)) 47 dW_47 dX7_begin_116 t_49.1 t_49.2 rx1_6 dWs_47 (fun R_waiting_50 eR_waiting_50 => ?_)
            replace h := h R_waiting_50 eR_waiting_50
            refine wa_aload_n C 0 rfl dX7_begin_117 rfl ?_
            refine wa_dup C dX7_begin_118 rfl ?_
            refine wa_getI C 6 8 dW_6 rfl rfl (by decide) okX7 gw_306 dX7_begin_119 (fun r_51 => ?_)
            refine wa_iconst C (z := 1) dX7_begin_122 rfl ?_
            refine wa_iadd C dX7_begin_123 ?_
            obtain ⟨r_52, h⟩ := h
            refine wa_nmi (fun R_waitingCount_53 eR_waitingCount_53 => ?_)
            replace h := h R_waitingCount_53 eR_waitingCount_53
            have rR_waitingCount_53 : inR R_waitingCount_53 := by rw [eR_waitingCount_53]; exact r_52
            refine wa_putI C (ws' := (dW D_hasBoard D_beganBlank F_mines F_moves F_changes G_width G_height G_size B_parts B_longest S_groups S_askedGroup S_taken R_waitingCount_53 R_metCount A_grade A_cell A_mined A_withTotal A_numbers X_low X_high Y_low Y_high F_mined F_number F_state F_cellsIn F_unknownNear F_hitNear F_moveStart F_changed F_waiting F_seen G_near G_nearEnd B_chosen B_partOf B_rest B_unknowns B_partStart B_cells S_minedSet S_safeSet S_partSet S_tally S_askedTally S_groupOf S_groupSize S_links S_linkEnd S_pick S_groupMinedSet S_groupSafeSet O_sums O_nextSums R_found_21 R_openEnds_27 R_need_34 R_waiting_50 R_waits_37 R_common_23 R_met A_number Q_mined Q_all Q_choices Q_term Q_divisor Q_spare X_limbs X_sum Y_limbs Y_sum)) 6 8 dW_6 rfl (by decide) okX7 gw_306 rfl rfl (Nat.le_of_ble_eq_true rfl) rR_waitingCount_53 (dWp_6_8 _) dX7_begin_124 ?_
            refine wa_sub C [0, 1] rfl ?_
            exact k_41 R_waitingCount_53 R_waiting_50 h
        refine wa_if_eq C (tgt := 38) (inR_b bc_16) dX7_begin_31 (by decide) (fun c_54 => ?_) (fun c_54 => ?_)
        · replace h := h.1 c_54
          refine wa_iconst C (z := 3) dX7_begin_38 rfl ?_
          refine wa_sub C [0, 1] rfl ?_
          exact k_18 3 (inR_k 3 rfl) h
        · replace h := h.2 c_54
          refine wa_iconst C (z := 0) dX7_begin_34 rfl ?_
          refine wa_goto C (tgt := 39) dX7_begin_35 (by decide) ?_
          refine wa_sub C [0, 1] rfl ?_
          exact k_18 0 (inR_k 0 rfl) h
  refine wa_sub C [1, 0] rfl ?_
  exact k_5 n_2 0 0 R_found R_openEnds R_need R_waiting R_waits R_common (inR_k 0 rfl) h0Inv_1
def P_X7_raise (post : (Int) → (Int) → (Int) → (Int) → (Int) → (Int) → (Int) → (Int → Int) → (Int → Int) → (Int → Int) → (Int → Int) → (Int → Int) → (Int → Int) → (Int → Int) → (Int → Int) → (Int → Int) → (Int → Int) → (Int → Int) → (Int → Int) → (Int → Int) → (Int → Int) → (Int → Int) → (Int → Int) → (Int → Int) → (Int → Int) → (Int → Int64) → (Int → Int64) → (Int → Int) → (Int → Int) → (Int → Int) → (Int → Int) → (Int → Int) → (Int → Int) → (Int → Int) → Prop) (F_mines : Int) (G_size : Int) (B_parts : Int) (B_longest : Int) (S_groups : Int) (S_askedGroup : Int) (S_taken : Int) (R_waitingCount : Int) (R_metCount : Int) (F_number : Int → Int) (F_state : Int → Int) (F_cellsIn : Int → Int) (F_unknownNear : Int → Int) (F_hitNear : Int → Int) (G_near : Int → Int) (G_nearEnd : Int → Int) (B_chosen : Int → Int) (B_partOf : Int → Int) (B_rest : Int → Int) (B_unknowns : Int → Int) (B_partStart : Int → Int) (B_cells : Int → Int) (S_minedSet : Int → Int) (S_safeSet : Int → Int) (S_partSet : Int → Int) (S_tally : Int → Int) (S_askedTally : Int → Int) (S_groupOf : Int → Int) (S_groupSize : Int → Int) (S_links : Int → Int) (S_linkEnd : Int → Int) (S_pick : Int → Int) (S_groupMinedSet : Int → Int) (S_groupSafeSet : Int → Int) (O_sums : Int → Int64) (O_nextSums : Int → Int64) (R_found : Int → Int) (R_openEnds : Int → Int) (R_need : Int → Int) (R_waiting : Int → Int) (R_waits : Int → Int) (R_common : Int → Int) (R_met : Int → Int) (x1 : Int) : Prop :=
  (¬ x1 = 1 → ((¬ x1 = 2 → (P_X6_judge_44 (fun (B_parts_3 : Int) (B_longest_4 : Int) (S_groups_5 : Int) (S_askedGroup_6 : Int) (S_taken_7 : Int) (B_chosen_8 : Int → Int) (B_partOf_9 : Int → Int) (B_rest_10 : Int → Int) (B_unknowns_11 : Int → Int) (B_partStart_12 : Int → Int) (B_cells_13 : Int → Int) (S_minedSet_14 : Int → Int) (S_safeSet_15 : Int → Int) (S_partSet_16 : Int → Int) (S_tally_17 : Int → Int) (S_askedTally_18 : Int → Int) (S_groupOf_19 : Int → Int) (S_groupSize_20 : Int → Int) (S_links_21 : Int → Int) (S_linkEnd_22 : Int → Int) (S_pick_23 : Int → Int) (S_groupMinedSet_24 : Int → Int) (S_groupSafeSet_25 : Int → Int) (O_sums_26 : Int → Int64) (O_nextSums_27 : Int → Int64) (R_found_28 : Int → Int) => (post B_parts_3 B_longest_4 S_groups_5 S_askedGroup_6 S_taken_7 R_waitingCount R_metCount B_chosen_8 B_partOf_9 B_rest_10 B_unknowns_11 B_partStart_12 B_cells_13 S_minedSet_14 S_safeSet_15 S_partSet_16 S_tally_17 S_askedTally_18 S_groupOf_19 S_groupSize_20 S_links_21 S_linkEnd_22 S_pick_23 S_groupMinedSet_24 S_groupSafeSet_25 O_sums_26 O_nextSums_27 R_found_28 R_openEnds R_need R_waiting R_waits R_common R_met)) F_mines G_size B_parts B_longest S_groups S_askedGroup S_taken F_number F_state F_cellsIn F_unknownNear F_hitNear G_near G_nearEnd B_chosen B_partOf B_rest B_unknowns B_partStart B_cells S_minedSet S_safeSet S_partSet S_tally S_askedTally S_groupOf S_groupSize S_links S_linkEnd S_pick S_groupMinedSet S_groupSafeSet O_sums O_nextSums R_found )) ∧ (x1 = 2 → (P_X7_findByPairs (fun (R_waitingCount_29 : Int) (R_metCount_30 : Int) (R_found_31 : Int → Int) (R_openEnds_32 : Int → Int) (R_need_33 : Int → Int) (R_waiting_34 : Int → Int) (R_waits_35 : Int → Int) (R_common_36 : Int → Int) (R_met_37 : Int → Int) => (post B_parts B_longest S_groups S_askedGroup S_taken R_waitingCount_29 R_metCount_30 B_chosen B_partOf B_rest B_unknowns B_partStart B_cells S_minedSet S_safeSet S_partSet S_tally S_askedTally S_groupOf S_groupSize S_links S_linkEnd S_pick S_groupMinedSet S_groupSafeSet O_sums O_nextSums R_found_31 R_openEnds_32 R_need_33 R_waiting_34 R_waits_35 R_common_36 R_met_37)) G_size R_waitingCount R_metCount F_state G_near G_nearEnd R_found R_openEnds R_need R_waiting R_waits R_common R_met )))) ∧ (x1 = 1 → (P_X7_begin (fun (R_waitingCount_38 : Int) (R_found_39 : Int → Int) (R_openEnds_40 : Int → Int) (R_need_41 : Int → Int) (R_waiting_42 : Int → Int) (R_waits_43 : Int → Int) (R_common_44 : Int → Int) => (P_X7_findBySingles (fun (R_waitingCount_45 : Int) (R_found_46 : Int → Int) (R_openEnds_47 : Int → Int) (R_need_48 : Int → Int) (R_waiting_49 : Int → Int) (R_waits_50 : Int → Int) => (post B_parts B_longest S_groups S_askedGroup S_taken R_waitingCount_45 R_metCount B_chosen B_partOf B_rest B_unknowns B_partStart B_cells S_minedSet S_safeSet S_partSet S_tally S_askedTally S_groupOf S_groupSize S_links S_linkEnd S_pick S_groupMinedSet S_groupSafeSet O_sums O_nextSums R_found_46 R_openEnds_47 R_need_48 R_waiting_49 R_waits_50 R_common_44 R_met)) R_waitingCount_38 F_state G_near G_nearEnd R_found_39 R_openEnds_40 R_need_41 R_waiting_42 R_waits_43 )) G_size R_waitingCount F_number F_state F_unknownNear F_hitNear R_found R_openEnds R_need R_waiting R_waits R_common ))
set_option maxRecDepth 100000 in
set_option maxHeartbeats 4000000 in
theorem c_X7_raise (l : Launch) (K : wK) (ad : Nat → Nat) {D_hasBoard : Int} {D_beganBlank : Int} {F_mines : Int} {F_moves : Int} {F_changes : Int} {G_width : Int} {G_height : Int} {G_size : Int} {B_parts : Int} {B_longest : Int} {S_groups : Int} {S_askedGroup : Int} {S_taken : Int} {R_waitingCount : Int} {R_metCount : Int} {A_grade : Int} {A_cell : Int} {A_mined : Int} {A_withTotal : Int} {A_numbers : Int} {X_low : Int} {X_high : Int} {Y_low : Int} {Y_high : Int} {F_mined : Int → Int} {F_number : Int → Int} {F_state : Int → Int} {F_cellsIn : Int → Int} {F_unknownNear : Int → Int} {F_hitNear : Int → Int} {F_moveStart : Int → Int} {F_changed : Int → Int} {F_waiting : Int → Int} {F_seen : Int → Int} {G_near : Int → Int} {G_nearEnd : Int → Int} {B_chosen : Int → Int} {B_partOf : Int → Int} {B_rest : Int → Int} {B_unknowns : Int → Int} {B_partStart : Int → Int} {B_cells : Int → Int} {S_minedSet : Int → Int} {S_safeSet : Int → Int} {S_partSet : Int → Int} {S_tally : Int → Int} {S_askedTally : Int → Int} {S_groupOf : Int → Int} {S_groupSize : Int → Int} {S_links : Int → Int} {S_linkEnd : Int → Int} {S_pick : Int → Int} {S_groupMinedSet : Int → Int} {S_groupSafeSet : Int → Int} {O_sums : Int → Int64} {O_nextSums : Int → Int64} {R_found : Int → Int} {R_openEnds : Int → Int} {R_need : Int → Int} {R_waiting : Int → Int} {R_waits : Int → Int} {R_common : Int → Int} {R_met : Int → Int} {A_number : Int → Int} {Q_mined : Int → Int64} {Q_all : Int → Int64} {Q_choices : Int → Int64} {Q_term : Int → Int64} {Q_divisor : Int → Int64} {Q_spare : Int → Int64} {X_limbs : Int → Int64} {X_sum : Int → Int64} {Y_limbs : Int → Int64} {Y_sum : Int → Int64} (x1 : Int) (rx1 : inR x1) (post : (Int) → (Int) → (Int) → (Int) → (Int) → (Int) → (Int) → (Int → Int) → (Int → Int) → (Int → Int) → (Int → Int) → (Int → Int) → (Int → Int) → (Int → Int) → (Int → Int) → (Int → Int) → (Int → Int) → (Int → Int) → (Int → Int) → (Int → Int) → (Int → Int) → (Int → Int) → (Int → Int) → (Int → Int) → (Int → Int) → (Int → Int64) → (Int → Int64) → (Int → Int) → (Int → Int) → (Int → Int) → (Int → Int) → (Int → Int) → (Int → Int) → (Int → Int) → Prop) (h : P_X7_raise post F_mines G_size B_parts B_longest S_groups S_askedGroup S_taken R_waitingCount R_metCount F_number F_state F_cellsIn F_unknownNear F_hitNear G_near G_nearEnd B_chosen B_partOf B_rest B_unknowns B_partStart B_cells S_minedSet S_safeSet S_partSet S_tally S_askedTally S_groupOf S_groupSize S_links S_linkEnd S_pick S_groupMinedSet S_groupSafeSet O_sums O_nextSums R_found R_openEnds R_need R_waiting R_waits R_common R_met x1) : mV l yX7_raise (Cond.code yX7_raise cX7_raise 2 none :: GT) ({ frames := 25, cells := 0, slots := 0, locals := 1500 } : Room) [.ref (ad 6), .int (iI x1)] K ad (dW D_hasBoard D_beganBlank F_mines F_moves F_changes G_width G_height G_size B_parts B_longest S_groups S_askedGroup S_taken R_waitingCount R_metCount A_grade A_cell A_mined A_withTotal A_numbers X_low X_high Y_low Y_high F_mined F_number F_state F_cellsIn F_unknownNear F_hitNear F_moveStart F_changed F_waiting F_seen G_near G_nearEnd B_chosen B_partOf B_rest B_unknowns B_partStart B_cells S_minedSet S_safeSet S_partSet S_tally S_askedTally S_groupOf S_groupSize S_links S_linkEnd S_pick S_groupMinedSet S_groupSafeSet O_sums O_nextSums R_found R_openEnds R_need R_waiting R_waits R_common R_met A_number Q_mined Q_all Q_choices Q_term Q_divisor Q_spare X_limbs X_sum Y_limbs Y_sum) (fun u9 => ∃ B_parts9 B_longest9 S_groups9 S_askedGroup9 S_taken9 R_waitingCount9 R_metCount9 B_chosen9 B_partOf9 B_rest9 B_unknowns9 B_partStart9 B_cells9 S_minedSet9 S_safeSet9 S_partSet9 S_tally9 S_askedTally9 S_groupOf9 S_groupSize9 S_links9 S_linkEnd9 S_pick9 S_groupMinedSet9 S_groupSafeSet9 O_sums9 O_nextSums9 R_found9 R_openEnds9 R_need9 R_waiting9 R_waits9 R_common9 R_met9, u9 = (dW D_hasBoard D_beganBlank F_mines F_moves F_changes G_width G_height G_size B_parts9 B_longest9 S_groups9 S_askedGroup9 S_taken9 R_waitingCount9 R_metCount9 A_grade A_cell A_mined A_withTotal A_numbers X_low X_high Y_low Y_high F_mined F_number F_state F_cellsIn F_unknownNear F_hitNear F_moveStart F_changed F_waiting F_seen G_near G_nearEnd B_chosen9 B_partOf9 B_rest9 B_unknowns9 B_partStart9 B_cells9 S_minedSet9 S_safeSet9 S_partSet9 S_tally9 S_askedTally9 S_groupOf9 S_groupSize9 S_links9 S_linkEnd9 S_pick9 S_groupMinedSet9 S_groupSafeSet9 O_sums9 O_nextSums9 R_found9 R_openEnds9 R_need9 R_waiting9 R_waits9 R_common9 R_met9 A_number Q_mined Q_all Q_choices Q_term Q_divisor Q_spare X_limbs X_sum Y_limbs Y_sum) ∧ post B_parts9 B_longest9 S_groups9 S_askedGroup9 S_taken9 R_waitingCount9 R_metCount9 B_chosen9 B_partOf9 B_rest9 B_unknowns9 B_partStart9 B_cells9 S_minedSet9 S_safeSet9 S_partSet9 S_tally9 S_askedTally9 S_groupOf9 S_groupSize9 S_links9 S_linkEnd9 S_pick9 S_groupMinedSet9 S_groupSafeSet9 O_sums9 O_nextSums9 R_found9 R_openEnds9 R_need9 R_waiting9 R_waits9 R_common9 R_met9) := by
  refine mV_of (lv0 := [(0, .ref (ad 6)), (1, .int (iI x1))]) (by decide) (Nat.le_of_ble_eq_true rfl) rfl ?_
  intro p e s m args below meth c Q A C ret
  replace C : Cx p ({ frames := 25, cells := 0, slots := 0, locals := 1500 } : Room) m c 0 0 cX7_raise 2 s args RX7 K A := C
  unfold P_X7_raise at h
  refine wa_iload_n C 1 rfl dX7_raise_0 rfl ?_
  refine wa_iconst C (z := 1) dX7_raise_1 rfl ?_
  refine wa_icmp_ne C (tgt := 16) rx1 (inR_k 1 rfl) dX7_raise_2 (by decide) (fun c_1 => ?_) (fun c_1 => ?_)
  · replace h := h.1 c_1
    refine wa_iload_n C 1 rfl dX7_raise_16 rfl ?_
    refine wa_iconst C (z := 2) dX7_raise_17 rfl ?_
    refine wa_icmp_ne C (tgt := 28) rx1 (inR_k 2 rfl) dX7_raise_18 (by decide) (fun c_2 => ?_) (fun c_2 => ?_)
    · replace h := h.1 c_2
      refine wa_aload_n C 0 rfl dX7_raise_28 rfl ?_
      refine wa_getR C 6 3 dW_6 rfl rfl (by decide) okX7 gw_301 dX7_raise_29 ?_
      refine wa_aload_n C 0 rfl dX7_raise_32 rfl ?_
      refine wa_getR C 6 0 dW_6 rfl rfl (by decide) okX7 gw_295 dX7_raise_33 ?_
      refine wa_callVv C (k := 5) (As := [.ref (ad 44)]) (rest := []) (c_X6_judge_44 l K ad  _ h) gw_720 gw_717 dW_5 rfl gw_718 gw_719 gw_6 q_X6_judge rfl rfl rfl ⟨by decide, by decide⟩ rfl (Nat.le_of_ble_eq_true rfl) dX7_raise_36 (fun u9 hp => ?_)
      obtain ⟨B_parts_3, B_longest_4, S_groups_5, S_askedGroup_6, S_taken_7, B_chosen_8, B_partOf_9, B_rest_10, B_unknowns_11, B_partStart_12, B_cells_13, S_minedSet_14, S_safeSet_15, S_partSet_16, S_tally_17, S_askedTally_18, S_groupOf_19, S_groupSize_20, S_links_21, S_linkEnd_22, S_pick_23, S_groupMinedSet_24, S_groupSafeSet_25, O_sums_26, O_nextSums_27, R_found_28, rfl, h⟩ := hp
      exact ret dX7_raise_39 ⟨_, _, _, _, _, _, _, _, _, _, _, _, _, _, _, _, _, _, _, _, _, _, _, _, _, _, _, _, _, _, _, _, _, _, rfl, h⟩
    · replace h := h.2 c_2
      refine wa_aload_n C 0 rfl dX7_raise_21 rfl ?_
      refine wa_callVv C (k := 6) (As := []) (rest := []) (c_X7_findByPairs l K ad  _ h) gw_700 gw_697 dW_6 rfl gw_699 gs_14 gw_7 q_X7_findByPairs rfl rfl rfl ⟨by decide, by decide⟩ rfl (Nat.le_of_ble_eq_true rfl) dX7_raise_22 (fun u9 hp => ?_)
      obtain ⟨R_waitingCount_29, R_metCount_30, R_found_31, R_openEnds_32, R_need_33, R_waiting_34, R_waits_35, R_common_36, R_met_37, rfl, h⟩ := hp
      refine wa_goto C (tgt := 39) dX7_raise_25 (by decide) ?_
      exact ret dX7_raise_39 ⟨_, _, _, _, _, _, _, _, _, _, _, _, _, _, _, _, _, _, _, _, _, _, _, _, _, _, _, _, _, _, _, _, _, _, rfl, h⟩
  · replace h := h.2 c_1
    refine wa_aload_n C 0 rfl dX7_raise_5 rfl ?_
    refine wa_callVv C (k := 6) (As := []) (rest := []) (c_X7_begin l K ad  _ h) gw_678 gw_675 dW_6 rfl gw_677 gs_9 gw_7 q_X7_begin rfl rfl rfl ⟨by decide, by decide⟩ rfl (Nat.le_of_ble_eq_true rfl) dX7_raise_6 (fun u9 hp => ?_)
    obtain ⟨R_waitingCount_38, R_found_39, R_openEnds_40, R_need_41, R_waiting_42, R_waits_43, R_common_44, rfl, h⟩ := hp
    refine wa_aload_n C 0 rfl dX7_raise_9 rfl ?_
    refine wa_callVv C (k := 6) (As := []) (rest := []) (c_X7_findBySingles l K ad  _ h) gw_687 gw_684 dW_6 rfl gw_686 gs_11 gw_7 q_X7_findBySingles rfl rfl rfl ⟨by decide, by decide⟩ rfl (Nat.le_of_ble_eq_true rfl) dX7_raise_10 (fun u9 hp => ?_)
    obtain ⟨R_waitingCount_45, R_found_46, R_openEnds_47, R_need_48, R_waiting_49, R_waits_50, rfl, h⟩ := hp
    refine wa_goto C (tgt := 39) dX7_raise_13 (by decide) ?_
    exact ret dX7_raise_39 ⟨_, _, _, _, _, _, _, _, _, _, _, _, _, _, _, _, _, _, _, _, _, _, _, _, _, _, _, _, _, _, _, _, _, _, rfl, h⟩
