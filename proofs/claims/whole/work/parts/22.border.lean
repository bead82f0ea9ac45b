theorem dX1_canChoose_0 : decode cX1_canChoose 0 = .ok (.aload_n 0, 1) := by decide +kernel
theorem dX1_canChoose_1 : decode cX1_canChoose 1 = .ok (.getfield 31, 3) := by decide +kernel
theorem dX1_canChoose_4 : decode cX1_canChoose 4 = .ok (.getfield 42, 3) := by decide +kernel
theorem dX1_canChoose_7 : decode cX1_canChoose 7 = .ok (.iload_n 1, 1) := by decide +kernel
theorem dX1_canChoose_8 : decode cX1_canChoose 8 = .ok (.iaload, 1) := by decide +kernel
theorem dX1_canChoose_9 : decode cX1_canChoose 9 = .ok (.iconst 2, 1) := by decide +kernel
theorem dX1_canChoose_10 : decode cX1_canChoose 10 = .ok (.if_icmp .ne 19, 3) := by decide +kernel
theorem dX1_canChoose_13 : decode cX1_canChoose 13 = .ok (.aload_n 0, 1) := by decide +kernel
theorem dX1_canChoose_14 : decode cX1_canChoose 14 = .ok (.getfield 31, 3) := by decide +kernel
theorem dX1_canChoose_17 : decode cX1_canChoose 17 = .ok (.getfield 45, 3) := by decide +kernel
theorem dX1_canChoose_20 : decode cX1_canChoose 20 = .ok (.iload_n 1, 1) := by decide +kernel
theorem dX1_canChoose_21 : decode cX1_canChoose 21 = .ok (.iaload, 1) := by decide +kernel
theorem dX1_canChoose_22 : decode cX1_canChoose 22 = .ok (.ifCond .le 7, 3) := by decide +kernel
theorem dX1_canChoose_25 : decode cX1_canChoose 25 = .ok (.iconst 1, 1) := by decide +kernel
theorem dX1_canChoose_26 : decode cX1_canChoose 26 = .ok (.goto 4, 3) := by decide +kernel
theorem dX1_canChoose_29 : decode cX1_canChoose 29 = .ok (.iconst 0, 1) := by decide +kernel
theorem dX1_canChoose_30 : decode cX1_canChoose 30 = .ok (.ireturn, 1) := by decide +kernel
theorem dX1_chooseAll_0 : decode cX1_chooseAll 0 = .ok (.iconst 0, 1) := by decide +kernel
theorem dX1_chooseAll_1 : decode cX1_chooseAll 1 = .ok (.istore_n 1, 1) := by decide +kernel
theorem dX1_chooseAll_2 : decode cX1_chooseAll 2 = .ok (.iload_n 1, 1) := by decide +kernel
theorem dX1_chooseAll_3 : decode cX1_chooseAll 3 = .ok (.aload_n 0, 1) := by decide +kernel
theorem dX1_chooseAll_4 : decode cX1_chooseAll 4 = .ok (.getfield 41, 3) := by decide +kernel
theorem dX1_chooseAll_7 : decode cX1_chooseAll 7 = .ok (.getfield 48, 3) := by decide +kernel
theorem dX1_chooseAll_10 : decode cX1_chooseAll 10 = .ok (.if_icmp .ge 20, 3) := by decide +kernel
theorem dX1_chooseAll_13 : decode cX1_chooseAll 13 = .ok (.aload_n 0, 1) := by decide +kernel
theorem dX1_chooseAll_14 : decode cX1_chooseAll 14 = .ok (.getfield 9, 3) := by decide +kernel
theorem dX1_chooseAll_17 : decode cX1_chooseAll 17 = .ok (.iload_n 1, 1) := by decide +kernel
theorem dX1_chooseAll_18 : decode cX1_chooseAll 18 = .ok (.aload_n 0, 1) := by decide +kernel
theorem dX1_chooseAll_19 : decode cX1_chooseAll 19 = .ok (.iload_n 1, 1) := by decide +kernel
theorem dX1_chooseAll_20 : decode cX1_chooseAll 20 = .ok (.invokevirtual 54, 3) := by decide +kernel
theorem dX1_chooseAll_23 : decode cX1_chooseAll 23 = .ok (.bastore, 1) := by decide +kernel
theorem dX1_chooseAll_24 : decode cX1_chooseAll 24 = .ok (.iinc 1 1, 3) := by decide +kernel
theorem dX1_chooseAll_27 : decode cX1_chooseAll 27 = .ok (.goto (-25), 3) := by decide +kernel
theorem dX1_chooseAll_30 : decode cX1_chooseAll 30 = .ok (.return_, 1) := by decide +kernel
theorem dX1_chooseNone_0 : decode cX1_chooseNone 0 = .ok (.iconst 0, 1) := by decide +kernel
theorem dX1_chooseNone_1 : decode cX1_chooseNone 1 = .ok (.istore_n 1, 1) := by decide +kernel
theorem dX1_chooseNone_2 : decode cX1_chooseNone 2 = .ok (.iload_n 1, 1) := by decide +kernel
theorem dX1_chooseNone_3 : decode cX1_chooseNone 3 = .ok (.sipush 144, 3) := by decide +kernel
theorem dX1_chooseNone_6 : decode cX1_chooseNone 6 = .ok (.if_icmp .ge 16, 3) := by decide +kernel
theorem dX1_chooseNone_9 : decode cX1_chooseNone 9 = .ok (.aload_n 0, 1) := by decide +kernel
theorem dX1_chooseNone_10 : decode cX1_chooseNone 10 = .ok (.getfield 9, 3) := by decide +kernel
theorem dX1_chooseNone_13 : decode cX1_chooseNone 13 = .ok (.iload_n 1, 1) := by decide +kernel
theorem dX1_chooseNone_14 : decode cX1_chooseNone 14 = .ok (.iconst 0, 1) := by decide +kernel
theorem dX1_chooseNone_15 : decode cX1_chooseNone 15 = .ok (.bastore, 1) := by decide +kernel
theorem dX1_chooseNone_16 : decode cX1_chooseNone 16 = .ok (.iinc 1 1, 3) := by decide +kernel
theorem dX1_chooseNone_19 : decode cX1_chooseNone 19 = .ok (.goto (-17), 3) := by decide +kernel
theorem dX1_chooseNone_22 : decode cX1_chooseNone 22 = .ok (.return_, 1) := by decide +kernel
theorem dX1_keepPart_0 : decode cX1_keepPart 0 = .ok (.iconst 0, 1) := by decide +kernel
theorem dX1_keepPart_1 : decode cX1_keepPart 1 = .ok (.istore_n 2, 1) := by decide +kernel
theorem dX1_keepPart_2 : decode cX1_keepPart 2 = .ok (.iload_n 2, 1) := by decide +kernel
theorem dX1_keepPart_3 : decode cX1_keepPart 3 = .ok (.aload_n 0, 1) := by decide +kernel
theorem dX1_keepPart_4 : decode cX1_keepPart 4 = .ok (.getfield 41, 3) := by decide +kernel
theorem dX1_keepPart_7 : decode cX1_keepPart 7 = .ok (.getfield 48, 3) := by decide +kernel
theorem dX1_keepPart_10 : decode cX1_keepPart 10 = .ok (.if_icmp .ge 39, 3) := by decide +kernel
theorem dX1_keepPart_13 : decode cX1_keepPart 13 = .ok (.aload_n 0, 1) := by decide +kernel
theorem dX1_keepPart_14 : decode cX1_keepPart 14 = .ok (.getfield 9, 3) := by decide +kernel
theorem dX1_keepPart_17 : decode cX1_keepPart 17 = .ok (.iload_n 2, 1) := by decide +kernel
theorem dX1_keepPart_18 : decode cX1_keepPart 18 = .ok (.aload_n 0, 1) := by decide +kernel
theorem dX1_keepPart_19 : decode cX1_keepPart 19 = .ok (.getfield 9, 3) := by decide +kernel
theorem dX1_keepPart_22 : decode cX1_keepPart 22 = .ok (.iload_n 2, 1) := by decide +kernel
theorem dX1_keepPart_23 : decode cX1_keepPart 23 = .ok (.baload, 1) := by decide +kernel
theorem dX1_keepPart_24 : decode cX1_keepPart 24 = .ok (.ifCond .eq 17, 3) := by decide +kernel
theorem dX1_keepPart_27 : decode cX1_keepPart 27 = .ok (.aload_n 0, 1) := by decide +kernel
theorem dX1_keepPart_28 : decode cX1_keepPart 28 = .ok (.getfield 15, 3) := by decide +kernel
theorem dX1_keepPart_31 : decode cX1_keepPart 31 = .ok (.iload_n 2, 1) := by decide +kernel
theorem dX1_keepPart_32 : decode cX1_keepPart 32 = .ok (.iaload, 1) := by decide +kernel
theorem dX1_keepPart_33 : decode cX1_keepPart 33 = .ok (.iload_n 1, 1) := by decide +kernel
theorem dX1_keepPart_34 : decode cX1_keepPart 34 = .ok (.if_icmp .ne 7, 3) := by decide +kernel
theorem dX1_keepPart_37 : decode cX1_keepPart 37 = .ok (.iconst 1, 1) := by decide +kernel
theorem dX1_keepPart_38 : decode cX1_keepPart 38 = .ok (.goto 4, 3) := by decide +kernel
theorem dX1_keepPart_41 : decode cX1_keepPart 41 = .ok (.iconst 0, 1) := by decide +kernel
theorem dX1_keepPart_42 : decode cX1_keepPart 42 = .ok (.bastore, 1) := by decide +kernel
theorem dX1_keepPart_43 : decode cX1_keepPart 43 = .ok (.iinc 2 1, 3) := by decide +kernel
theorem dX1_keepPart_46 : decode cX1_keepPart 46 = .ok (.goto (-44), 3) := by decide +kernel
theorem dX1_keepPart_49 : decode cX1_keepPart 49 = .ok (.return_, 1) := by decide +kernel
theorem dX1_admit_0 : decode cX1_admit 0 = .ok (.aload_n 0, 1) := by decide +kernel
theorem dX1_admit_1 : decode cX1_admit 1 = .ok (.getfield 15, 3) := by decide +kernel
theorem dX1_admit_4 : decode cX1_admit 4 = .ok (.iload_n 1, 1) := by decide +kernel
theorem dX1_admit_5 : decode cX1_admit 5 = .ok (.aload_n 0, 1) := by decide +kernel
theorem dX1_admit_6 : decode cX1_admit 6 = .ok (.getfield 64, 3) := by decide +kernel
theorem dX1_admit_9 : decode cX1_admit 9 = .ok (.iastore, 1) := by decide +kernel
theorem dX1_admit_10 : decode cX1_admit 10 = .ok (.aload_n 0, 1) := by decide +kernel
theorem dX1_admit_11 : decode cX1_admit 11 = .ok (.getfield 19, 3) := by decide +kernel
theorem dX1_admit_14 : decode cX1_admit 14 = .ok (.iload_n 1, 1) := by decide +kernel
theorem dX1_admit_15 : decode cX1_admit 15 = .ok (.aload_n 0, 1) := by decide +kernel
theorem dX1_admit_16 : decode cX1_admit 16 = .ok (.getfield 31, 3) := by decide +kernel
theorem dX1_admit_19 : decode cX1_admit 19 = .ok (.getfield 93, 3) := by decide +kernel
theorem dX1_admit_22 : decode cX1_admit 22 = .ok (.iload_n 1, 1) := by decide +kernel
theorem dX1_admit_23 : decode cX1_admit 23 = .ok (.iaload, 1) := by decide +kernel
theorem dX1_admit_24 : decode cX1_admit 24 = .ok (.aload_n 0, 1) := by decide +kernel
theorem dX1_admit_25 : decode cX1_admit 25 = .ok (.getfield 31, 3) := by decide +kernel
theorem dX1_admit_28 : decode cX1_admit 28 = .ok (.getfield 96, 3) := by decide +kernel
theorem dX1_admit_31 : decode cX1_admit 31 = .ok (.iload_n 1, 1) := by decide +kernel
theorem dX1_admit_32 : decode cX1_admit 32 = .ok (.iaload, 1) := by decide +kernel
theorem dX1_admit_33 : decode cX1_admit 33 = .ok (.isub, 1) := by decide +kernel
theorem dX1_admit_34 : decode cX1_admit 34 = .ok (.iastore, 1) := by decide +kernel
theorem dX1_admit_35 : decode cX1_admit 35 = .ok (.aload_n 0, 1) := by decide +kernel
theorem dX1_admit_36 : decode cX1_admit 36 = .ok (.getfield 22, 3) := by decide +kernel
theorem dX1_admit_39 : decode cX1_admit 39 = .ok (.iload_n 1, 1) := by decide +kernel
theorem dX1_admit_40 : decode cX1_admit 40 = .ok (.aload_n 0, 1) := by decide +kernel
theorem dX1_admit_41 : decode cX1_admit 41 = .ok (.getfield 31, 3) := by decide +kernel
theorem dX1_admit_44 : decode cX1_admit 44 = .ok (.getfield 45, 3) := by decide +kernel
theorem dX1_admit_47 : decode cX1_admit 47 = .ok (.iload_n 1, 1) := by decide +kernel
theorem dX1_admit_48 : decode cX1_admit 48 = .ok (.iaload, 1) := by decide +kernel
theorem dX1_admit_49 : decode cX1_admit 49 = .ok (.iastore, 1) := by decide +kernel
theorem dX1_admit_50 : decode cX1_admit 50 = .ok (.iload_n 2, 1) := by decide +kernel
theorem dX1_admit_51 : decode cX1_admit 51 = .ok (.istore_n 3, 1) := by decide +kernel
theorem dX1_admit_52 : decode cX1_admit 52 = .ok (.iload_n 1, 1) := by decide +kernel
theorem dX1_admit_53 : decode cX1_admit 53 = .ok (.bipush 8, 2) := by decide +kernel
theorem dX1_admit_55 : decode cX1_admit 55 = .ok (.imul, 1) := by decide +kernel
theorem dX1_admit_56 : decode cX1_admit 56 = .ok (.istore 4, 2) := by decide +kernel
theorem dX1_admit_58 : decode cX1_admit 58 = .ok (.iload 4, 2) := by decide +kernel
theorem dX1_admit_60 : decode cX1_admit 60 = .ok (.aload_n 0, 1) := by decide +kernel
theorem dX1_admit_61 : decode cX1_admit 61 = .ok (.getfield 41, 3) := by decide +kernel
theorem dX1_admit_64 : decode cX1_admit 64 = .ok (.getfield 82, 3) := by decide +kernel
theorem dX1_admit_67 : decode cX1_admit 67 = .ok (.iload_n 1, 1) := by decide +kernel
theorem dX1_admit_68 : decode cX1_admit 68 = .ok (.iaload, 1) := by decide +kernel
theorem dX1_admit_69 : decode cX1_admit 69 = .ok (.if_icmp .ge 73, 3) := by decide +kernel
theorem dX1_admit_72 : decode cX1_admit 72 = .ok (.aload_n 0, 1) := by decide +kernel
theorem dX1_admit_73 : decode cX1_admit 73 = .ok (.getfield 41, 3) := by decide +kernel
theorem dX1_admit_76 : decode cX1_admit 76 = .ok (.getfield 85, 3) := by decide +kernel
theorem dX1_admit_79 : decode cX1_admit 79 = .ok (.iload 4, 2) := by decide +kernel
theorem dX1_admit_81 : decode cX1_admit 81 = .ok (.iaload, 1) := by decide +kernel
theorem dX1_admit_82 : decode cX1_admit 82 = .ok (.istore 5, 2) := by decide +kernel
theorem dX1_admit_84 : decode cX1_admit 84 = .ok (.aload_n 0, 1) := by decide +kernel
theorem dX1_admit_85 : decode cX1_admit 85 = .ok (.getfield 31, 3) := by decide +kernel
theorem dX1_admit_88 : decode cX1_admit 88 = .ok (.iload 5, 2) := by decide +kernel
theorem dX1_admit_90 : decode cX1_admit 90 = .ok (.invokevirtual 99, 3) := by decide +kernel
theorem dX1_admit_93 : decode cX1_admit 93 = .ok (.ifCond .eq 43, 3) := by decide +kernel
theorem dX1_admit_96 : decode cX1_admit 96 = .ok (.aload_n 0, 1) := by decide +kernel
theorem dX1_admit_97 : decode cX1_admit 97 = .ok (.getfield 15, 3) := by decide +kernel
theorem dX1_admit_100 : decode cX1_admit 100 = .ok (.iload 5, 2) := by decide +kernel
theorem dX1_admit_102 : decode cX1_admit 102 = .ok (.iaload, 1) := by decide +kernel
theorem dX1_admit_103 : decode cX1_admit 103 = .ok (.iconst (-1), 1) := by decide +kernel
theorem dX1_admit_104 : decode cX1_admit 104 = .ok (.if_icmp .ne 32, 3) := by decide +kernel
theorem dX1_admit_107 : decode cX1_admit 107 = .ok (.iload_n 3, 1) := by decide +kernel
theorem dX1_admit_108 : decode cX1_admit 108 = .ok (.sipush 144, 3) := by decide +kernel
theorem dX1_admit_111 : decode cX1_admit 111 = .ok (.if_icmp .ge 25, 3) := by decide +kernel
theorem dX1_admit_114 : decode cX1_admit 114 = .ok (.aload_n 0, 1) := by decide +kernel
theorem dX1_admit_115 : decode cX1_admit 115 = .ok (.getfield 15, 3) := by decide +kernel
theorem dX1_admit_118 : decode cX1_admit 118 = .ok (.iload 5, 2) := by decide +kernel
theorem dX1_admit_120 : decode cX1_admit 120 = .ok (.aload_n 0, 1) := by decide +kernel
theorem dX1_admit_121 : decode cX1_admit 121 = .ok (.getfield 64, 3) := by decide +kernel
theorem dX1_admit_124 : decode cX1_admit 124 = .ok (.iastore, 1) := by decide +kernel
theorem dX1_admit_125 : decode cX1_admit 125 = .ok (.aload_n 0, 1) := by decide +kernel
theorem dX1_admit_126 : decode cX1_admit 126 = .ok (.getfield 28, 3) := by decide +kernel
theorem dX1_admit_129 : decode cX1_admit 129 = .ok (.iload_n 3, 1) := by decide +kernel
theorem dX1_admit_130 : decode cX1_admit 130 = .ok (.iload 5, 2) := by decide +kernel
theorem dX1_admit_132 : decode cX1_admit 132 = .ok (.iastore, 1) := by decide +kernel
theorem dX1_admit_133 : decode cX1_admit 133 = .ok (.iinc 3 1, 3) := by decide +kernel
theorem dX1_admit_136 : decode cX1_admit 136 = .ok (.iinc 4 1, 3) := by decide +kernel
theorem dX1_admit_139 : decode cX1_admit 139 = .ok (.goto (-81), 3) := by decide +kernel
theorem dX1_admit_142 : decode cX1_admit 142 = .ok (.iload_n 3, 1) := by decide +kernel
theorem dX1_admit_143 : decode cX1_admit 143 = .ok (.ireturn, 1) := by decide +kernel
theorem dX1_gather_0 : decode cX1_gather 0 = .ok (.aload_n 0, 1) := by decide +kernel
theorem dX1_gather_1 : decode cX1_gather 1 = .ok (.getfield 25, 3) := by decide +kernel
theorem dX1_gather_4 : decode cX1_gather 4 = .ok (.aload_n 0, 1) := by decide +kernel
theorem dX1_gather_5 : decode cX1_gather 5 = .ok (.getfield 64, 3) := by decide +kernel
theorem dX1_gather_8 : decode cX1_gather 8 = .ok (.iaload, 1) := by decide +kernel
theorem dX1_gather_9 : decode cX1_gather 9 = .ok (.istore_n 2, 1) := by decide +kernel
theorem dX1_gather_10 : decode cX1_gather 10 = .ok (.aload_n 0, 1) := by decide +kernel
theorem dX1_gather_11 : decode cX1_gather 11 = .ok (.iload_n 1, 1) := by decide +kernel
theorem dX1_gather_12 : decode cX1_gather 12 = .ok (.iload_n 2, 1) := by decide +kernel
theorem dX1_gather_13 : decode cX1_gather 13 = .ok (.invokevirtual 78, 3) := by decide +kernel
theorem dX1_gather_16 : decode cX1_gather 16 = .ok (.istore_n 3, 1) := by decide +kernel
theorem dX1_gather_17 : decode cX1_gather 17 = .ok (.iload_n 2, 1) := by decide +kernel
theorem dX1_gather_18 : decode cX1_gather 18 = .ok (.istore 4, 2) := by decide +kernel
theorem dX1_gather_20 : decode cX1_gather 20 = .ok (.iload 4, 2) := by decide +kernel
theorem dX1_gather_22 : decode cX1_gather 22 = .ok (.iload_n 3, 1) := by decide +kernel
theorem dX1_gather_23 : decode cX1_gather 23 = .ok (.if_icmp .ge 96, 3) := by decide +kernel
theorem dX1_gather_26 : decode cX1_gather 26 = .ok (.iload 4, 2) := by decide +kernel
theorem dX1_gather_28 : decode cX1_gather 28 = .ok (.sipush 144, 3) := by decide +kernel
theorem dX1_gather_31 : decode cX1_gather 31 = .ok (.if_icmp .ge 88, 3) := by decide +kernel
theorem dX1_gather_34 : decode cX1_gather 34 = .ok (.aload_n 0, 1) := by decide +kernel
theorem dX1_gather_35 : decode cX1_gather 35 = .ok (.getfield 28, 3) := by decide +kernel
theorem dX1_gather_38 : decode cX1_gather 38 = .ok (.iload 4, 2) := by decide +kernel
theorem dX1_gather_40 : decode cX1_gather 40 = .ok (.iaload, 1) := by decide +kernel
theorem dX1_gather_41 : decode cX1_gather 41 = .ok (.bipush 8, 2) := by decide +kernel
theorem dX1_gather_43 : decode cX1_gather 43 = .ok (.imul, 1) := by decide +kernel
theorem dX1_gather_44 : decode cX1_gather 44 = .ok (.istore 5, 2) := by decide +kernel
theorem dX1_gather_46 : decode cX1_gather 46 = .ok (.iload 5, 2) := by decide +kernel
theorem dX1_gather_48 : decode cX1_gather 48 = .ok (.aload_n 0, 1) := by decide +kernel
theorem dX1_gather_49 : decode cX1_gather 49 = .ok (.getfield 41, 3) := by decide +kernel
theorem dX1_gather_52 : decode cX1_gather 52 = .ok (.getfield 82, 3) := by decide +kernel
theorem dX1_gather_55 : decode cX1_gather 55 = .ok (.aload_n 0, 1) := by decide +kernel
theorem dX1_gather_56 : decode cX1_gather 56 = .ok (.getfield 28, 3) := by decide +kernel
theorem dX1_gather_59 : decode cX1_gather 59 = .ok (.iload 4, 2) := by decide +kernel
theorem dX1_gather_61 : decode cX1_gather 61 = .ok (.iaload, 1) := by decide +kernel
theorem dX1_gather_62 : decode cX1_gather 62 = .ok (.iaload, 1) := by decide +kernel
theorem dX1_gather_63 : decode cX1_gather 63 = .ok (.if_icmp .ge 50, 3) := by decide +kernel
theorem dX1_gather_66 : decode cX1_gather 66 = .ok (.aload_n 0, 1) := by decide +kernel
theorem dX1_gather_67 : decode cX1_gather 67 = .ok (.getfield 41, 3) := by decide +kernel
theorem dX1_gather_70 : decode cX1_gather 70 = .ok (.getfield 85, 3) := by decide +kernel
theorem dX1_gather_73 : decode cX1_gather 73 = .ok (.iload 5, 2) := by decide +kernel
theorem dX1_gather_75 : decode cX1_gather 75 = .ok (.iaload, 1) := by decide +kernel
theorem dX1_gather_76 : decode cX1_gather 76 = .ok (.istore 6, 2) := by decide +kernel
theorem dX1_gather_78 : decode cX1_gather 78 = .ok (.aload_n 0, 1) := by decide +kernel
theorem dX1_gather_79 : decode cX1_gather 79 = .ok (.getfield 9, 3) := by decide +kernel
theorem dX1_gather_82 : decode cX1_gather 82 = .ok (.iload 6, 2) := by decide +kernel
theorem dX1_gather_84 : decode cX1_gather 84 = .ok (.baload, 1) := by decide +kernel
theorem dX1_gather_85 : decode cX1_gather 85 = .ok (.ifCond .eq 22, 3) := by decide +kernel
theorem dX1_gather_88 : decode cX1_gather 88 = .ok (.aload_n 0, 1) := by decide +kernel
theorem dX1_gather_89 : decode cX1_gather 89 = .ok (.getfield 15, 3) := by decide +kernel
theorem dX1_gather_92 : decode cX1_gather 92 = .ok (.iload 6, 2) := by decide +kernel
theorem dX1_gather_94 : decode cX1_gather 94 = .ok (.iaload, 1) := by decide +kernel
theorem dX1_gather_95 : decode cX1_gather 95 = .ok (.iconst (-1), 1) := by decide +kernel
theorem dX1_gather_96 : decode cX1_gather 96 = .ok (.if_icmp .ne 11, 3) := by decide +kernel
theorem dX1_gather_99 : decode cX1_gather 99 = .ok (.aload_n 0, 1) := by decide +kernel
theorem dX1_gather_100 : decode cX1_gather 100 = .ok (.iload 6, 2) := by decide +kernel
theorem dX1_gather_102 : decode cX1_gather 102 = .ok (.iload_n 3, 1) := by decide +kernel
theorem dX1_gather_103 : decode cX1_gather 103 = .ok (.invokevirtual 78, 3) := by decide +kernel
theorem dX1_gather_106 : decode cX1_gather 106 = .ok (.istore_n 3, 1) := by decide +kernel
theorem dX1_gather_107 : decode cX1_gather 107 = .ok (.iinc 5 1, 3) := by decide +kernel
theorem dX1_gather_110 : decode cX1_gather 110 = .ok (.goto (-64), 3) := by decide +kernel
theorem dX1_gather_113 : decode cX1_gather 113 = .ok (.iinc 4 1, 3) := by decide +kernel
theorem dX1_gather_116 : decode cX1_gather 116 = .ok (.goto (-96), 3) := by decide +kernel
theorem dX1_gather_119 : decode cX1_gather 119 = .ok (.aload_n 0, 1) := by decide +kernel
theorem dX1_gather_120 : decode cX1_gather 120 = .ok (.dup, 1) := by decide +kernel
theorem dX1_gather_121 : decode cX1_gather 121 = .ok (.getfield 64, 3) := by decide +kernel
theorem dX1_gather_124 : decode cX1_gather 124 = .ok (.iconst 1, 1) := by decide +kernel
theorem dX1_gather_125 : decode cX1_gather 125 = .ok (.iadd, 1) := by decide +kernel
theorem dX1_gather_126 : decode cX1_gather 126 = .ok (.putfield 64, 3) := by decide +kernel
theorem dX1_gather_129 : decode cX1_gather 129 = .ok (.aload_n 0, 1) := by decide +kernel
theorem dX1_gather_130 : decode cX1_gather 130 = .ok (.getfield 25, 3) := by decide +kernel
theorem dX1_gather_133 : decode cX1_gather 133 = .ok (.aload_n 0, 1) := by decide +kernel
theorem dX1_gather_134 : decode cX1_gather 134 = .ok (.getfield 64, 3) := by decide +kernel
theorem dX1_gather_137 : decode cX1_gather 137 = .ok (.iload_n 3, 1) := by decide +kernel
theorem dX1_gather_138 : decode cX1_gather 138 = .ok (.iastore, 1) := by decide +kernel
theorem dX1_gather_139 : decode cX1_gather 139 = .ok (.aload_n 0, 1) := by decide +kernel
theorem dX1_gather_140 : decode cX1_gather 140 = .ok (.aload_n 0, 1) := by decide +kernel
theorem dX1_gather_141 : decode cX1_gather 141 = .ok (.getfield 67, 3) := by decide +kernel
theorem dX1_gather_144 : decode cX1_gather 144 = .ok (.iload_n 3, 1) := by decide +kernel
theorem dX1_gather_145 : decode cX1_gather 145 = .ok (.iload_n 2, 1) := by decide +kernel
theorem dX1_gather_146 : decode cX1_gather 146 = .ok (.isub, 1) := by decide +kernel
theorem dX1_gather_147 : decode cX1_gather 147 = .ok (.invokestatic 88, 3) := by decide +kernel
theorem dX1_gather_150 : decode cX1_gather 150 = .ok (.putfield 67, 3) := by decide +kernel
theorem dX1_gather_153 : decode cX1_gather 153 = .ok (.return_, 1) := by decide +kernel
theorem dX1_split_0 : decode cX1_split 0 = .ok (.aload_n 0, 1) := by decide +kernel
theorem dX1_split_1 : decode cX1_split 1 = .ok (.getfield 15, 3) := by decide +kernel
theorem dX1_split_4 : decode cX1_split 4 = .ok (.iconst (-1), 1) := by decide +kernel
theorem dX1_split_5 : decode cX1_split 5 = .ok (.invokestatic 58, 3) := by decide +kernel
theorem dX1_split_8 : decode cX1_split 8 = .ok (.aload_n 0, 1) := by decide +kernel
theorem dX1_split_9 : decode cX1_split 9 = .ok (.iconst 0, 1) := by decide +kernel
theorem dX1_split_10 : decode cX1_split 10 = .ok (.putfield 64, 3) := by decide +kernel
theorem dX1_split_13 : decode cX1_split 13 = .ok (.aload_n 0, 1) := by decide +kernel
theorem dX1_split_14 : decode cX1_split 14 = .ok (.iconst 0, 1) := by decide +kernel
theorem dX1_split_15 : decode cX1_split 15 = .ok (.putfield 67, 3) := by decide +kernel
theorem dX1_split_18 : decode cX1_split 18 = .ok (.iconst 0, 1) := by decide +kernel
theorem dX1_split_19 : decode cX1_split 19 = .ok (.istore_n 1, 1) := by decide +kernel
theorem dX1_split_20 : decode cX1_split 20 = .ok (.iload_n 1, 1) := by decide +kernel
theorem dX1_split_21 : decode cX1_split 21 = .ok (.aload_n 0, 1) := by decide +kernel
theorem dX1_split_22 : decode cX1_split 22 = .ok (.getfield 41, 3) := by decide +kernel
theorem dX1_split_25 : decode cX1_split 25 = .ok (.getfield 48, 3) := by decide +kernel
theorem dX1_split_28 : decode cX1_split 28 = .ok (.if_icmp .ge 43, 3) := by decide +kernel
theorem dX1_split_31 : decode cX1_split 31 = .ok (.aload_n 0, 1) := by decide +kernel
theorem dX1_split_32 : decode cX1_split 32 = .ok (.getfield 9, 3) := by decide +kernel
theorem dX1_split_35 : decode cX1_split 35 = .ok (.iload_n 1, 1) := by decide +kernel
theorem dX1_split_36 : decode cX1_split 36 = .ok (.baload, 1) := by decide +kernel
theorem dX1_split_37 : decode cX1_split 37 = .ok (.ifCond .eq 28, 3) := by decide +kernel
theorem dX1_split_40 : decode cX1_split 40 = .ok (.aload_n 0, 1) := by decide +kernel
theorem dX1_split_41 : decode cX1_split 41 = .ok (.getfield 15, 3) := by decide +kernel
theorem dX1_split_44 : decode cX1_split 44 = .ok (.iload_n 1, 1) := by decide +kernel
theorem dX1_split_45 : decode cX1_split 45 = .ok (.iaload, 1) := by decide +kernel
theorem dX1_split_46 : decode cX1_split 46 = .ok (.iconst (-1), 1) := by decide +kernel
theorem dX1_split_47 : decode cX1_split 47 = .ok (.if_icmp .ne 18, 3) := by decide +kernel
theorem dX1_split_50 : decode cX1_split 50 = .ok (.aload_n 0, 1) := by decide +kernel
theorem dX1_split_51 : decode cX1_split 51 = .ok (.getfield 64, 3) := by decide +kernel
theorem dX1_split_54 : decode cX1_split 54 = .ok (.sipush 144, 3) := by decide +kernel
theorem dX1_split_57 : decode cX1_split 57 = .ok (.if_icmp .ge 8, 3) := by decide +kernel
theorem dX1_split_60 : decode cX1_split 60 = .ok (.aload_n 0, 1) := by decide +kernel
theorem dX1_split_61 : decode cX1_split 61 = .ok (.iload_n 1, 1) := by decide +kernel
theorem dX1_split_62 : decode cX1_split 62 = .ok (.invokevirtual 70, 3) := by decide +kernel
theorem dX1_split_65 : decode cX1_split 65 = .ok (.iinc 1 1, 3) := by decide +kernel
theorem dX1_split_68 : decode cX1_split 68 = .ok (.goto (-48), 3) := by decide +kernel
theorem dX1_split_71 : decode cX1_split 71 = .ok (.return_, 1) := by decide +kernel
theorem dX1_isTooLong_0 : decode cX1_isTooLong 0 = .ok (.aload_n 0, 1) := by decide +kernel
theorem dX1_isTooLong_1 : decode cX1_isTooLong 1 = .ok (.getfield 67, 3) := by decide +kernel
theorem dX1_isTooLong_4 : decode cX1_isTooLong 4 = .ok (.bipush 16, 2) := by decide +kernel
theorem dX1_isTooLong_6 : decode cX1_isTooLong 6 = .ok (.if_icmp .le 7, 3) := by decide +kernel
theorem dX1_isTooLong_9 : decode cX1_isTooLong 9 = .ok (.iconst 1, 1) := by decide +kernel
theorem dX1_isTooLong_10 : decode cX1_isTooLong 10 = .ok (.goto 4, 3) := by decide +kernel
theorem dX1_isTooLong_13 : decode cX1_isTooLong 13 = .ok (.iconst 0, 1) := by decide +kernel
theorem dX1_isTooLong_14 : decode cX1_isTooLong 14 = .ok (.ireturn, 1) := by decide +kernel
theorem dX1_sizeOf_0 : decode cX1_sizeOf 0 = .ok (.aload_n 0, 1) := by decide +kernel
theorem dX1_sizeOf_1 : decode cX1_sizeOf 1 = .ok (.getfield 25, 3) := by decide +kernel
theorem dX1_sizeOf_4 : decode cX1_sizeOf 4 = .ok (.iload_n 1, 1) := by decide +kernel
theorem dX1_sizeOf_5 : decode cX1_sizeOf 5 = .ok (.iconst 1, 1) := by decide +kernel
theorem dX1_sizeOf_6 : decode cX1_sizeOf 6 = .ok (.iadd, 1) := by decide +kernel
theorem dX1_sizeOf_7 : decode cX1_sizeOf 7 = .ok (.iaload, 1) := by decide +kernel
theorem dX1_sizeOf_8 : decode cX1_sizeOf 8 = .ok (.aload_n 0, 1) := by decide +kernel
theorem dX1_sizeOf_9 : decode cX1_sizeOf 9 = .ok (.getfield 25, 3) := by decide +kernel
theorem dX1_sizeOf_12 : decode cX1_sizeOf 12 = .ok (.iload_n 1, 1) := by decide +kernel
theorem dX1_sizeOf_13 : decode cX1_sizeOf 13 = .ok (.iaload, 1) := by decide +kernel
theorem dX1_sizeOf_14 : decode cX1_sizeOf 14 = .ok (.isub, 1) := by decide +kernel
theorem dX1_sizeOf_15 : decode cX1_sizeOf 15 = .ok (.ireturn, 1) := by decide +kernel
theorem dX1_freeCells_0 : decode cX1_freeCells 0 = .ok (.aload_n 0, 1) := by decide +kernel
theorem dX1_freeCells_1 : decode cX1_freeCells 1 = .ok (.getfield 31, 3) := by decide +kernel
theorem dX1_freeCells_4 : decode cX1_freeCells 4 = .ok (.invokevirtual 74, 3) := by decide +kernel
theorem dX1_freeCells_7 : decode cX1_freeCells 7 = .ok (.aload_n 0, 1) := by decide +kernel
theorem dX1_freeCells_8 : decode cX1_freeCells 8 = .ok (.getfield 25, 3) := by decide +kernel
theorem dX1_freeCells_11 : decode cX1_freeCells 11 = .ok (.aload_n 0, 1) := by decide +kernel
theorem dX1_freeCells_12 : decode cX1_freeCells 12 = .ok (.getfield 64, 3) := by decide +kernel
theorem dX1_freeCells_15 : decode cX1_freeCells 15 = .ok (.iaload, 1) := by decide +kernel
theorem dX1_freeCells_16 : decode cX1_freeCells 16 = .ok (.isub, 1) := by decide +kernel
theorem dX1_freeCells_17 : decode cX1_freeCells 17 = .ok (.ireturn, 1) := by decide +kernel
theorem q_X1_canChoose : yX1_canChoose.cls = RX1 ∧ yX1_canChoose.cls ≠ "java/lang/invoke/MethodHandle" ∧ yX1_canChoose.cls ≠ "java/lang/invoke/VarHandle" ∧ (parseMethodDescriptor yX1_canChoose.desc).map (fun d => d.parameters.length) = some 1 := ⟨rfl, by decide, by decide, by decide +kernel⟩
theorem q_X1_chooseAll : yX1_chooseAll.cls = RX1 ∧ yX1_chooseAll.cls ≠ "java/lang/invoke/MethodHandle" ∧ yX1_chooseAll.cls ≠ "java/lang/invoke/VarHandle" ∧ (parseMethodDescriptor yX1_chooseAll.desc).map (fun d => d.parameters.length) = some 0 := ⟨rfl, by decide, by decide, by decide +kernel⟩
theorem q_X1_chooseNone : yX1_chooseNone.cls = RX1 ∧ yX1_chooseNone.cls ≠ "java/lang/invoke/MethodHandle" ∧ yX1_chooseNone.cls ≠ "java/lang/invoke/VarHandle" ∧ (parseMethodDescriptor yX1_chooseNone.desc).map (fun d => d.parameters.length) = some 0 := ⟨rfl, by decide, by decide, by decide +kernel⟩
theorem q_X1_keepPart : yX1_keepPart.cls = RX1 ∧ yX1_keepPart.cls ≠ "java/lang/invoke/MethodHandle" ∧ yX1_keepPart.cls ≠ "java/lang/invoke/VarHandle" ∧ (parseMethodDescriptor yX1_keepPart.desc).map (fun d => d.parameters.length) = some 1 := ⟨rfl, by decide, by decide, by decide +kernel⟩
theorem q_X1_admit : yX1_admit.cls = RX1 ∧ yX1_admit.cls ≠ "java/lang/invoke/MethodHandle" ∧ yX1_admit.cls ≠ "java/lang/invoke/VarHandle" ∧ (parseMethodDescriptor yX1_admit.desc).map (fun d => d.parameters.length) = some 2 := ⟨rfl, by decide, by decide, by decide +kernel⟩
theorem q_X1_gather : yX1_gather.cls = RX1 ∧ yX1_gather.cls ≠ "java/lang/invoke/MethodHandle" ∧ yX1_gather.cls ≠ "java/lang/invoke/VarHandle" ∧ (parseMethodDescriptor yX1_gather.desc).map (fun d => d.parameters.length) = some 1 := ⟨rfl, by decide, by decide, by decide +kernel⟩
theorem q_X1_split : yX1_split.cls = RX1 ∧ yX1_split.cls ≠ "java/lang/invoke/MethodHandle" ∧ yX1_split.cls ≠ "java/lang/invoke/VarHandle" ∧ (parseMethodDescriptor yX1_split.desc).map (fun d => d.parameters.length) = some 0 := ⟨rfl, by decide, by decide, by decide +kernel⟩
theorem q_X1_isTooLong : yX1_isTooLong.cls = RX1 ∧ yX1_isTooLong.cls ≠ "java/lang/invoke/MethodHandle" ∧ yX1_isTooLong.cls ≠ "java/lang/invoke/VarHandle" ∧ (parseMethodDescriptor yX1_isTooLong.desc).map (fun d => d.parameters.length) = some 0 := ⟨rfl, by decide, by decide, by decide +kernel⟩
theorem q_X1_sizeOf : yX1_sizeOf.cls = RX1 ∧ yX1_sizeOf.cls ≠ "java/lang/invoke/MethodHandle" ∧ yX1_sizeOf.cls ≠ "java/lang/invoke/VarHandle" ∧ (parseMethodDescriptor yX1_sizeOf.desc).map (fun d => d.parameters.length) = some 1 := ⟨rfl, by decide, by decide, by decide +kernel⟩
theorem q_X1_freeCells : yX1_freeCells.cls = RX1 ∧ yX1_freeCells.cls ≠ "java/lang/invoke/MethodHandle" ∧ yX1_freeCells.cls ≠ "java/lang/invoke/VarHandle" ∧ (parseMethodDescriptor yX1_freeCells.desc).map (fun d => d.parameters.length) = some 0 := ⟨rfl, by decide, by decide, by decide +kernel⟩
def P_X1_canChoose (post : Int → Prop) (F_state : Int → Int) (F_unknownNear : Int → Int) (x1 : Int) : Prop :=
  (0 ≤ x1 ∧ x1 < 144) ∧ (∀ v_2 : Int, v_2 = F_state x1 → inR v_2 → (∃ J_3 : (Int) → Prop, (∃ J_7 : Prop, ((¬ v_2 = 2 → (J_7)) ∧ (v_2 = 2 → ((0 ≤ x1 ∧ x1 < 144) ∧ (∀ v_11 : Int, v_11 = F_unknownNear x1 → inR v_11 → ((v_11 ≤ 0 → (J_7)) ∧ (¬ v_11 ≤ 0 → (J_3 1))))))) ∧ (J_7 → (J_3 0))) ∧ (∀ (z_5 : Int), inR z_5 → J_3 z_5 → ((z_5 = 0 ∨ z_5 = 1) ∧ (post z_5)))))
set_option maxRecDepth 100000 in
set_option maxHeartbeats 4000000 in
theorem c_X1_canChoose (l : Launch) (K : wK) (ad : Nat → Nat) {D_hasBoard : Int} {D_beganBlank : Int} {F_mines : Int} {F_moves : Int} {F_changes : Int} {G_width : Int} {G_height : Int} {G_size : Int} {B_parts : Int} {B_longest : Int} {S_groups : Int} {S_askedGroup : Int} {S_taken : Int} {R_waitingCount : Int} {R_metCount : Int} {A_grade : Int} {A_cell : Int} {A_mined : Int} {A_withTotal : Int} {A_numbers : Int} {X_low : Int} {X_high : Int} {Y_low : Int} {Y_high : Int} {F_mined : Int → Int} {F_number : Int → Int} {F_state : Int → Int} {F_cellsIn : Int → Int} {F_unknownNear : Int → Int} {F_hitNear : Int → Int} {F_moveStart : Int → Int} {F_changed : Int → Int} {F_waiting : Int → Int} {F_seen : Int → Int} {G_near : Int → Int} {G_nearEnd : Int → Int} {B_chosen : Int → Int} {B_partOf : Int → Int} {B_rest : Int → Int} {B_unknowns : Int → Int} {B_partStart : Int → Int} {B_cells : Int → Int} {S_minedSet : Int → Int} {S_safeSet : Int → Int} {S_partSet : Int → Int} {S_tally : Int → Int} {S_askedTally : Int → Int} {S_groupOf : Int → Int} {S_groupSize : Int → Int} {S_links : Int → Int} {S_linkEnd : Int → Int} {S_pick : Int → Int} {S_groupMinedSet : Int → Int} {S_groupSafeSet : Int → Int} {O_sums : Int → Int64} {O_nextSums : Int → Int64} {R_found : Int → Int} {R_openEnds : Int → Int} {R_need : Int → Int} {R_waiting : Int → Int} {R_waits : Int → Int} {R_common : Int → Int} {R_met : Int → Int} {A_number : Int → Int} {Q_mined : Int → Int64} {Q_all : Int → Int64} {Q_choices : Int → Int64} {Q_term : Int → Int64} {Q_divisor : Int → Int64} {Q_spare : Int → Int64} {X_limbs : Int → Int64} {X_sum : Int → Int64} {Y_limbs : Int → Int64} {Y_sum : Int → Int64} (x1 : Int) (rx1 : inR x1) (post : Int → Prop) (h : P_X1_canChoose post F_state F_unknownNear x1) : mI l yX1_canChoose (Cond.code yX1_canChoose cX1_canChoose 2 (some .boolean) :: GT) ({ frames := 2, cells := 0, slots := 0, locals := 120 } : Room) [.ref (ad 3), .int (iI x1)] K ad (dW D_hasBoard D_beganBlank F_mines F_moves F_changes G_width G_height G_size B_parts B_longest S_groups S_askedGroup S_taken R_waitingCount R_metCount A_grade A_cell A_mined A_withTotal A_numbers X_low X_high Y_low Y_high F_mined F_number F_state F_cellsIn F_unknownNear F_hitNear F_moveStart F_changed F_waiting F_seen G_near G_nearEnd B_chosen B_partOf B_rest B_unknowns B_partStart B_cells S_minedSet S_safeSet S_partSet S_tally S_askedTally S_groupOf S_groupSize S_links S_linkEnd S_pick S_groupMinedSet S_groupSafeSet O_sums O_nextSums R_found R_openEnds R_need R_waiting R_waits R_common R_met A_number Q_mined Q_all Q_choices Q_term Q_divisor Q_spare X_limbs X_sum Y_limbs Y_sum) (fun z9 u9 => (z9 = 0 ∨ z9 = 1) ∧ u9 = (dW D_hasBoard D_beganBlank F_mines F_moves F_changes G_width G_height G_size B_parts B_longest S_groups S_askedGroup S_taken R_waitingCount R_metCount A_grade A_cell A_mined A_withTotal A_numbers X_low X_high Y_low Y_high F_mined F_number F_state F_cellsIn F_unknownNear F_hitNear F_moveStart F_changed F_waiting F_seen G_near G_nearEnd B_chosen B_partOf B_rest B_unknowns B_partStart B_cells S_minedSet S_safeSet S_partSet S_tally S_askedTally S_groupOf S_groupSize S_links S_linkEnd S_pick S_groupMinedSet S_groupSafeSet O_sums O_nextSums R_found R_openEnds R_need R_waiting R_waits R_common R_met A_number Q_mined Q_all Q_choices Q_term Q_divisor Q_spare X_limbs X_sum Y_limbs Y_sum) ∧ post z9) := by
  refine mZ_of (lv0 := [(0, .ref (ad 3)), (1, .int (iI x1))]) (by decide) (Nat.le_of_ble_eq_true rfl) rfl ?_
  intro p e s m args below meth c Q A C ret
  replace C : Cx p ({ frames := 2, cells := 0, slots := 0, locals := 120 } : Room) m c 0 0 cX1_canChoose 2 s args RX1 K A := C
  unfold P_X1_canChoose at h
  refine wa_aload_n C 0 rfl dX1_canChoose_0 rfl ?_
  refine wa_getR C 3 0 dW_3 rfl rfl (by decide) okX1 gw_156 dX1_canChoose_1 ?_
  refine wa_getR C 1 3 dW_1 rfl rfl (by decide) okX2 gw_97 dX1_canChoose_4 ?_
  refine wa_iload_n C 1 rfl dX1_canChoose_7 rfl ?_
  obtain ⟨t_1, h⟩ := h
  refine wa_iald C 14 dW_14 dX1_canChoose_8 t_1.1 t_1.2 (fun v_2 ev_2 rv_2 => ?_)
  replace h := h v_2 ev_2 rv_2
  refine wa_iconst C (z := 2) dX1_canChoose_9 rfl ?_
  obtain ⟨J_3, h, hJ_3⟩ := h
  have k_4 : ∀ (z_5 : Int), inR z_5 → J_3 z_5 → WA p l e ({ frames := 2, cells := 0, slots := 0, locals := 120 } : Room) s m args below meth c 0 0 Q K ad 2 A 30 [] [.int (iI z_5)] (dW D_hasBoard D_beganBlank F_mines F_moves F_changes G_width G_height G_size B_parts B_longest S_groups S_askedGroup S_taken R_waitingCount R_metCount A_grade A_cell A_mined A_withTotal A_numbers X_low X_high Y_low Y_high F_mined F_number F_state F_cellsIn F_unknownNear F_hitNear F_moveStart F_changed F_waiting F_seen G_near G_nearEnd B_chosen B_partOf B_rest B_unknowns B_partStart B_cells S_minedSet S_safeSet S_partSet S_tally S_askedTally S_groupOf S_groupSize S_links S_linkEnd S_pick S_groupMinedSet S_groupSafeSet O_sums O_nextSums R_found R_openEnds R_need R_waiting R_waits R_common R_met A_number Q_mined Q_all Q_choices Q_term Q_divisor Q_spare X_limbs X_sum Y_limbs Y_sum) := by
    intro z_5 rz_5 h
    replace h := hJ_3 z_5 rz_5 h
    obtain ⟨b_6, h⟩ := h
    exact ret dX1_canChoose_30 b_6 ⟨b_6, rfl, h⟩
  obtain ⟨J_7, h, hJ_7⟩ := h
  have k_8 : J_7 → WA p l e ({ frames := 2, cells := 0, slots := 0, locals := 120 } : Room) s m args below meth c 0 0 Q K ad 2 A 29 [] [] (dW D_hasBoard D_beganBlank F_mines F_moves F_changes G_width G_height G_size B_parts B_longest S_groups S_askedGroup S_taken R_waitingCount R_metCount A_grade A_cell A_mined A_withTotal A_numbers X_low X_high Y_low Y_high F_mined F_number F_state F_cellsIn F_unknownNear F_hitNear F_moveStart F_changed F_waiting F_seen G_near G_nearEnd B_chosen B_partOf B_rest B_unknowns B_partStart B_cells S_minedSet S_safeSet S_partSet S_tally S_askedTally S_groupOf S_groupSize S_links S_linkEnd S_pick S_groupMinedSet S_groupSafeSet O_sums O_nextSums R_found R_openEnds R_need R_waiting R_waits R_common R_met A_number Q_mined Q_all Q_choices Q_term Q_divisor Q_spare X_limbs X_sum Y_limbs Y_sum) := by
    intro h
    replace h := hJ_7 h
    refine wa_iconst C (z := 0) dX1_canChoose_29 rfl ?_
    refine wa_sub C [] rfl ?_
    exact k_4 0 (inR_k 0 rfl) h
  refine wa_icmp_ne C (tgt := 29) rv_2 (inR_k 2 rfl) dX1_canChoose_10 (by decide) (fun c_9 => ?_) (fun c_9 => ?_)
  · replace h := h.1 c_9
    refine wa_sub C [] rfl ?_
    exact k_8 h
  · replace h := h.2 c_9
    refine wa_aload_n C 0 rfl dX1_canChoose_13 rfl ?_
    refine wa_getR C 3 0 dW_3 rfl rfl (by decide) okX1 gw_156 dX1_canChoose_14 ?_
    refine wa_getR C 1 5 dW_1 rfl rfl (by decide) okX2 gw_105 dX1_canChoose_17 ?_
    refine wa_iload_n C 1 rfl dX1_canChoose_20 rfl ?_
    obtain ⟨t_10, h⟩ := h
    refine wa_iald C 16 dW_16 dX1_canChoose_21 t_10.1 t_10.2 (fun v_11 ev_11 rv_11 => ?_)
    replace h := h v_11 ev_11 rv_11
    refine wa_if_le C (tgt := 29) rv_11 dX1_canChoose_22 (by decide) (fun c_12 => ?_) (fun c_12 => ?_)
    · replace h := h.1 c_12
      refine wa_sub C [] rfl ?_
      exact k_8 h
    · replace h := h.2 c_12
      refine wa_iconst C (z := 1) dX1_canChoose_25 rfl ?_
      refine wa_goto C (tgt := 30) dX1_canChoose_26 (by decide) ?_
      refine wa_sub C [] rfl ?_
      exact k_4 1 (inR_k 1 rfl) h
def P_X1_chooseAll (post : (Int → Int) → Prop) (G_size : Int) (F_state : Int → Int) (F_unknownNear : Int → Int) (B_chosen : Int → Int) : Prop :=
  ∃ Inv_1 : Nat → (Int) → (Int → Int) → Prop, (∃ n_2 : Nat, Inv_1 n_2 0 B_chosen) ∧ ∀ (n_3 : Nat) (x1_6 : Int) (B_chosen_7 : Int → Int), inR x1_6 → Inv_1 n_3 x1_6 B_chosen_7 → ((G_size ≤ x1_6 → (post B_chosen_7)) ∧ (¬ G_size ≤ x1_6 → (P_X1_canChoose (fun (c_10 : Int) => (c_10 = 0 ∨ c_10 = 1) → ((0 ≤ x1_6 ∧ x1_6 < 144) ∧ (∀ B_chosen_12 : Int → Int, B_chosen_12 = upZ B_chosen_7 x1_6 c_10 → (inR (x1_6 + 1) ∧ (∀ x1_14 : Int, x1_14 = (x1_6 + 1) → (∃ n_15 : Nat, n_15 < n_3 ∧ Inv_1 n_15 x1_14 B_chosen_12)))))) F_state F_unknownNear x1_6)))
set_option maxRecDepth 100000 in
set_option maxHeartbeats 4000000 in
theorem c_X1_chooseAll (l : Launch) (K : wK) (ad : Nat → Nat) {D_hasBoard : Int} {D_beganBlank : Int} {F_mines : Int} {F_moves : Int} {F_changes : Int} {G_width : Int} {G_height : Int} {G_size : Int} {B_parts : Int} {B_longest : Int} {S_groups : Int} {S_askedGroup : Int} {S_taken : Int} {R_waitingCount : Int} {R_metCount : Int} {A_grade : Int} {A_cell : Int} {A_mined : Int} {A_withTotal : Int} {A_numbers : Int} {X_low : Int} {X_high : Int} {Y_low : Int} {Y_high : Int} {F_mined : Int → Int} {F_number : Int → Int} {F_state : Int → Int} {F_cellsIn : Int → Int} {F_unknownNear : Int → Int} {F_hitNear : Int → Int} {F_moveStart : Int → Int} {F_changed : Int → Int} {F_waiting : Int → Int} {F_seen : Int → Int} {G_near : Int → Int} {G_nearEnd : Int → Int} {B_chosen : Int → Int} {B_partOf : Int → Int} {B_rest : Int → Int} {B_unknowns : Int → Int} {B_partStart : Int → Int} {B_cells : Int → Int} {S_minedSet : Int → Int} {S_safeSet : Int → Int} {S_partSet : Int → Int} {S_tally : Int → Int} {S_askedTally : Int → Int} {S_groupOf : Int → Int} {S_groupSize : Int → Int} {S_links : Int → Int} {S_linkEnd : Int → Int} {S_pick : Int → Int} {S_groupMinedSet : Int → Int} {S_groupSafeSet : Int → Int} {O_sums : Int → Int64} {O_nextSums : Int → Int64} {R_found : Int → Int} {R_openEnds : Int → Int} {R_need : Int → Int} {R_waiting : Int → Int} {R_waits : Int → Int} {R_common : Int → Int} {R_met : Int → Int} {A_number : Int → Int} {Q_mined : Int → Int64} {Q_all : Int → Int64} {Q_choices : Int → Int64} {Q_term : Int → Int64} {Q_divisor : Int → Int64} {Q_spare : Int → Int64} {X_limbs : Int → Int64} {X_sum : Int → Int64} {Y_limbs : Int → Int64} {Y_sum : Int → Int64}   (post : (Int → Int) → Prop) (h : P_X1_chooseAll post G_size F_state F_unknownNear B_chosen) : mV l yX1_chooseAll (Cond.code yX1_chooseAll cX1_chooseAll 2 none :: GT) ({ frames := 3, cells := 0, slots := 0, locals := 180 } : Room) [.ref (ad 3)] K ad (dW D_hasBoard D_beganBlank F_mines F_moves F_changes G_width G_height G_size B_parts B_longest S_groups S_askedGroup S_taken R_waitingCount R_metCount A_grade A_cell A_mined A_withTotal A_numbers X_low X_high Y_low Y_high F_mined F_number F_state F_cellsIn F_unknownNear F_hitNear F_moveStart F_changed F_waiting F_seen G_near G_nearEnd B_chosen B_partOf B_rest B_unknowns B_partStart B_cells S_minedSet S_safeSet S_partSet S_tally S_askedTally S_groupOf S_groupSize S_links S_linkEnd S_pick S_groupMinedSet S_groupSafeSet O_sums O_nextSums R_found R_openEnds R_need R_waiting R_waits R_common R_met A_number Q_mined Q_all Q_choices Q_term Q_divisor Q_spare X_limbs X_sum Y_limbs Y_sum) (fun u9 => ∃ B_chosen9, u9 = (dW D_hasBoard D_beganBlank F_mines F_moves F_changes G_width G_height G_size B_parts B_longest S_groups S_askedGroup S_taken R_waitingCount R_metCount A_grade A_cell A_mined A_withTotal A_numbers X_low X_high Y_low Y_high F_mined F_number F_state F_cellsIn F_unknownNear F_hitNear F_moveStart F_changed F_waiting F_seen G_near G_nearEnd B_chosen9 B_partOf B_rest B_unknowns B_partStart B_cells S_minedSet S_safeSet S_partSet S_tally S_askedTally S_groupOf S_groupSize S_links S_linkEnd S_pick S_groupMinedSet S_groupSafeSet O_sums O_nextSums R_found R_openEnds R_need R_waiting R_waits R_common R_met A_number Q_mined Q_all Q_choices Q_term Q_divisor Q_spare X_limbs X_sum Y_limbs Y_sum) ∧ post B_chosen9) := by
  refine mV_of (lv0 := [(0, .ref (ad 3))]) (by decide) (Nat.le_of_ble_eq_true rfl) rfl ?_
  intro p e s m args below meth c Q A C ret
  replace C : Cx p ({ frames := 3, cells := 0, slots := 0, locals := 180 } : Room) m c 0 0 cX1_chooseAll 2 s args RX1 K A := C
  unfold P_X1_chooseAll at h
  refine wa_iconst C (z := 0) dX1_chooseAll_0 rfl ?_
  refine wa_istore_n C dX1_chooseAll_1 rfl (by decide) rfl ?_
  obtain ⟨Inv_1, ⟨n_2, h0Inv_1⟩, hInv_1⟩ := h
  have k_5 : ∀ (n_3 : Nat) (x1_6 : Int) (B_chosen_7 : Int → Int), inR x1_6 → Inv_1 n_3 x1_6 B_chosen_7 → WA p l e ({ frames := 3, cells := 0, slots := 0, locals := 180 } : Room) s m args below meth c 0 0 Q K ad 2 A 2 [(0, .ref (ad 3)), (1, .int (iI x1_6))] [] (dW D_hasBoard D_beganBlank F_mines F_moves F_changes G_width G_height G_size B_parts B_longest S_groups S_askedGroup S_taken R_waitingCount R_metCount A_grade A_cell A_mined A_withTotal A_numbers X_low X_high Y_low Y_high F_mined F_number F_state F_cellsIn F_unknownNear F_hitNear F_moveStart F_changed F_waiting F_seen G_near G_nearEnd B_chosen_7 B_partOf B_rest B_unknowns B_partStart B_cells S_minedSet S_safeSet S_partSet S_tally S_askedTally S_groupOf S_groupSize S_links S_linkEnd S_pick S_groupMinedSet S_groupSafeSet O_sums O_nextSums R_found R_openEnds R_need R_waiting R_waits R_common R_met A_number Q_mined Q_all Q_choices Q_term Q_divisor Q_spare X_limbs X_sum Y_limbs Y_sum) := by
    intro n_3
    induction n_3 using Nat.strongRecOn with
    | ind n_3 ih_4 =>
      intro x1_6 B_chosen_7 rx1_6 h
      replace h := hInv_1 n_3 x1_6 B_chosen_7 rx1_6 h
      refine wa_iload_n C 1 rfl dX1_chooseAll_2 rfl ?_
      refine wa_aload_n C 0 rfl dX1_chooseAll_3 rfl ?_
      refine wa_getR C 3 1 dW_3 rfl rfl (by decide) okX1 gw_158 dX1_chooseAll_4 ?_
      refine wa_getI C 2 2 dW_2 rfl rfl (by decide) okX3 gw_52 dX1_chooseAll_7 (fun r_8 => ?_)
      refine wa_icmp_ge C (tgt := 30) rx1_6 r_8 dX1_chooseAll_10 (by decide) (fun c_9 => ?_) (fun c_9 => ?_)
      · replace h := h.1 c_9
        exact ret dX1_chooseAll_30 ⟨_, rfl, h⟩
      · replace h := h.2 c_9
        refine wa_aload_n C 0 rfl dX1_chooseAll_13 rfl ?_
        refine wa_getR C 3 2 dW_3 rfl rfl (by decide) okX1 gw_160 dX1_chooseAll_14 ?_
        refine wa_iload_n C 1 rfl dX1_chooseAll_17 rfl ?_
        refine wa_aload_n C 0 rfl dX1_chooseAll_18 rfl ?_
        refine wa_iload_n C 1 rfl dX1_chooseAll_19 rfl ?_
        refine wa_callVi C (k := 3) (As := [.int (iI x1_6)]) (rest := [.int (iI x1_6), .ref (ad 24)]) (c_X1_canChoose l K ad x1_6 rx1_6 _ h) gw_728 gw_725 dW_3 rfl gw_726 gw_727 gw_4 q_X1_canChoose rfl rfl rfl ⟨by decide, by decide⟩ rfl (Nat.le_of_ble_eq_true rfl) dX1_chooseAll_20 (fun c_10 u9 rc_10 hp => ?_)
        obtain ⟨bc_10, rfl, h⟩ := hp
        replace h := h bc_10
        obtain ⟨t_11, h⟩ := h
        refine wa_bast C (ws' := fun w9 => (dW D_hasBoard D_beganBlank F_mines F_moves F_changes G_width G_height G_size B_parts B_longest S_groups S_askedGroup S_taken R_waitingCount R_metCount A_grade A_cell A_mined A_withTotal A_numbers X_low X_high Y_low Y_high F_mined F_number F_state F_cellsIn F_unknownNear F_hitNear F_moveStart F_changed F_waiting F_seen G_near G_nearEnd w9 B_partOf B_rest B_unknowns B_partStart B_cells S_minedSet S_safeSet S_partSet S_tally S_askedTally S_groupOf S_groupSize S_links S_linkEnd S_pick S_groupMinedSet S_groupSafeSet O_sums O_nextSums R_found R_openEnds R_need R_waiting R_waits R_common R_met A_number Q_mined Q_all Q_choices Q_term Q_divisor Q_spare X_limbs X_sum Y_limbs Y_sum)) 24 dW_24 dX1_chooseAll_23 t_11.1 t_11.2 bc_10 dWs_24 (fun B_chosen_12 eB_chosen_12 => ?_)
        replace h := h B_chosen_12 eB_chosen_12
        obtain ⟨r_13, h⟩ := h
        refine wa_iinc C (lv' := fun w9 => [(1, .int (iI w9)), (0, .ref (ad 3))]) 1 rfl dX1_chooseAll_24 (by decide) (fun _ => rfl) (fun x1_14 ex1_14 => ?_)
        replace h := h x1_14 ex1_14
        have rx1_14 : inR x1_14 := by rw [ex1_14]; exact r_13
        refine wa_goto C (tgt := 2) dX1_chooseAll_27 (by decide) ?_
        obtain ⟨n_15, ln_15, h⟩ := h
        refine wa_sub C [1, 0] rfl ?_
        exact ih_4 n_15 ln_15 x1_14 B_chosen_12 rx1_14 h
  refine wa_sub C [1, 0] rfl ?_
  exact k_5 n_2 0 B_chosen (inR_k 0 rfl) h0Inv_1
def P_X1_chooseNone (post : (Int → Int) → Prop) (B_chosen : Int → Int) : Prop :=
  ∃ Inv_1 : Nat → (Int) → (Int → Int) → Prop, (∃ n_2 : Nat, Inv_1 n_2 0 B_chosen) ∧ ∀ (n_3 : Nat) (x1_6 : Int) (B_chosen_7 : Int → Int), inR x1_6 → Inv_1 n_3 x1_6 B_chosen_7 → ((144 ≤ x1_6 → (post B_chosen_7)) ∧ (¬ 144 ≤ x1_6 → ((0 ≤ x1_6 ∧ x1_6 < 144) ∧ (∀ B_chosen_10 : Int → Int, B_chosen_10 = upZ B_chosen_7 x1_6 0 → (inR (x1_6 + 1) ∧ (∀ x1_12 : Int, x1_12 = (x1_6 + 1) → (∃ n_13 : Nat, n_13 < n_3 ∧ Inv_1 n_13 x1_12 B_chosen_10)))))))
set_option maxRecDepth 100000 in
set_option maxHeartbeats 4000000 in
theorem c_X1_chooseNone (l : Launch) (K : wK) (ad : Nat → Nat) {D_hasBoard : Int} {D_beganBlank : Int} {F_mines : Int} {F_moves : Int} {F_changes : Int} {G_width : Int} {G_height : Int} {G_size : Int} {B_parts : Int} {B_longest : Int} {S_groups : Int} {S_askedGroup : Int} {S_taken : Int} {R_waitingCount : Int} {R_metCount : Int} {A_grade : Int} {A_cell : Int} {A_mined : Int} {A_withTotal : Int} {A_numbers : Int} {X_low : Int} {X_high : Int} {Y_low : Int} {Y_high : Int} {F_mined : Int → Int} {F_number : Int → Int} {F_state : Int → Int} {F_cellsIn : Int → Int} {F_unknownNear : Int → Int} {F_hitNear : Int → Int} {F_moveStart : Int → Int} {F_changed : Int → Int} {F_waiting : Int → Int} {F_seen : Int → Int} {G_near : Int → Int} {G_nearEnd : Int → Int} {B_chosen : Int → Int} {B_partOf : Int → Int} {B_rest : Int → Int} {B_unknowns : Int → Int} {B_partStart : Int → Int} {B_cells : Int → Int} {S_minedSet : Int → Int} {S_safeSet : Int → Int} {S_partSet : Int → Int} {S_tally : Int → Int} {S_askedTally : Int → Int} {S_groupOf : Int → Int} {S_groupSize : Int → Int} {S_links : Int → Int} {S_linkEnd : Int → Int} {S_pick : Int → Int} {S_groupMinedSet : Int → Int} {S_groupSafeSet : Int → Int} {O_sums : Int → Int64} {O_nextSums : Int → Int64} {R_found : Int → Int} {R_openEnds : Int → Int} {R_need : Int → Int} {R_waiting : Int → Int} {R_waits : Int → Int} {R_common : Int → Int} {R_met : Int → Int} {A_number : Int → Int} {Q_mined : Int → Int64} {Q_all : Int → Int64} {Q_choices : Int → Int64} {Q_term : Int → Int64} {Q_divisor : Int → Int64} {Q_spare : Int → Int64} {X_limbs : Int → Int64} {X_sum : Int → Int64} {Y_limbs : Int → Int64} {Y_sum : Int → Int64}   (post : (Int → Int) → Prop) (h : P_X1_chooseNone post B_chosen) : mV l yX1_chooseNone (Cond.code yX1_chooseNone cX1_chooseNone 2 none :: GT) ({ frames := 2, cells := 0, slots := 0, locals := 120 } : Room) [.ref (ad 3)] K ad (dW D_hasBoard D_beganBlank F_mines F_moves F_changes G_width G_height G_size B_parts B_longest S_groups S_askedGroup S_taken R_waitingCount R_metCount A_grade A_cell A_mined A_withTotal A_numbers X_low X_high Y_low Y_high F_mined F_number F_state F_cellsIn F_unknownNear F_hitNear F_moveStart F_changed F_waiting F_seen G_near G_nearEnd B_chosen B_partOf B_rest B_unknowns B_partStart B_cells S_minedSet S_safeSet S_partSet S_tally S_askedTally S_groupOf S_groupSize S_links S_linkEnd S_pick S_groupMinedSet S_groupSafeSet O_sums O_nextSums R_found R_openEnds R_need R_waiting R_waits R_common R_met A_number Q_mined Q_all Q_choices Q_term Q_divisor Q_spare X_limbs X_sum Y_limbs Y_sum) (fun u9 => ∃ B_chosen9, u9 = (dW D_hasBoard D_beganBlank F_mines F_moves F_changes G_width G_height G_size B_parts B_longest S_groups S_askedGroup S_taken R_waitingCount R_metCount A_grade A_cell A_mined A_withTotal A_numbers X_low X_high Y_low Y_high F_mined F_number F_state F_cellsIn F_unknownNear F_hitNear F_moveStart F_changed F_waiting F_seen G_near G_nearEnd B_chosen9 B_partOf B_rest B_unknowns B_partStart B_cells S_minedSet S_safeSet S_partSet S_tally S_askedTally S_groupOf S_groupSize S_links S_linkEnd S_pick S_groupMinedSet S_groupSafeSet O_sums O_nextSums R_found R_openEnds R_need R_waiting R_waits R_common R_met A_number Q_mined Q_all Q_choices Q_term Q_divisor Q_spare X_limbs X_sum Y_limbs Y_sum) ∧ post B_chosen9) := by
  refine mV_of (lv0 := [(0, .ref (ad 3))]) (by decide) (Nat.le_of_ble_eq_true rfl) rfl ?_
  intro p e s m args below meth c Q A C ret
  replace C : Cx p ({ frames := 2, cells := 0, slots := 0, locals := 120 } : Room) m c 0 0 cX1_chooseNone 2 s args RX1 K A := C
  unfold P_X1_chooseNone at h
  refine wa_iconst C (z := 0) dX1_chooseNone_0 rfl ?_
  refine wa_istore_n C dX1_chooseNone_1 rfl (by decide) rfl ?_
  obtain ⟨Inv_1, ⟨n_2, h0Inv_1⟩, hInv_1⟩ := h
  have k_5 : ∀ (n_3 : Nat) (x1_6 : Int) (B_chosen_7 : Int → Int), inR x1_6 → Inv_1 n_3 x1_6 B_chosen_7 → WA p l e ({ frames := 2, cells := 0, slots := 0, locals := 120 } : Room) s m args below meth c 0 0 Q K ad 2 A 2 [(0, .ref (ad 3)), (1, .int (iI x1_6))] [] (dW D_hasBoard D_beganBlank F_mines F_moves F_changes G_width G_height G_size B_parts B_longest S_groups S_askedGroup S_taken R_waitingCount R_metCount A_grade A_cell A_mined A_withTotal A_numbers X_low X_high Y_low Y_high F_mined F_number F_state F_cellsIn F_unknownNear F_hitNear F_moveStart F_changed F_waiting F_seen G_near G_nearEnd B_chosen_7 B_partOf B_rest B_unknowns B_partStart B_cells S_minedSet S_safeSet S_partSet S_tally S_askedTally S_groupOf S_groupSize S_links S_linkEnd S_pick S_groupMinedSet S_groupSafeSet O_sums O_nextSums R_found R_openEnds R_need R_waiting R_waits R_common R_met A_number Q_mined Q_all Q_choices Q_term Q_divisor Q_spare X_limbs X_sum Y_limbs Y_sum) := by
    intro n_3
    induction n_3 using Nat.strongRecOn with
    | ind n_3 ih_4 =>
      intro x1_6 B_chosen_7 rx1_6 h
      replace h := hInv_1 n_3 x1_6 B_chosen_7 rx1_6 h
      refine wa_iload_n C 1 rfl dX1_chooseNone_2 rfl ?_
      refine wa_sipush C (z := 144) dX1_chooseNone_3 (by decide) ?_
      refine wa_icmp_ge C (tgt := 22) rx1_6 (inR_k 144 rfl) dX1_chooseNone_6 (by decide) (fun c_8 => ?_) (fun c_8 => ?_)
      · replace h := h.1 c_8
        exact ret dX1_chooseNone_22 ⟨_, rfl, h⟩
      · replace h := h.2 c_8
        refine wa_aload_n C 0 rfl dX1_chooseNone_9 rfl ?_
        refine wa_getR C 3 2 dW_3 rfl rfl (by decide) okX1 gw_160 dX1_chooseNone_10 ?_
        refine wa_iload_n C 1 rfl dX1_chooseNone_13 rfl ?_
        refine wa_iconst C (z := 0) dX1_chooseNone_14 rfl ?_
        obtain ⟨t_9, h⟩ := h
        refine wa_bast C (ws' := fun w9 => (dW D_hasBoard D_beganBlank F_mines F_moves F_changes G_width G_height G_size B_parts B_longest S_groups S_askedGroup S_taken R_waitingCount R_metCount A_grade A_cell A_mined A_withTotal A_numbers X_low X_high Y_low Y_high F_mined F_number F_state F_cellsIn F_unknownNear F_hitNear F_moveStart F_changed F_waiting F_seen G_near G_nearEnd w9 B_partOf B_rest B_unknowns B_partStart B_cells S_minedSet S_safeSet S_partSet S_tally S_askedTally S_groupOf S_groupSize S_links S_linkEnd S_pick S_groupMinedSet S_groupSafeSet O_sums O_nextSums R_found R_openEnds R_need R_waiting R_waits R_common R_met A_number Q_mined Q_all Q_choices Q_term Q_divisor Q_spare X_limbs X_sum Y_limbs Y_sum)) 24 dW_24 dX1_chooseNone_15 t_9.1 t_9.2 (Or.inl rfl) dWs_24 (fun B_chosen_10 eB_chosen_10 => ?_)
        replace h := h B_chosen_10 eB_chosen_10
        obtain ⟨r_11, h⟩ := h
        refine wa_iinc C (lv' := fun w9 => [(1, .int (iI w9)), (0, .ref (ad 3))]) 1 rfl dX1_chooseNone_16 (by decide) (fun _ => rfl) (fun x1_12 ex1_12 => ?_)
        replace h := h x1_12 ex1_12
        have rx1_12 : inR x1_12 := by rw [ex1_12]; exact r_11
        refine wa_goto C (tgt := 2) dX1_chooseNone_19 (by decide) ?_
        obtain ⟨n_13, ln_13, h⟩ := h
        refine wa_sub C [1, 0] rfl ?_
        exact ih_4 n_13 ln_13 x1_12 B_chosen_10 rx1_12 h
  refine wa_sub C [1, 0] rfl ?_
  exact k_5 n_2 0 B_chosen (inR_k 0 rfl) h0Inv_1
def P_X1_keepPart (post : (Int → Int) → Prop) (G_size : Int) (B_chosen : Int → Int) (B_partOf : Int → Int) (x1 : Int) : Prop :=
  ∃ Inv_1 : Nat → (Int) → (Int → Int) → Prop, (∃ n_2 : Nat, Inv_1 n_2 0 B_chosen) ∧ ∀ (n_3 : Nat) (x2_6 : Int) (B_chosen_7 : Int → Int), inR x2_6 → Inv_1 n_3 x2_6 B_chosen_7 → ((G_size ≤ x2_6 → (post B_chosen_7)) ∧ (¬ G_size ≤ x2_6 → ((0 ≤ x2_6 ∧ x2_6 < 144) ∧ (∀ v_11 : Int, v_11 = B_chosen_7 x2_6 → (v_11 = 0 ∨ v_11 = 1) → (∃ J_12 : (Int) → Prop, (∃ J_21 : Prop, ((v_11 = 0 → (J_21)) ∧ (¬ v_11 = 0 → ((0 ≤ x2_6 ∧ x2_6 < 144) ∧ (∀ v_25 : Int, v_25 = B_partOf x2_6 → inR v_25 → ((¬ v_25 = x1 → (J_21)) ∧ (v_25 = x1 → (J_12 1))))))) ∧ (J_21 → (J_12 0))) ∧ (∀ (z_14 : Int), inR z_14 → J_12 z_14 → ((0 ≤ x2_6 ∧ x2_6 < 144) ∧ ((z_14 = 0 ∨ z_14 = 1) ∧ (∀ B_chosen_17 : Int → Int, B_chosen_17 = upZ B_chosen_7 x2_6 z_14 → (inR (x2_6 + 1) ∧ (∀ x2_19 : Int, x2_19 = (x2_6 + 1) → (∃ n_20 : Nat, n_20 < n_3 ∧ Inv_1 n_20 x2_19 B_chosen_17))))))))))))
set_option maxRecDepth 100000 in
set_option maxHeartbeats 4000000 in
theorem c_X1_keepPart (l : Launch) (K : wK) (ad : Nat → Nat) {D_hasBoard : Int} {D_beganBlank : Int} {F_mines : Int} {F_moves : Int} {F_changes : Int} {G_width : Int} {G_height : Int} {G_size : Int} {B_parts : Int} {B_longest : Int} {S_groups : Int} {S_askedGroup : Int} {S_taken : Int} {R_waitingCount : Int} {R_metCount : Int} {A_grade : Int} {A_cell : Int} {A_mined : Int} {A_withTotal : Int} {A_numbers : Int} {X_low : Int} {X_high : Int} {Y_low : Int} {Y_high : Int} {F_mined : Int → Int} {F_number : Int → Int} {F_state : Int → Int} {F_cellsIn : Int → Int} {F_unknownNear : Int → Int} {F_hitNear : Int → Int} {F_moveStart : Int → Int} {F_changed : Int → Int} {F_waiting : Int → Int} {F_seen : Int → Int} {G_near : Int → Int} {G_nearEnd : Int → Int} {B_chosen : Int → Int} {B_partOf : Int → Int} {B_rest : Int → Int} {B_unknowns : Int → Int} {B_partStart : Int → Int} {B_cells : Int → Int} {S_minedSet : Int → Int} {S_safeSet : Int → Int} {S_partSet : Int → Int} {S_tally : Int → Int} {S_askedTally : Int → Int} {S_groupOf : Int → Int} {S_groupSize : Int → Int} {S_links : Int → Int} {S_linkEnd : Int → Int} {S_pick : Int → Int} {S_groupMinedSet : Int → Int} {S_groupSafeSet : Int → Int} {O_sums : Int → Int64} {O_nextSums : Int → Int64} {R_found : Int → Int} {R_openEnds : Int → Int} {R_need : Int → Int} {R_waiting : Int → Int} {R_waits : Int → Int} {R_common : Int → Int} {R_met : Int → Int} {A_number : Int → Int} {Q_mined : Int → Int64} {Q_all : Int → Int64} {Q_choices : Int → Int64} {Q_term : Int → Int64} {Q_divisor : Int → Int64} {Q_spare : Int → Int64} {X_limbs : Int → Int64} {X_sum : Int → Int64} {Y_limbs : Int → Int64} {Y_sum : Int → Int64} (x1 : Int) (rx1 : inR x1) (post : (Int → Int) → Prop) (h : P_X1_keepPart post G_size B_chosen B_partOf x1) : mV l yX1_keepPart (Cond.code yX1_keepPart cX1_keepPart 3 none :: GT) ({ frames := 2, cells := 0, slots := 0, locals := 120 } : Room) [.ref (ad 3), .int (iI x1)] K ad (dW D_hasBoard D_beganBlank F_mines F_moves F_changes G_width G_height G_size B_parts B_longest S_groups S_askedGroup S_taken R_waitingCount R_metCount A_grade A_cell A_mined A_withTotal A_numbers X_low X_high Y_low Y_high F_mined F_number F_state F_cellsIn F_unknownNear F_hitNear F_moveStart F_changed F_waiting F_seen G_near G_nearEnd B_chosen B_partOf B_rest B_unknowns B_partStart B_cells S_minedSet S_safeSet S_partSet S_tally S_askedTally S_groupOf S_groupSize S_links S_linkEnd S_pick S_groupMinedSet S_groupSafeSet O_sums O_nextSums R_found R_openEnds R_need R_waiting R_waits R_common R_met A_number Q_mined Q_all Q_choices Q_term Q_divisor Q_spare X_limbs X_sum Y_limbs Y_sum) (fun u9 => ∃ B_chosen9, u9 = (dW D_hasBoard D_beganBlank F_mines F_moves F_changes G_width G_height G_size B_parts B_longest S_groups S_askedGroup S_taken R_waitingCount R_metCount A_grade A_cell A_mined A_withTotal A_numbers X_low X_high Y_low Y_high F_mined F_number F_state F_cellsIn F_unknownNear F_hitNear F_moveStart F_changed F_waiting F_seen G_near G_nearEnd B_chosen9 B_partOf B_rest B_unknowns B_partStart B_cells S_minedSet S_safeSet S_partSet S_tally S_askedTally S_groupOf S_groupSize S_links S_linkEnd S_pick S_groupMinedSet S_groupSafeSet O_sums O_nextSums R_found R_openEnds R_need R_waiting R_waits R_common R_met A_number Q_mined Q_all Q_choices Q_term Q_divisor Q_spare X_limbs X_sum Y_limbs Y_sum) ∧ post B_chosen9) := by
  refine mV_of (lv0 := [(0, .ref (ad 3)), (1, .int (iI x1))]) (by decide) (Nat.le_of_ble_eq_true rfl) rfl ?_
  intro p e s m args below meth c Q A C ret
  replace C : Cx p ({ frames := 2, cells := 0, slots := 0, locals := 120 } : Room) m c 0 0 cX1_keepPart 3 s args RX1 K A := C
  unfold P_X1_keepPart at h
  refine wa_iconst C (z := 0) dX1_keepPart_0 rfl ?_
  refine wa_istore_n C dX1_keepPart_1 rfl (by decide) rfl ?_
  obtain ⟨Inv_1, ⟨n_2, h0Inv_1⟩, hInv_1⟩ := h
  have k_5 : ∀ (n_3 : Nat) (x2_6 : Int) (B_chosen_7 : Int → Int), inR x2_6 → Inv_1 n_3 x2_6 B_chosen_7 → WA p l e ({ frames := 2, cells := 0, slots := 0, locals := 120 } : Room) s m args below meth c 0 0 Q K ad 3 A 2 [(0, .ref (ad 3)), (1, .int (iI x1)), (2, .int (iI x2_6))] [] (dW D_hasBoard D_beganBlank F_mines F_moves F_changes G_width G_height G_size B_parts B_longest S_groups S_askedGroup S_taken R_waitingCount R_metCount A_grade A_cell A_mined A_withTotal A_numbers X_low X_high Y_low Y_high F_mined F_number F_state F_cellsIn F_unknownNear F_hitNear F_moveStart F_changed F_waiting F_seen G_near G_nearEnd B_chosen_7 B_partOf B_rest B_unknowns B_partStart B_cells S_minedSet S_safeSet S_partSet S_tally S_askedTally S_groupOf S_groupSize S_links S_linkEnd S_pick S_groupMinedSet S_groupSafeSet O_sums O_nextSums R_found R_openEnds R_need R_waiting R_waits R_common R_met A_number Q_mined Q_all Q_choices Q_term Q_divisor Q_spare X_limbs X_sum Y_limbs Y_sum) := by
    intro n_3
    induction n_3 using Nat.strongRecOn with
    | ind n_3 ih_4 =>
      intro x2_6 B_chosen_7 rx2_6 h
      replace h := hInv_1 n_3 x2_6 B_chosen_7 rx2_6 h
      refine wa_iload_n C 2 rfl dX1_keepPart_2 rfl ?_
      refine wa_aload_n C 0 rfl dX1_keepPart_3 rfl ?_
      refine wa_getR C 3 1 dW_3 rfl rfl (by decide) okX1 gw_158 dX1_keepPart_4 ?_
      refine wa_getI C 2 2 dW_2 rfl rfl (by decide) okX3 gw_52 dX1_keepPart_7 (fun r_8 => ?_)
      refine wa_icmp_ge C (tgt := 49) rx2_6 r_8 dX1_keepPart_10 (by decide) (fun c_9 => ?_) (fun c_9 => ?_)
      · replace h := h.1 c_9
        exact ret dX1_keepPart_49 ⟨_, rfl, h⟩
      · replace h := h.2 c_9
        refine wa_aload_n C 0 rfl dX1_keepPart_13 rfl ?_
        refine wa_getR C 3 2 dW_3 rfl rfl (by decide) okX1 gw_160 dX1_keepPart_14 ?_
        refine wa_iload_n C 2 rfl dX1_keepPart_17 rfl ?_
        refine wa_aload_n C 0 rfl dX1_keepPart_18 rfl ?_
        refine wa_getR C 3 2 dW_3 rfl rfl (by decide) okX1 gw_160 dX1_keepPart_19 ?_
        refine wa_iload_n C 2 rfl dX1_keepPart_22 rfl ?_
        obtain ⟨t_10, h⟩ := h
        refine wa_bald C 24 dW_24 dX1_keepPart_23 t_10.1 t_10.2 (fun v_11 ev_11 rv_11 => ?_)
        replace h := h v_11 ev_11 rv_11
        obtain ⟨J_12, h, hJ_12⟩ := h
        have k_13 : ∀ (z_14 : Int), inR z_14 → J_12 z_14 → WA p l e ({ frames := 2, cells := 0, slots := 0, locals := 120 } : Room) s m args below meth c 0 0 Q K ad 3 A 42 [(0, .ref (ad 3)), (1, .int (iI x1)), (2, .int (iI x2_6))] [.int (iI z_14), .int (iI x2_6), .ref (ad 24)] (dW D_hasBoard D_beganBlank F_mines F_moves F_changes G_width G_height G_size B_parts B_longest S_groups S_askedGroup S_taken R_waitingCount R_metCount A_grade A_cell A_mined A_withTotal A_numbers X_low X_high Y_low Y_high F_mined F_number F_state F_cellsIn F_unknownNear F_hitNear F_moveStart F_changed F_waiting F_seen G_near G_nearEnd B_chosen_7 B_partOf B_rest B_unknowns B_partStart B_cells S_minedSet S_safeSet S_partSet S_tally S_askedTally S_groupOf S_groupSize S_links S_linkEnd S_pick S_groupMinedSet S_groupSafeSet O_sums O_nextSums R_found R_openEnds R_need R_waiting R_waits R_common R_met A_number Q_mined Q_all Q_choices Q_term Q_divisor Q_spare X_limbs X_sum Y_limbs Y_sum) := by
          intro z_14 rz_14 h
          replace h := hJ_12 z_14 rz_14 h
          obtain ⟨t_15, h⟩ := h
          obtain ⟨b_16, h⟩ := h
          refine wa_bast C (ws' := fun w9 => (dW D_hasBoard D_beganBlank F_mines F_moves F_changes G_width G_height G_size B_parts B_longest S_groups S_askedGroup S_taken R_waitingCount R_metCount A_grade A_cell A_mined A_withTotal A_numbers X_low X_high Y_low Y_high F_mined F_number F_state F_cellsIn F_unknownNear F_hitNear F_moveStart F_changed F_waiting F_seen G_near G_nearEnd w9 B_partOf B_rest B_unknowns B_partStart B_cells S_minedSet S_safeSet S_partSet S_tally S_askedTally S_groupOf S_groupSize S_links S_linkEnd S_pick S_groupMinedSet S_groupSafeSet O_sums O_nextSums R_found R_openEnds R_need R_waiting R_waits R_common R_met A_number Q_mined Q_all Q_choices Q_term Q_divisor Q_spare X_limbs X_sum Y_limbs Y_sum)) 24 dW_24 dX1_keepPart_42 t_15.1 t_15.2 b_16 dWs_24 (fun B_chosen_17 eB_chosen_17 => ?_)
          replace h := h B_chosen_17 eB_chosen_17
          obtain ⟨r_18, h⟩ := h
          refine wa_iinc C (lv' := fun w9 => [(2, .int (iI w9)), (0, .ref (ad 3)), (1, .int (iI x1))]) 2 rfl dX1_keepPart_43 (by decide) (fun _ => rfl) (fun x2_19 ex2_19 => ?_)
          replace h := h x2_19 ex2_19
          have rx2_19 : inR x2_19 := by rw [ex2_19]; exact r_18
          refine wa_goto C (tgt := 2) dX1_keepPart_46 (by decide) ?_
          obtain ⟨n_20, ln_20, h⟩ := h
          refine wa_sub C [1, 2, 0] rfl ?_
          exact ih_4 n_20 ln_20 x2_19 B_chosen_17 rx2_19 h
        obtain ⟨J_21, h, hJ_21⟩ := h
        have k_22 : J_21 → WA p l e ({ frames := 2, cells := 0, slots := 0, locals := 120 } : Room) s m args below meth c 0 0 Q K ad 3 A 41 [(0, .ref (ad 3)), (1, .int (iI x1)), (2, .int (iI x2_6))] [.int (iI x2_6), .ref (ad 24)] (dW D_hasBoard D_beganBlank F_mines F_moves F_changes G_width G_height G_size B_parts B_longest S_groups S_askedGroup S_taken R_waitingCount R_metCount A_grade A_cell A_mined A_withTotal A_numbers X_low X_high Y_low Y_high F_mined F_number F_state F_cellsIn F_unknownNear F_hitNear F_moveStart F_changed F_waiting F_seen G_near G_nearEnd B_chosen_7 B_partOf B_rest B_unknowns B_partStart B_cells S_minedSet S_safeSet S_partSet S_tally S_askedTally S_groupOf S_groupSize S_links S_linkEnd S_pick S_groupMinedSet S_groupSafeSet O_sums O_nextSums R_found R_openEnds R_need R_waiting R_waits R_common R_met A_number Q_mined Q_all Q_choices Q_term Q_divisor Q_spare X_limbs X_sum Y_limbs Y_sum) := by
          intro h
          replace h := hJ_21 h
          refine wa_iconst C (z := 0) dX1_keepPart_41 rfl ?_
          refine wa_sub C [0, 1, 2] rfl ?_
          exact k_13 0 (inR_k 0 rfl) h
        refine wa_if_eq C (tgt := 41) (inR_b rv_11) dX1_keepPart_24 (by decide) (fun c_23 => ?_) (fun c_23 => ?_)
        · replace h := h.1 c_23
          refine wa_sub C [0, 1, 2] rfl ?_
          exact k_22 h
        · replace h := h.2 c_23
          refine wa_aload_n C 0 rfl dX1_keepPart_27 rfl ?_
          refine wa_getR C 3 3 dW_3 rfl rfl (by decide) okX1 gw_163 dX1_keepPart_28 ?_
          refine wa_iload_n C 2 rfl dX1_keepPart_31 rfl ?_
          obtain ⟨t_24, h⟩ := h
          refine wa_iald C 25 dW_25 dX1_keepPart_32 t_24.1 t_24.2 (fun v_25 ev_25 rv_25 => ?_)
          replace h := h v_25 ev_25 rv_25
          refine wa_iload_n C 1 rfl dX1_keepPart_33 rfl ?_
          refine wa_icmp_ne C (tgt := 41) rv_25 rx1 dX1_keepPart_34 (by decide) (fun c_26 => ?_) (fun c_26 => ?_)
          · replace h := h.1 c_26
            refine wa_sub C [0, 1, 2] rfl ?_
            exact k_22 h
          · replace h := h.2 c_26
            refine wa_iconst C (z := 1) dX1_keepPart_37 rfl ?_
            refine wa_goto C (tgt := 42) dX1_keepPart_38 (by decide) ?_
            refine wa_sub C [0, 1, 2] rfl ?_
            exact k_13 1 (inR_k 1 rfl) h
  refine wa_sub C [1, 2, 0] rfl ?_
  exact k_5 n_2 0 B_chosen (inR_k 0 rfl) h0Inv_1
def P_J7_fill_53178_25 (post : (Int → Int) → Prop) (B_partOf : Int → Int) (x1 : Int) : Prop :=
  ∃ Inv_1 : Nat → (Int) → (Int → Int) → Prop, (∃ n_2 : Nat, Inv_1 n_2 0 B_partOf) ∧ ∀ (n_3 : Nat) (x2_6 : Int) (B_partOf_7 : Int → Int), inR x2_6 → Inv_1 n_3 x2_6 B_partOf_7 → ((144 ≤ x2_6 → (post B_partOf_7)) ∧ (¬ 144 ≤ x2_6 → ((0 ≤ x2_6 ∧ x2_6 < 144) ∧ (∀ B_partOf_10 : Int → Int, B_partOf_10 = upZ B_partOf_7 x2_6 x1 → (inR (x2_6 + 1) ∧ (∀ x2_12 : Int, x2_12 = (x2_6 + 1) → (∃ n_13 : Nat, n_13 < n_3 ∧ Inv_1 n_13 x2_12 B_partOf_10)))))))
set_option maxRecDepth 100000 in
set_option maxHeartbeats 4000000 in
theorem c_J7_fill_53178_25 (l : Launch) (K : wK) (ad : Nat → Nat) {D_hasBoard : Int} {D_beganBlank : Int} {F_mines : Int} {F_moves : Int} {F_changes : Int} {G_width : Int} {G_height : Int} {G_size : Int} {B_parts : Int} {B_longest : Int} {S_groups : Int} {S_askedGroup : Int} {S_taken : Int} {R_waitingCount : Int} {R_metCount : Int} {A_grade : Int} {A_cell : Int} {A_mined : Int} {A_withTotal : Int} {A_numbers : Int} {X_low : Int} {X_high : Int} {Y_low : Int} {Y_high : Int} {F_mined : Int → Int} {F_number : Int → Int} {F_state : Int → Int} {F_cellsIn : Int → Int} {F_unknownNear : Int → Int} {F_hitNear : Int → Int} {F_moveStart : Int → Int} {F_changed : Int → Int} {F_waiting : Int → Int} {F_seen : Int → Int} {G_near : Int → Int} {G_nearEnd : Int → Int} {B_chosen : Int → Int} {B_partOf : Int → Int} {B_rest : Int → Int} {B_unknowns : Int → Int} {B_partStart : Int → Int} {B_cells : Int → Int} {S_minedSet : Int → Int} {S_safeSet : Int → Int} {S_partSet : Int → Int} {S_tally : Int → Int} {S_askedTally : Int → Int} {S_groupOf : Int → Int} {S_groupSize : Int → Int} {S_links : Int → Int} {S_linkEnd : Int → Int} {S_pick : Int → Int} {S_groupMinedSet : Int → Int} {S_groupSafeSet : Int → Int} {O_sums : Int → Int64} {O_nextSums : Int → Int64} {R_found : Int → Int} {R_openEnds : Int → Int} {R_need : Int → Int} {R_waiting : Int → Int} {R_waits : Int → Int} {R_common : Int → Int} {R_met : Int → Int} {A_number : Int → Int} {Q_mined : Int → Int64} {Q_all : Int → Int64} {Q_choices : Int → Int64} {Q_term : Int → Int64} {Q_divisor : Int → Int64} {Q_spare : Int → Int64} {X_limbs : Int → Int64} {X_sum : Int → Int64} {Y_limbs : Int → Int64} {Y_sum : Int → Int64} (x1 : Int) (rx1 : inR x1) (post : (Int → Int) → Prop) (h : P_J7_fill_53178_25 post B_partOf x1) : mV l yJ7_fill_53178 (Cond.code yJ7_fill_53178 cJ7_fill_53178 4 none :: GT) ({ frames := 2, cells := 0, slots := 0, locals := 120 } : Room) [.ref (ad 25), .int (iI x1)] K ad (dW D_hasBoard D_beganBlank F_mines F_moves F_changes G_width G_height G_size B_parts B_longest S_groups S_askedGroup S_taken R_waitingCount R_metCount A_grade A_cell A_mined A_withTotal A_numbers X_low X_high Y_low Y_high F_mined F_number F_state F_cellsIn F_unknownNear F_hitNear F_moveStart F_changed F_waiting F_seen G_near G_nearEnd B_chosen B_partOf B_rest B_unknowns B_partStart B_cells S_minedSet S_safeSet S_partSet S_tally S_askedTally S_groupOf S_groupSize S_links S_linkEnd S_pick S_groupMinedSet S_groupSafeSet O_sums O_nextSums R_found R_openEnds R_need R_waiting R_waits R_common R_met A_number Q_mined Q_all Q_choices Q_term Q_divisor Q_spare X_limbs X_sum Y_limbs Y_sum) (fun u9 => ∃ B_partOf9, u9 = (dW D_hasBoard D_beganBlank F_mines F_moves F_changes G_width G_height G_size B_parts B_longest S_groups S_askedGroup S_taken R_waitingCount R_metCount A_grade A_cell A_mined A_withTotal A_numbers X_low X_high Y_low Y_high F_mined F_number F_state F_cellsIn F_unknownNear F_hitNear F_moveStart F_changed F_waiting F_seen G_near G_nearEnd B_chosen B_partOf9 B_rest B_unknowns B_partStart B_cells S_minedSet S_safeSet S_partSet S_tally S_askedTally S_groupOf S_groupSize S_links S_linkEnd S_pick S_groupMinedSet S_groupSafeSet O_sums O_nextSums R_found R_openEnds R_need R_waiting R_waits R_common R_met A_number Q_mined Q_all Q_choices Q_term Q_divisor Q_spare X_limbs X_sum Y_limbs Y_sum) ∧ post B_partOf9) := by
  refine mV_of (lv0 := [(0, .ref (ad 25)), (1, .int (iI x1))]) (by decide) (Nat.le_of_ble_eq_true rfl) rfl ?_
  intro p e s m args below meth c Q A C ret
  replace C : Cx p ({ frames := 2, cells := 0, slots := 0, locals := 120 } : Room) m c 0 0 cJ7_fill_53178 4 s args RJ7 K A := C
  unfold P_J7_fill_53178_25 at h
  refine wa_iconst C (z := 0) dJ7_fill_53178_0 rfl ?_
  refine wa_istore_n C dJ7_fill_53178_1 rfl (by decide) rfl ?_
  refine wa_aload_n C 1 rfl dJ7_fill_53178_2 rfl ?_
  refine wa_alen C (z := 144) 25 dW_25 rfl dJ7_fill_53178_3 ?_
  refine wa_istore_n C dJ7_fill_53178_4 rfl (by decide) rfl ?_
  obtain ⟨Inv_1, ⟨n_2, h0Inv_1⟩, hInv_1⟩ := h
  have k_5 : ∀ (n_3 : Nat) (x2_6 : Int) (B_partOf_7 : Int → Int), inR x2_6 → Inv_1 n_3 x2_6 B_partOf_7 → WA p l e ({ frames := 2, cells := 0, slots := 0, locals := 120 } : Room) s m args below meth c 0 0 Q K ad 4 A 5 [(0, .ref (ad 25)), (1, .int (iI x1)), (2, .int (iI x2_6)), (3, .int (iI 144))] [] (dW D_hasBoard D_beganBlank F_mines F_moves F_changes G_width G_height G_size B_parts B_longest S_groups S_askedGroup S_taken R_waitingCount R_metCount A_grade A_cell A_mined A_withTotal A_numbers X_low X_high Y_low Y_high F_mined F_number F_state F_cellsIn F_unknownNear F_hitNear F_moveStart F_changed F_waiting F_seen G_near G_nearEnd B_chosen B_partOf_7 B_rest B_unknowns B_partStart B_cells S_minedSet S_safeSet S_partSet S_tally S_askedTally S_groupOf S_groupSize S_links S_linkEnd S_pick S_groupMinedSet S_groupSafeSet O_sums O_nextSums R_found R_openEnds R_need R_waiting R_waits R_common R_met A_number Q_mined Q_all Q_choices Q_term Q_divisor Q_spare X_limbs X_sum Y_limbs Y_sum) := by
    intro n_3
    induction n_3 using Nat.strongRecOn with
    | ind n_3 ih_4 =>
      intro x2_6 B_partOf_7 rx2_6 h
      replace h := hInv_1 n_3 x2_6 B_partOf_7 rx2_6 h
      refine wa_iload_n C 2 rfl dJ7_fill_53178_5 rfl ?_
      refine wa_iload_n C 3 rfl dJ7_fill_53178_6 rfl ?_
      refine wa_icmp_ge C (tgt := 20) rx2_6 (inR_k 144 rfl) dJ7_fill_53178_7 (by decide) (fun c_8 => ?_) (fun c_8 => ?_)
      · replace h := h.1 c_8
        exact ret dJ7_fill_53178_20 ⟨_, rfl, h⟩
      · replace h := h.2 c_8
        refine wa_aload_n C 0 rfl dJ7_fill_53178_10 rfl ?_
        refine wa_iload_n C 2 rfl dJ7_fill_53178_11 rfl ?_
        refine wa_iload_n C 1 rfl dJ7_fill_53178_12 rfl ?_
        obtain ⟨t_9, h⟩ := h
        refine wa_iast C (ws' := fun w9 => (dW D_hasBoard D_beganBlank F_mines F_moves F_changes G_width G_height G_size B_parts B_longest S_groups S_askedGroup S_taken R_waitingCount R_metCount A_grade A_cell A_mined A_withTotal A_numbers X_low X_high Y_low Y_high F_mined F_number F_state F_cellsIn F_unknownNear F_hitNear F_moveStart F_changed F_waiting F_seen G_near G_nearEnd B_chosen w9 B_rest B_unknowns B_partStart B_cells S_minedSet S_safeSet S_partSet S_tally S_askedTally S_groupOf S_groupSize S_links S_linkEnd S_pick S_groupMinedSet S_groupSafeSet O_sums O_nextSums R_found R_openEnds R_need R_waiting R_waits R_common R_met A_number Q_mined Q_all Q_choices Q_term Q_divisor Q_spare X_limbs X_sum Y_limbs Y_sum)) 25 dW_25 dJ7_fill_53178_13 t_9.1 t_9.2 rx1 dWs_25 (fun B_partOf_10 eB_partOf_10 => ?_)
        replace h := h B_partOf_10 eB_partOf_10
        obtain ⟨r_11, h⟩ := h
        refine wa_iinc C (lv' := fun w9 => [(2, .int (iI w9)), (0, .ref (ad 25)), (1, .int (iI x1)), (3, .int (iI 144))]) 2 rfl dJ7_fill_53178_14 (by decide) (fun _ => rfl) (fun x2_12 ex2_12 => ?_)
        replace h := h x2_12 ex2_12
        have rx2_12 : inR x2_12 := by rw [ex2_12]; exact r_11
        refine wa_goto C (tgt := 5) dJ7_fill_53178_17 (by decide) ?_
        obtain ⟨n_13, ln_13, h⟩ := h
        refine wa_sub C [1, 2, 0, 3] rfl ?_
        exact ih_4 n_13 ln_13 x2_12 B_partOf_10 rx2_12 h
  refine wa_sub C [2, 3, 1, 0] rfl ?_
  exact k_5 n_2 0 B_partOf (inR_k 0 rfl) h0Inv_1
def P_X1_admit (post : Int → (Int → Int) → (Int → Int) → (Int → Int) → (Int → Int) → Prop) (B_parts : Int) (F_number : Int → Int) (F_state : Int → Int) (F_unknownNear : Int → Int) (F_hitNear : Int → Int) (G_near : Int → Int) (G_nearEnd : Int → Int) (B_partOf : Int → Int) (B_rest : Int → Int) (B_unknowns : Int → Int) (B_cells : Int → Int) (x1 : Int) (x2 : Int) : Prop :=
  (0 ≤ x1 ∧ x1 < 144) ∧ (∀ B_partOf_3 : Int → Int, B_partOf_3 = upZ B_partOf x1 B_parts → ((0 ≤ x1 ∧ x1 < 144) ∧ (∀ v_5 : Int, v_5 = F_number x1 → inR v_5 → ((0 ≤ x1 ∧ x1 < 144) ∧ (∀ v_7 : Int, v_7 = F_hitNear x1 → inR v_7 → ((0 ≤ x1 ∧ x1 < 144) ∧ (inR (v_5 - v_7) ∧ (∀ B_rest_10 : Int → Int, B_rest_10 = upZ B_rest x1 (v_5 - v_7) → ((0 ≤ x1 ∧ x1 < 144) ∧ (∀ v_12 : Int, v_12 = F_unknownNear x1 → inR v_12 → ((0 ≤ x1 ∧ x1 < 144) ∧ (∀ B_unknowns_14 : Int → Int, B_unknowns_14 = upZ B_unknowns x1 v_12 → (inR (x1 * 8) ∧ (∀ x4_16 : Int, x4_16 = (x1 * 8) → (∃ Inv_17 : Nat → (Int) → (Int) → (Int → Int) → (Int → Int) → Prop, (∃ n_18 : Nat, Inv_17 n_18 x2 x4_16 B_partOf_3 B_cells) ∧ ∀ (n_19 : Nat) (x3_22 : Int) (x4_23 : Int) (B_partOf_24 : Int → Int) (B_cells_25 : Int → Int), inR x3_22 → inR x4_23 → Inv_17 n_19 x3_22 x4_23 B_partOf_24 B_cells_25 → ((0 ≤ x1 ∧ x1 < 144) ∧ (∀ v_27 : Int, v_27 = G_nearEnd x1 → inR v_27 → ((v_27 ≤ x4_23 → (post x3_22 B_partOf_24 B_rest_10 B_unknowns_14 B_cells_25)) ∧ (¬ v_27 ≤ x4_23 → ((0 ≤ x4_23 ∧ x4_23 < 1152) ∧ (∀ v_30 : Int, v_30 = G_near x4_23 → inR v_30 → (P_X2_isUnknown (fun (c_31 : Int) => (c_31 = 0 ∨ c_31 = 1) → (∃ J_32 : (Int) → (Int → Int) → (Int → Int) → Prop, ((c_31 = 0 → (J_32 x3_22 B_partOf_24 B_cells_25)) ∧ (¬ c_31 = 0 → ((0 ≤ v_30 ∧ v_30 < 144) ∧ (∀ v_42 : Int, v_42 = B_partOf_24 v_30 → inR v_42 → ((¬ v_42 = (-1) → (J_32 x3_22 B_partOf_24 B_cells_25)) ∧ (v_42 = (-1) → ((144 ≤ x3_22 → (J_32 x3_22 B_partOf_24 B_cells_25)) ∧ (¬ 144 ≤ x3_22 → ((0 ≤ v_30 ∧ v_30 < 144) ∧ (∀ B_partOf_47 : Int → Int, B_partOf_47 = upZ B_partOf_24 v_30 B_parts → ((0 ≤ x3_22 ∧ x3_22 < 144) ∧ (∀ B_cells_49 : Int → Int, B_cells_49 = upZ B_cells_25 x3_22 v_30 → (inR (x3_22 + 1) ∧ (∀ x3_51 : Int, x3_51 = (x3_22 + 1) → (J_32 x3_51 B_partOf_47 B_cells_49))))))))))))))) ∧ (∀ (x3_34 : Int) (B_partOf_35 : Int → Int) (B_cells_36 : Int → Int), inR x3_34 → J_32 x3_34 B_partOf_35 B_cells_36 → (inR (x4_23 + 1) ∧ (∀ x4_38 : Int, x4_38 = (x4_23 + 1) → (∃ n_39 : Nat, n_39 < n_19 ∧ Inv_17 n_39 x3_34 x4_38 B_partOf_35 B_cells_36)))))) F_state v_30))))))))))))))))))))))
set_option maxRecDepth 100000 in
set_option maxHeartbeats 4000000 in
theorem c_X1_admit (l : Launch) (K : wK) (ad : Nat → Nat) {D_hasBoard : Int} {D_beganBlank : Int} {F_mines : Int} {F_moves : Int} {F_changes : Int} {G_width : Int} {G_height : Int} {G_size : Int} {B_parts : Int} {B_longest : Int} {S_groups : Int} {S_askedGroup : Int} {S_taken : Int} {R_waitingCount : Int} {R_metCount : Int} {A_grade : Int} {A_cell : Int} {A_mined : Int} {A_withTotal : Int} {A_numbers : Int} {X_low : Int} {X_high : Int} {Y_low : Int} {Y_high : Int} {F_mined : Int → Int} {F_number : Int → Int} {F_state : Int → Int} {F_cellsIn : Int → Int} {F_unknownNear : Int → Int} {F_hitNear : Int → Int} {F_moveStart : Int → Int} {F_changed : Int → Int} {F_waiting : Int → Int} {F_seen : Int → Int} {G_near : Int → Int} {G_nearEnd : Int → Int} {B_chosen : Int → Int} {B_partOf : Int → Int} {B_rest : Int → Int} {B_unknowns : Int → Int} {B_partStart : Int → Int} {B_cells : Int → Int} {S_minedSet : Int → Int} {S_safeSet : Int → Int} {S_partSet : Int → Int} {S_tally : Int → Int} {S_askedTally : Int → Int} {S_groupOf : Int → Int} {S_groupSize : Int → Int} {S_links : Int → Int} {S_linkEnd : Int → Int} {S_pick : Int → Int} {S_groupMinedSet : Int → Int} {S_groupSafeSet : Int → Int} {O_sums : Int → Int64} {O_nextSums : Int → Int64} {R_found : Int → Int} {R_openEnds : Int → Int} {R_need : Int → Int} {R_waiting : Int → Int} {R_waits : Int → Int} {R_common : Int → Int} {R_met : Int → Int} {A_number : Int → Int} {Q_mined : Int → Int64} {Q_all : Int → Int64} {Q_choices : Int → Int64} {Q_term : Int → Int64} {Q_divisor : Int → Int64} {Q_spare : Int → Int64} {X_limbs : Int → Int64} {X_sum : Int → Int64} {Y_limbs : Int → Int64} {Y_sum : Int → Int64} (x1 : Int) (x2 : Int) (rx1 : inR x1) (rx2 : inR x2) (post : Int → (Int → Int) → (Int → Int) → (Int → Int) → (Int → Int) → Prop) (h : P_X1_admit post B_parts F_number F_state F_unknownNear F_hitNear G_near G_nearEnd B_partOf B_rest B_unknowns B_cells x1 x2) : mI l yX1_admit (Cond.code yX1_admit cX1_admit 6 (some .int) :: GT) ({ frames := 3, cells := 0, slots := 0, locals := 180 } : Room) [.ref (ad 3), .int (iI x1), .int (iI x2)] K ad (dW D_hasBoard D_beganBlank F_mines F_moves F_changes G_width G_height G_size B_parts B_longest S_groups S_askedGroup S_taken R_waitingCount R_metCount A_grade A_cell A_mined A_withTotal A_numbers X_low X_high Y_low Y_high F_mined F_number F_state F_cellsIn F_unknownNear F_hitNear F_moveStart F_changed F_waiting F_seen G_near G_nearEnd B_chosen B_partOf B_rest B_unknowns B_partStart B_cells S_minedSet S_safeSet S_partSet S_tally S_askedTally S_groupOf S_groupSize S_links S_linkEnd S_pick S_groupMinedSet S_groupSafeSet O_sums O_nextSums R_found R_openEnds R_need R_waiting R_waits R_common R_met A_number Q_mined Q_all Q_choices Q_term Q_divisor Q_spare X_limbs X_sum Y_limbs Y_sum) (fun z9 u9 => ∃ B_partOf9 B_rest9 B_unknowns9 B_cells9, u9 = (dW D_hasBoard D_beganBlank F_mines F_moves F_changes G_width G_height G_size B_parts B_longest S_groups S_askedGroup S_taken R_waitingCount R_metCount A_grade A_cell A_mined A_withTotal A_numbers X_low X_high Y_low Y_high F_mined F_number F_state F_cellsIn F_unknownNear F_hitNear F_moveStart F_changed F_waiting F_seen G_near G_nearEnd B_chosen B_partOf9 B_rest9 B_unknowns9 B_partStart B_cells9 S_minedSet S_safeSet S_partSet S_tally S_askedTally S_groupOf S_groupSize S_links S_linkEnd S_pick S_groupMinedSet S_groupSafeSet O_sums O_nextSums R_found R_openEnds R_need R_waiting R_waits R_common R_met A_number Q_mined Q_all Q_choices Q_term Q_divisor Q_spare X_limbs X_sum Y_limbs Y_sum) ∧ post z9 B_partOf9 B_rest9 B_unknowns9 B_cells9) := by
  refine mI_of (lv0 := [(0, .ref (ad 3)), (1, .int (iI x1)), (2, .int (iI x2))]) (by decide) (Nat.le_of_ble_eq_true rfl) rfl ?_
  intro p e s m args below meth c Q A C ret
  replace C : Cx p ({ frames := 3, cells := 0, slots := 0, locals := 180 } : Room) m c 0 0 cX1_admit 6 s args RX1 K A := C
  unfold P_X1_admit at h
  refine wa_aload_n C 0 rfl dX1_admit_0 rfl ?_
  refine wa_getR C 3 3 dW_3 rfl rfl (by decide) okX1 gw_163 dX1_admit_1 ?_
  refine wa_iload_n C 1 rfl dX1_admit_4 rfl ?_
  refine wa_aload_n C 0 rfl dX1_admit_5 rfl ?_
  refine wa_getI C 3 8 dW_3 rfl rfl (by decide) okX1 gw_179 dX1_admit_6 (fun r_1 => ?_)
  obtain ⟨t_2, h⟩ := h
  refine wa_iast C (ws' := fun w9 => (dW D_hasBoard D_beganBlank F_mines F_moves F_changes G_width G_height G_size B_parts B_longest S_groups S_askedGroup S_taken R_waitingCount R_metCount A_grade A_cell A_mined A_withTotal A_numbers X_low X_high Y_low Y_high F_mined F_number F_state F_cellsIn F_unknownNear F_hitNear F_moveStart F_changed F_waiting F_seen G_near G_nearEnd B_chosen w9 B_rest B_unknowns B_partStart B_cells S_minedSet S_safeSet S_partSet S_tally S_askedTally S_groupOf S_groupSize S_links S_linkEnd S_pick S_groupMinedSet S_groupSafeSet O_sums O_nextSums R_found R_openEnds R_need R_waiting R_waits R_common R_met A_number Q_mined Q_all Q_choices Q_term Q_divisor Q_spare X_limbs X_sum Y_limbs Y_sum)) 25 dW_25 dX1_admit_9 t_2.1 t_2.2 r_1 dWs_25 (fun B_partOf_3 eB_partOf_3 => ?_)
  replace h := h B_partOf_3 eB_partOf_3
  refine wa_aload_n C 0 rfl dX1_admit_10 rfl ?_
  refine wa_getR C 3 4 dW_3 rfl rfl (by decide) okX1 gw_167 dX1_admit_11 ?_
  refine wa_iload_n C 1 rfl dX1_admit_14 rfl ?_
  refine wa_aload_n C 0 rfl dX1_admit_15 rfl ?_
  refine wa_getR C 3 0 dW_3 rfl rfl (by decide) okX1 gw_156 dX1_admit_16 ?_
  refine wa_getR C 1 2 dW_1 rfl rfl (by decide) okX2 gw_95 dX1_admit_19 ?_
  refine wa_iload_n C 1 rfl dX1_admit_22 rfl ?_
  obtain ⟨t_4, h⟩ := h
  refine wa_iald C 13 dW_13 dX1_admit_23 t_4.1 t_4.2 (fun v_5 ev_5 rv_5 => ?_)
  replace h := h v_5 ev_5 rv_5
  refine wa_aload_n C 0 rfl dX1_admit_24 rfl ?_
  refine wa_getR C 3 0 dW_3 rfl rfl (by decide) okX1 gw_156 dX1_admit_25 ?_
  refine wa_getR C 1 6 dW_1 rfl rfl (by decide) okX2 gw_109 dX1_admit_28 ?_
  refine wa_iload_n C 1 rfl dX1_admit_31 rfl ?_
  obtain ⟨t_6, h⟩ := h
  refine wa_iald C 17 dW_17 dX1_admit_32 t_6.1 t_6.2 (fun v_7 ev_7 rv_7 => ?_)
  replace h := h v_7 ev_7 rv_7
  refine wa_isub C dX1_admit_33 ?_
  obtain ⟨t_8, h⟩ := h
  obtain ⟨r_9, h⟩ := h
  refine wa_iast C (ws' := fun w9 => (dW D_hasBoard D_beganBlank F_mines F_moves F_changes G_width G_height G_size B_parts B_longest S_groups S_askedGroup S_taken R_waitingCount R_metCount A_grade A_cell A_mined A_withTotal A_numbers X_low X_high Y_low Y_high F_mined F_number F_state F_cellsIn F_unknownNear F_hitNear F_moveStart F_changed F_waiting F_seen G_near G_nearEnd B_chosen B_partOf_3 w9 B_unknowns B_partStart B_cells S_minedSet S_safeSet S_partSet S_tally S_askedTally S_groupOf S_groupSize S_links S_linkEnd S_pick S_groupMinedSet S_groupSafeSet O_sums O_nextSums R_found R_openEnds R_need R_waiting R_waits R_common R_met A_number Q_mined Q_all Q_choices Q_term Q_divisor Q_spare X_limbs X_sum Y_limbs Y_sum)) 26 dW_26 dX1_admit_34 t_8.1 t_8.2 r_9 dWs_26 (fun B_rest_10 eB_rest_10 => ?_)
  replace h := h B_rest_10 eB_rest_10
  refine wa_aload_n C 0 rfl dX1_admit_35 rfl ?_
  refine wa_getR C 3 5 dW_3 rfl rfl (by decide) okX1 gw_169 dX1_admit_36 ?_
  refine wa_iload_n C 1 rfl dX1_admit_39 rfl ?_
  refine wa_aload_n C 0 rfl dX1_admit_40 rfl ?_
  refine wa_getR C 3 0 dW_3 rfl rfl (by decide) okX1 gw_156 dX1_admit_41 ?_
  refine wa_getR C 1 5 dW_1 rfl rfl (by decide) okX2 gw_105 dX1_admit_44 ?_
  refine wa_iload_n C 1 rfl dX1_admit_47 rfl ?_
  obtain ⟨t_11, h⟩ := h
  refine wa_iald C 16 dW_16 dX1_admit_48 t_11.1 t_11.2 (fun v_12 ev_12 rv_12 => ?_)
  replace h := h v_12 ev_12 rv_12
  obtain ⟨t_13, h⟩ := h
  refine wa_iast C (ws' := fun w9 => (dW D_hasBoard D_beganBlank F_mines F_moves F_changes G_width G_height G_size B_parts B_longest S_groups S_askedGroup S_taken R_waitingCount R_metCount A_grade A_cell A_mined A_withTotal A_numbers X_low X_high Y_low Y_high F_mined F_number F_state F_cellsIn F_unknownNear F_hitNear F_moveStart F_changed F_waiting F_seen G_near G_nearEnd B_chosen B_partOf_3 B_rest_10 w9 B_partStart B_cells S_minedSet S_safeSet S_partSet S_tally S_askedTally S_groupOf S_groupSize S_links S_linkEnd S_pick S_groupMinedSet S_groupSafeSet O_sums O_nextSums R_found R_openEnds R_need R_waiting R_waits R_common R_met A_number Q_mined Q_all Q_choices Q_term Q_divisor Q_spare X_limbs X_sum Y_limbs Y_sum)) 27 dW_27 dX1_admit_49 t_13.1 t_13.2 rv_12 dWs_27 (fun B_unknowns_14 eB_unknowns_14 => ?_)
  replace h := h B_unknowns_14 eB_unknowns_14
  refine wa_iload_n C 2 rfl dX1_admit_50 rfl ?_
  refine wa_istore_n C dX1_admit_51 rfl (by decide) rfl ?_
  refine wa_iload_n C 2 rfl dX1_admit_52 rfl ?_
  refine wa_bipush C (z := 8) dX1_admit_53 (by decide) ?_
  refine wa_imul C dX1_admit_55 ?_
  obtain ⟨r_15, h⟩ := h
  refine wa_nmi (fun x4_16 ex4_16 => ?_)
  replace h := h x4_16 ex4_16
  have rx4_16 : inR x4_16 := by rw [ex4_16]; exact r_15
  refine wa_istore C dX1_admit_56 (by decide) rfl ?_
  obtain ⟨Inv_17, ⟨n_18, h0Inv_17⟩, hInv_17⟩ := h
  have k_21 : ∀ (n_19 : Nat) (x3_22 : Int) (x4_23 : Int) (B_partOf_24 : Int → Int) (B_cells_25 : Int → Int), inR x3_22 → inR x4_23 → Inv_17 n_19 x3_22 x4_23 B_partOf_24 B_cells_25 → WA p l e ({ frames := 3, cells := 0, slots := 0, locals := 180 } : Room) s m args below meth c 0 0 Q K ad 6 A 58 [(0, .ref (ad 3)), (1, .int (iI x1)), (3, .int (iI x3_22)), (4, .int (iI x4_23))] [] (dW D_hasBoard D_beganBlank F_mines F_moves F_changes G_width G_height G_size B_parts B_longest S_groups S_askedGroup S_taken R_waitingCount R_metCount A_grade A_cell A_mined A_withTotal A_numbers X_low X_high Y_low Y_high F_mined F_number F_state F_cellsIn F_unknownNear F_hitNear F_moveStart F_changed F_waiting F_seen G_near G_nearEnd B_chosen B_partOf_24 B_rest_10 B_unknowns_14 B_partStart B_cells_25 S_minedSet S_safeSet S_partSet S_tally S_askedTally S_groupOf S_groupSize S_links S_linkEnd S_pick S_groupMinedSet S_groupSafeSet O_sums O_nextSums R_found R_openEnds R_need R_waiting R_waits R_common R_met A_number Q_mined Q_all Q_choices Q_term Q_divisor Q_spare X_limbs X_sum Y_limbs Y_sum) := by
    intro n_19
    induction n_19 using Nat.strongRecOn with
    | ind n_19 ih_20 =>
      intro x3_22 x4_23 B_partOf_24 B_cells_25 rx3_22 rx4_23 h
      replace h := hInv_17 n_19 x3_22 x4_23 B_partOf_24 B_cells_25 rx3_22 rx4_23 h
      refine wa_iload C 3 rfl dX1_admit_58 ?_
      refine wa_aload_n C 0 rfl dX1_admit_60 rfl ?_
      refine wa_getR C 3 1 dW_3 rfl rfl (by decide) okX1 gw_158 dX1_admit_61 ?_
      refine wa_getR C 2 4 dW_2 rfl rfl (by decide) okX3 gw_68 dX1_admit_64 ?_
      refine wa_iload_n C 1 rfl dX1_admit_67 rfl ?_
      obtain ⟨t_26, h⟩ := h
      refine wa_iald C 23 dW_23 dX1_admit_68 t_26.1 t_26.2 (fun v_27 ev_27 rv_27 => ?_)
      replace h := h v_27 ev_27 rv_27
      refine wa_icmp_ge C (tgt := 142) rx4_23 rv_27 dX1_admit_69 (by decide) (fun c_28 => ?_) (fun c_28 => ?_)
      · replace h := h.1 c_28
        refine wa_iload_n C 2 rfl dX1_admit_142 rfl ?_
        exact ret dX1_admit_143 rx3_22 ⟨_, _, _, _, rfl, h⟩
      · replace h := h.2 c_28
        refine wa_aload_n C 0 rfl dX1_admit_72 rfl ?_
        refine wa_getR C 3 1 dW_3 rfl rfl (by decide) okX1 gw_158 dX1_admit_73 ?_
        refine wa_getR C 2 3 dW_2 rfl rfl (by decide) okX3 gw_62 dX1_admit_76 ?_
        refine wa_iload C 3 rfl dX1_admit_79 ?_
        obtain ⟨t_29, h⟩ := h
        refine wa_iald C 22 dW_22 dX1_admit_81 t_29.1 t_29.2 (fun v_30 ev_30 rv_30 => ?_)
        replace h := h v_30 ev_30 rv_30
        refine wa_istore C dX1_admit_82 (by decide) rfl ?_
        refine wa_aload_n C 1 rfl dX1_admit_84 rfl ?_
        refine wa_getR C 3 0 dW_3 rfl rfl (by decide) okX1 gw_156 dX1_admit_85 ?_
        refine wa_iload C 0 rfl dX1_admit_88 ?_
        refine wa_callVi C (k := 1) (As := [.int (iI v_30)]) (rest := []) (c_X2_isUnknown l K ad v_30 rv_30 _ h) gw_665 gw_742 dW_1 rfl gw_663 gw_664 gw_2 q_X2_isUnknown rfl rfl rfl ⟨by decide, by decide⟩ rfl (Nat.le_of_ble_eq_true rfl) dX1_admit_90 (fun c_31 u9 rc_31 hp => ?_)
        obtain ⟨bc_31, rfl, h⟩ := hp
        replace h := h bc_31
        obtain ⟨J_32, h, hJ_32⟩ := h
        have k_33 : ∀ (x3_34 : Int) (B_partOf_35 : Int → Int) (B_cells_36 : Int → Int), inR x3_34 → J_32 x3_34 B_partOf_35 B_cells_36 → WA p l e ({ frames := 3, cells := 0, slots := 0, locals := 180 } : Room) s m args below meth c 0 0 Q K ad 6 A 136 [(0, .ref (ad 3)), (1, .int (iI x1)), (3, .int (iI x3_34)), (4, .int (iI x4_23))] [] (dW D_hasBoard D_beganBlank F_mines F_moves F_changes G_width G_height G_size B_parts B_longest S_groups S_askedGroup S_taken R_waitingCount R_metCount A_grade A_cell A_mined A_withTotal A_numbers X_low X_high Y_low Y_high F_mined F_number F_state F_cellsIn F_unknownNear F_hitNear F_moveStart F_changed F_waiting F_seen G_near G_nearEnd B_chosen B_partOf_35 B_rest_10 B_unknowns_14 B_partStart B_cells_36 S_minedSet S_safeSet S_partSet S_tally S_askedTally S_groupOf S_groupSize S_links S_linkEnd S_pick S_groupMinedSet S_groupSafeSet O_sums O_nextSums R_found R_openEnds R_need R_waiting R_waits R_common R_met A_number Q_mined Q_all Q_choices Q_term Q_divisor Q_spare X_limbs X_sum Y_limbs Y_sum) := by
          intro x3_34 B_partOf_35 B_cells_36 rx3_34 h
          replace h := hJ_32 x3_34 B_partOf_35 B_cells_36 rx3_34 h
          obtain ⟨r_37, h⟩ := h
          refine wa_iinc C (lv' := fun w9 => [(4, .int (iI w9)), (0, .ref (ad 3)), (1, .int (iI x1)), (3, .int (iI x3_34))]) 3 rfl dX1_admit_136 (by decide) (fun _ => rfl) (fun x4_38 ex4_38 => ?_)
          replace h := h x4_38 ex4_38
          have rx4_38 : inR x4_38 := by rw [ex4_38]; exact r_37
          refine wa_goto C (tgt := 58) dX1_admit_139 (by decide) ?_
          obtain ⟨n_39, ln_39, h⟩ := h
          refine wa_sub C [1, 2, 3, 0] rfl ?_
          exact ih_20 n_39 ln_39 x3_34 x4_38 B_partOf_35 B_cells_36 rx3_34 rx4_38 h
        refine wa_if_eq C (tgt := 136) (inR_b bc_31) dX1_admit_93 (by decide) (fun c_40 => ?_) (fun c_40 => ?_)
        · replace h := h.1 c_40
          refine wa_sub C [1, 2, 3, 4] rfl ?_
          exact k_33 x3_22 B_partOf_24 B_cells_25 rx3_22 h
        · replace h := h.2 c_40
          refine wa_aload_n C 1 rfl dX1_admit_96 rfl ?_
          refine wa_getR C 3 3 dW_3 rfl rfl (by decide) okX1 gw_163 dX1_admit_97 ?_
          refine wa_iload C 0 rfl dX1_admit_100 ?_
          obtain ⟨t_41, h⟩ := h
          refine wa_iald C 25 dW_25 dX1_admit_102 t_41.1 t_41.2 (fun v_42 ev_42 rv_42 => ?_)
          replace h := h v_42 ev_42 rv_42
          refine wa_iconst C (z := -1) dX1_admit_103 rfl ?_
          refine wa_icmp_ne C (tgt := 136) rv_42 (inR_k (-1) rfl) dX1_admit_104 (by decide) (fun c_43 => ?_) (fun c_43 => ?_)
          · replace h := h.1 c_43
            refine wa_sub C [1, 2, 3, 4] rfl ?_
            exact k_33 x3_22 B_partOf_24 B_cells_25 rx3_22 h
          · replace h := h.2 c_43
            refine wa_iload_n C 3 rfl dX1_admit_107 rfl ?_
            refine wa_sipush C (z := 144) dX1_admit_108 (by decide) ?_
            refine wa_icmp_ge C (tgt := 136) rx3_22 (inR_k 144 rfl) dX1_admit_111 (by decide) (fun c_44 => ?_) (fun c_44 => ?_)
            · replace h := h.1 c_44
              refine wa_sub C [1, 2, 3, 4] rfl ?_
              exact k_33 x3_22 B_partOf_24 B_cells_25 rx3_22 h
            · replace h := h.2 c_44
              refine wa_aload_n C 1 rfl dX1_admit_114 rfl ?_
              refine wa_getR C 3 3 dW_3 rfl rfl (by decide) okX1 gw_163 dX1_admit_115 ?_
              refine wa_iload C 0 rfl dX1_admit_118 ?_
              refine wa_aload_n C 1 rfl dX1_admit_120 rfl ?_
              refine wa_getI C 3 8 dW_3 rfl rfl (by decide) okX1 gw_179 dX1_admit_121 (fun r_45 => ?_)
              obtain ⟨t_46, h⟩ := h
              refine wa_iast C (ws' := fun w9 => (dW D_hasBoard D_beganBlank F_mines F_moves F_changes G_width G_height G_size B_parts B_longest S_groups S_askedGroup S_taken R_waitingCount R_metCount A_grade A_cell A_mined A_withTotal A_numbers X_low X_high Y_low Y_high F_mined F_number F_state F_cellsIn F_unknownNear F_hitNear F_moveStart F_changed F_waiting F_seen G_near G_nearEnd B_chosen w9 B_rest_10 B_unknowns_14 B_partStart B_cells_25 S_minedSet S_safeSet S_partSet S_tally S_askedTally S_groupOf S_groupSize S_links S_linkEnd S_pick S_groupMinedSet S_groupSafeSet O_sums O_nextSums R_found R_openEnds R_need R_waiting R_waits R_common R_met A_number Q_mined Q_all Q_choices Q_term Q_divisor Q_spare X_limbs X_sum Y_limbs Y_sum)) 25 dW_25 dX1_admit_124 t_46.1 t_46.2 r_1 dWs_25 (fun B_partOf_47 eB_partOf_47 => ?_)
              replace h := h B_partOf_47 eB_partOf_47
              refine wa_aload_n C 1 rfl dX1_admit_125 rfl ?_
              refine wa_getR C 3 7 dW_3 rfl rfl (by decide) okX1 gw_174 dX1_admit_126 ?_
              refine wa_iload_n C 3 rfl dX1_admit_129 rfl ?_
              refine wa_iload C 0 rfl dX1_admit_130 ?_
              obtain ⟨t_48, h⟩ := h
              refine wa_iast C (ws' := fun w9 => (dW D_hasBoard D_beganBlank F_mines F_moves F_changes G_width G_height G_size B_parts B_longest S_groups S_askedGroup S_taken R_waitingCount R_metCount A_grade A_cell A_mined A_withTotal A_numbers X_low X_high Y_low Y_high F_mined F_number F_state F_cellsIn F_unknownNear F_hitNear F_moveStart F_changed F_waiting F_seen G_near G_nearEnd B_chosen B_partOf_47 B_rest_10 B_unknowns_14 B_partStart w9 S_minedSet S_safeSet S_partSet S_tally S_askedTally S_groupOf S_groupSize S_links S_linkEnd S_pick S_groupMinedSet S_groupSafeSet O_sums O_nextSums R_found R_openEnds R_need R_waiting R_waits R_common R_met A_number Q_mined Q_all Q_choices Q_term Q_divisor Q_spare X_limbs X_sum Y_limbs Y_sum)) 29 dW_29 dX1_admit_132 t_48.1 t_48.2 rv_30 dWs_29 (fun B_cells_49 eB_cells_49 => ?_)
              replace h := h B_cells_49 eB_cells_49
              obtain ⟨r_50, h⟩ := h
              refine wa_iinc C (lv' := fun w9 => [(3, .int (iI w9)), (5, .int (iI v_30)), (0, .ref (ad 3)), (1, .int (iI x1)), (4, .int (iI x4_23))]) 3 rfl dX1_admit_133 (by decide) (fun _ => rfl) (fun x3_51 ex3_51 => ?_)
              replace h := h x3_51 ex3_51
              have rx3_51 : inR x3_51 := by rw [ex3_51]; exact r_50
              refine wa_sub C [2, 3, 0, 4] rfl ?_
              exact k_33 x3_51 B_partOf_47 B_cells_49 rx3_51 h
  refine wa_sub C [2, 3, 1, 0] rfl ?_
  exact k_21 n_18 x2 x4_16 B_partOf_3 B_cells rx2 rx4_16 h0Inv_17
def P_X1_gather (post : (Int) → (Int) → (Int → Int) → (Int → Int) → (Int → Int) → (Int → Int) → (Int → Int) → Prop) (B_parts : Int) (B_longest : Int) (F_number : Int → Int) (F_state : Int → Int) (F_unknownNear : Int → Int) (F_hitNear : Int → Int) (G_near : Int → Int) (G_nearEnd : Int → Int) (B_chosen : Int → Int) (B_partOf : Int → Int) (B_rest : Int → Int) (B_unknowns : Int → Int) (B_partStart : Int → Int) (B_cells : Int → Int) (x1 : Int) : Prop :=
  (0 ≤ B_parts ∧ B_parts < 145) ∧ (∀ v_3 : Int, v_3 = B_partStart B_parts → inR v_3 → (P_X1_admit (fun (c_4 : Int) (B_partOf_5 : Int → Int) (B_rest_6 : Int → Int) (B_unknowns_7 : Int → Int) (B_cells_8 : Int → Int) => inR c_4 → (∃ Inv_9 : Nat → (Int) → (Int) → (Int → Int) → (Int → Int) → (Int → Int) → (Int → Int) → Prop, (∃ n_10 : Nat, Inv_9 n_10 c_4 v_3 B_partOf_5 B_rest_6 B_unknowns_7 B_cells_8) ∧ ∀ (n_11 : Nat) (x3_14 : Int) (x4_15 : Int) (B_partOf_16 : Int → Int) (B_rest_17 : Int → Int) (B_unknowns_18 : Int → Int) (B_cells_19 : Int → Int), inR x3_14 → inR x4_15 → Inv_9 n_11 x3_14 x4_15 B_partOf_16 B_rest_17 B_unknowns_18 B_cells_19 → (∃ J_20 : Prop, ((x3_14 ≤ x4_15 → (J_20)) ∧ (¬ x3_14 ≤ x4_15 → ((144 ≤ x4_15 → (J_20)) ∧ (¬ 144 ≤ x4_15 → ((0 ≤ x4_15 ∧ x4_15 < 144) ∧ (∀ v_35 : Int, v_35 = B_cells_19 x4_15 → inR v_35 → (inR (v_35 * 8) ∧ (∀ x5_37 : Int, x5_37 = (v_35 * 8) → (∃ Inv_38 : Nat → (Int) → (Int) → (Int → Int) → (Int → Int) → (Int → Int) → (Int → Int) → Prop, (∃ n_39 : Nat, Inv_38 n_39 x3_14 x5_37 B_partOf_16 B_rest_17 B_unknowns_18 B_cells_19) ∧ ∀ (n_40 : Nat) (x3_43 : Int) (x5_44 : Int) (B_partOf_45 : Int → Int) (B_rest_46 : Int → Int) (B_unknowns_47 : Int → Int) (B_cells_48 : Int → Int), inR x3_43 → inR x5_44 → Inv_38 n_40 x3_43 x5_44 B_partOf_45 B_rest_46 B_unknowns_47 B_cells_48 → ((0 ≤ x4_15 ∧ x4_15 < 144) ∧ (∀ v_50 : Int, v_50 = B_cells_48 x4_15 → inR v_50 → ((0 ≤ v_50 ∧ v_50 < 144) ∧ (∀ v_52 : Int, v_52 = G_nearEnd v_50 → inR v_52 → ((v_52 ≤ x5_44 → (inR (x4_15 + 1) ∧ (∀ x4_55 : Int, x4_55 = (x4_15 + 1) → (∃ n_56 : Nat, n_56 < n_11 ∧ Inv_9 n_56 x3_43 x4_55 B_partOf_45 B_rest_46 B_unknowns_47 B_cells_48)))) ∧ (¬ v_52 ≤ x5_44 → ((0 ≤ x5_44 ∧ x5_44 < 1152) ∧ (∀ v_58 : Int, v_58 = G_near x5_44 → inR v_58 → ((0 ≤ v_58 ∧ v_58 < 144) ∧ (∀ v_60 : Int, v_60 = B_chosen v_58 → (v_60 = 0 ∨ v_60 = 1) → (∃ J_61 : (Int) → (Int → Int) → (Int → Int) → (Int → Int) → (Int → Int) → Prop, ((v_60 = 0 → (J_61 x3_43 B_partOf_45 B_rest_46 B_unknowns_47 B_cells_48)) ∧ (¬ v_60 = 0 → ((0 ≤ v_58 ∧ v_58 < 144) ∧ (∀ v_73 : Int, v_73 = B_partOf_45 v_58 → inR v_73 → ((¬ v_73 = (-1) → (J_61 x3_43 B_partOf_45 B_rest_46 B_unknowns_47 B_cells_48)) ∧ (v_73 = (-1) → (P_X1_admit (fun (c_75 : Int) (B_partOf_76 : Int → Int) (B_rest_77 : Int → Int) (B_unknowns_78 : Int → Int) (B_cells_79 : Int → Int) => inR c_75 → (J_61 c_75 B_partOf_76 B_rest_77 B_unknowns_78 B_cells_79)) B_parts F_number F_state F_unknownNear F_hitNear G_near G_nearEnd B_partOf_45 B_rest_46 B_unknowns_47 B_cells_48 v_58 x3_43))))))) ∧ (∀ (x3_63 : Int) (B_partOf_64 : Int → Int) (B_rest_65 : Int → Int) (B_unknowns_66 : Int → Int) (B_cells_67 : Int → Int), inR x3_63 → J_61 x3_63 B_partOf_64 B_rest_65 B_unknowns_66 B_cells_67 → (inR (x5_44 + 1) ∧ (∀ x5_69 : Int, x5_69 = (x5_44 + 1) → (∃ n_70 : Nat, n_70 < n_40 ∧ Inv_38 n_70 x3_63 x5_69 B_partOf_64 B_rest_65 B_unknowns_66 B_cells_67)))))))))))))))))))))))) ∧ (J_20 → (inR (B_parts + 1) ∧ (∀ B_parts_24 : Int, B_parts_24 = (B_parts + 1) → ((0 ≤ B_parts_24 ∧ B_parts_24 < 145) ∧ (∀ B_partStart_27 : Int → Int, B_partStart_27 = upZ B_partStart B_parts_24 x3_14 → (inR (x3_14 - v_3) ∧ (inR (if B_longest < (x3_14 - v_3) then (x3_14 - v_3) else B_longest) ∧ (∀ B_longest_31 : Int, B_longest_31 = (if B_longest < (x3_14 - v_3) then (x3_14 - v_3) else B_longest) → (post B_parts_24 B_longest_31 B_partOf_16 B_rest_17 B_unknowns_18 B_partStart_27 B_cells_19)))))))))))) B_parts F_number F_state F_unknownNear F_hitNear G_near G_nearEnd B_partOf B_rest B_unknowns B_cells x1 v_3))
set_option maxRecDepth 100000 in
set_option maxHeartbeats 4000000 in
theorem c_X1_gather (l : Launch) (K : wK) (ad : Nat → Nat) {D_hasBoard : Int} {D_beganBlank : Int} {F_mines : Int} {F_moves : Int} {F_changes : Int} {G_width : Int} {G_height : Int} {G_size : Int} {B_parts : Int} {B_longest : Int} {S_groups : Int} {S_askedGroup : Int} {S_taken : Int} {R_waitingCount : Int} {R_metCount : Int} {A_grade : Int} {A_cell : Int} {A_mined : Int} {A_withTotal : Int} {A_numbers : Int} {X_low : Int} {X_high : Int} {Y_low : Int} {Y_high : Int} {F_mined : Int → Int} {F_number : Int → Int} {F_state : Int → Int} {F_cellsIn : Int → Int} {F_unknownNear : Int → Int} {F_hitNear : Int → Int} {F_moveStart : Int → Int} {F_changed : Int → Int} {F_waiting : Int → Int} {F_seen : Int → Int} {G_near : Int → Int} {G_nearEnd : Int → Int} {B_chosen : Int → Int} {B_partOf : Int → Int} {B_rest : Int → Int} {B_unknowns : Int → Int} {B_partStart : Int → Int} {B_cells : Int → Int} {S_minedSet : Int → Int} {S_safeSet : Int → Int} {S_partSet : Int → Int} {S_tally : Int → Int} {S_askedTally : Int → Int} {S_groupOf : Int → Int} {S_groupSize : Int → Int} {S_links : Int → Int} {S_linkEnd : Int → Int} {S_pick : Int → Int} {S_groupMinedSet : Int → Int} {S_groupSafeSet : Int → Int} {O_sums : Int → Int64} {O_nextSums : Int → Int64} {R_found : Int → Int} {R_openEnds : Int → Int} {R_need : Int → Int} {R_waiting : Int → Int} {R_waits : Int → Int} {R_common : Int → Int} {R_met : Int → Int} {A_number : Int → Int} {Q_mined : Int → Int64} {Q_all : Int → Int64} {Q_choices : Int → Int64} {Q_term : Int → Int64} {Q_divisor : Int → Int64} {Q_spare : Int → Int64} {X_limbs : Int → Int64} {X_sum : Int → Int64} {Y_limbs : Int → Int64} {Y_sum : Int → Int64} (x1 : Int) (rx1 : inR x1) (post : (Int) → (Int) → (Int → Int) → (Int → Int) → (Int → Int) → (Int → Int) → (Int → Int) → Prop) (h : P_X1_gather post B_parts B_longest F_number F_state F_unknownNear F_hitNear G_near G_nearEnd B_chosen B_partOf B_rest B_unknowns B_partStart B_cells x1) : mV l yX1_gather (Cond.code yX1_gather cX1_gather 7 none :: GT) ({ frames := 4, cells := 0, slots := 0, locals := 240 } : Room) [.ref (ad 3), .int (iI x1)] K ad (dW D_hasBoard D_beganBlank F_mines F_moves F_changes G_width G_height G_size B_parts B_longest S_groups S_askedGroup S_taken R_waitingCount R_metCount A_grade A_cell A_mined A_withTotal A_numbers X_low X_high Y_low Y_high F_mined F_number F_state F_cellsIn F_unknownNear F_hitNear F_moveStart F_changed F_waiting F_seen G_near G_nearEnd B_chosen B_partOf B_rest B_unknowns B_partStart B_cells S_minedSet S_safeSet S_partSet S_tally S_askedTally S_groupOf S_groupSize S_links S_linkEnd S_pick S_groupMinedSet S_groupSafeSet O_sums O_nextSums R_found R_openEnds R_need R_waiting R_waits R_common R_met A_number Q_mined Q_all Q_choices Q_term Q_divisor Q_spare X_limbs X_sum Y_limbs Y_sum) (fun u9 => ∃ B_parts9 B_longest9 B_partOf9 B_rest9 B_unknowns9 B_partStart9 B_cells9, u9 = (dW D_hasBoard D_beganBlank F_mines F_moves F_changes G_width G_height G_size B_parts9 B_longest9 S_groups S_askedGroup S_taken R_waitingCount R_metCount A_grade A_cell A_mined A_withTotal A_numbers X_low X_high Y_low Y_high F_mined F_number F_state F_cellsIn F_unknownNear F_hitNear F_moveStart F_changed F_waiting F_seen G_near G_nearEnd B_chosen B_partOf9 B_rest9 B_unknowns9 B_partStart9 B_cells9 S_minedSet S_safeSet S_partSet S_tally S_askedTally S_groupOf S_groupSize S_links S_linkEnd S_pick S_groupMinedSet S_groupSafeSet O_sums O_nextSums R_found R_openEnds R_need R_waiting R_waits R_common R_met A_number Q_mined Q_all Q_choices Q_term Q_divisor Q_spare X_limbs X_sum Y_limbs Y_sum) ∧ post B_parts9 B_longest9 B_partOf9 B_rest9 B_unknowns9 B_partStart9 B_cells9) := by
  refine mV_of (lv0 := [(0, .ref (ad 3)), (1, .int (iI x1))]) (by decide) (Nat.le_of_ble_eq_true rfl) rfl ?_
  intro p e s m args below meth c Q A C ret
  replace C : Cx p ({ frames := 4, cells := 0, slots := 0, locals := 240 } : Room) m c 0 0 cX1_gather 7 s args RX1 K A := C
  unfold P_X1_gather at h
  refine wa_aload_n C 0 rfl dX1_gather_0 rfl ?_
  refine wa_getR C 3 6 dW_3 rfl rfl (by decide) okX1 gw_171 dX1_gather_1 ?_
  refine wa_aload_n C 0 rfl dX1_gather_4 rfl ?_
  refine wa_getI C 3 8 dW_3 rfl rfl (by decide) okX1 gw_179 dX1_gather_5 (fun r_1 => ?_)
  obtain ⟨t_2, h⟩ := h
  refine wa_iald C 28 dW_28 dX1_gather_8 t_2.1 t_2.2 (fun v_3 ev_3 rv_3 => ?_)
  replace h := h v_3 ev_3 rv_3
  refine wa_istore_n C dX1_gather_9 rfl (by decide) rfl ?_
  refine wa_aload_n C 1 rfl dX1_gather_10 rfl ?_
  refine wa_iload_n C 2 rfl dX1_gather_11 rfl ?_
  refine wa_iload_n C 0 rfl dX1_gather_12 rfl ?_
  refine wa_callVi C (k := 3) (As := [.int (iI x1), .int (iI v_3)]) (rest := []) (c_X1_admit l K ad x1 v_3 rx1 rv_3 _ h) gw_741 gw_738 dW_3 rfl gw_740 gs_20 gw_4 q_X1_admit rfl rfl rfl ⟨by decide, by decide⟩ rfl (Nat.le_of_ble_eq_true rfl) dX1_gather_13 (fun c_4 u9 rc_4 hp => ?_)
  obtain ⟨B_partOf_5, B_rest_6, B_unknowns_7, B_cells_8, rfl, h⟩ := hp
  replace h := h rc_4
  refine wa_istore_n C dX1_gather_16 rfl (by decide) rfl ?_
  refine wa_iload_n C 1 rfl dX1_gather_17 rfl ?_
  refine wa_istore C dX1_gather_18 (by decide) rfl ?_
  obtain ⟨Inv_9, ⟨n_10, h0Inv_9⟩, hInv_9⟩ := h
  have k_13 : ∀ (n_11 : Nat) (x3_14 : Int) (x4_15 : Int) (B_partOf_16 : Int → Int) (B_rest_17 : Int → Int) (B_unknowns_18 : Int → Int) (B_cells_19 : Int → Int), inR x3_14 → inR x4_15 → Inv_9 n_11 x3_14 x4_15 B_partOf_16 B_rest_17 B_unknowns_18 B_cells_19 → WA p l e ({ frames := 4, cells := 0, slots := 0, locals := 240 } : Room) s m args below meth c 0 0 Q K ad 7 A 20 [(0, .ref (ad 3)), (2, .int (iI v_3)), (3, .int (iI x3_14)), (4, .int (iI x4_15))] [] (dW D_hasBoard D_beganBlank F_mines F_moves F_changes G_width G_height G_size B_parts B_longest S_groups S_askedGroup S_taken R_waitingCount R_metCount A_grade A_cell A_mined A_withTotal A_numbers X_low X_high Y_low Y_high F_mined F_number F_state F_cellsIn F_unknownNear F_hitNear F_moveStart F_changed F_waiting F_seen G_near G_nearEnd B_chosen B_partOf_16 B_rest_17 B_unknowns_18 B_partStart B_cells_19 S_minedSet S_safeSet S_partSet S_tally S_askedTally S_groupOf S_groupSize S_links S_linkEnd S_pick S_groupMinedSet S_groupSafeSet O_sums O_nextSums R_found R_openEnds R_need R_waiting R_waits R_common R_met A_number Q_mined Q_all Q_choices Q_term Q_divisor Q_spare X_limbs X_sum Y_limbs Y_sum) := by
    intro n_11
    induction n_11 using Nat.strongRecOn with
    | ind n_11 ih_12 =>
      intro x3_14 x4_15 B_partOf_16 B_rest_17 B_unknowns_18 B_cells_19 rx3_14 rx4_15 h
      replace h := hInv_9 n_11 x3_14 x4_15 B_partOf_16 B_rest_17 B_unknowns_18 B_cells_19 rx3_14 rx4_15 h
      refine wa_iload C 3 rfl dX1_gather_20 ?_
      refine wa_iload_n C 2 rfl dX1_gather_22 rfl ?_
      obtain ⟨J_20, h, hJ_20⟩ := h
      have k_21 : J_20 → WA p l e ({ frames := 4, cells := 0, slots := 0, locals := 240 } : Room) s m args below meth c 0 0 Q K ad 7 A 119 [(0, .ref (ad 3)), (2, .int (iI v_3)), (3, .int (iI x3_14))] [] (dW D_hasBoard D_beganBlank F_mines F_moves F_changes G_width G_height G_size B_parts B_longest S_groups S_askedGroup S_taken R_waitingCount R_metCount A_grade A_cell A_mined A_withTotal A_numbers X_low X_high Y_low Y_high F_mined F_number F_state F_cellsIn F_unknownNear F_hitNear F_moveStart F_changed F_waiting F_seen G_near G_nearEnd B_chosen B_partOf_16 B_rest_17 B_unknowns_18 B_partStart B_cells_19 S_minedSet S_safeSet S_partSet S_tally S_askedTally S_groupOf S_groupSize S_links S_linkEnd S_pick S_groupMinedSet S_groupSafeSet O_sums O_nextSums R_found R_openEnds R_need R_waiting R_waits R_common R_met A_number Q_mined Q_all Q_choices Q_term Q_divisor Q_spare X_limbs X_sum Y_limbs Y_sum) := by
        intro h
        replace h := hJ_20 h
        refine wa_aload_n C 0 rfl dX1_gather_119 rfl ?_
        refine wa_dup C dX1_gather_120 rfl ?_
        refine wa_getI C 3 8 dW_3 rfl rfl (by decide) okX1 gw_179 dX1_gather_121 (fun r_22 => ?_)
        refine wa_iconst C (z := 1) dX1_gather_124 rfl ?_
        refine wa_iadd C dX1_gather_125 ?_
        obtain ⟨r_23, h⟩ := h
        refine wa_nmi (fun B_parts_24 eB_parts_24 => ?_)
        replace h := h B_parts_24 eB_parts_24
        have rB_parts_24 : inR B_parts_24 := by rw [eB_parts_24]; exact r_23
        refine wa_putI C (ws' := (dW D_hasBoard D_beganBlank F_mines F_moves F_changes G_width G_height G_size B_parts_24 B_longest S_groups S_askedGroup S_taken R_waitingCount R_metCount A_grade A_cell A_mined A_withTotal A_numbers X_low X_high Y_low Y_high F_mined F_number F_state F_cellsIn F_unknownNear F_hitNear F_moveStart F_changed F_waiting F_seen G_near G_nearEnd B_chosen B_partOf_16 B_rest_17 B_unknowns_18 B_partStart B_cells_19 S_minedSet S_safeSet S_partSet S_tally S_askedTally S_groupOf S_groupSize S_links S_linkEnd S_pick S_groupMinedSet S_groupSafeSet O_sums O_nextSums R_found R_openEnds R_need R_waiting R_waits R_common R_met A_number Q_mined Q_all Q_choices Q_term Q_divisor Q_spare X_limbs X_sum Y_limbs Y_sum)) 3 8 dW_3 rfl (by decide) okX1 gw_179 rfl rfl (Nat.le_of_ble_eq_true rfl) rB_parts_24 (dWp_3_8 _) dX1_gather_126 ?_
        refine wa_aload_n C 0 rfl dX1_gather_129 rfl ?_
        refine wa_getR C 3 6 dW_3 rfl rfl (by decide) okX1 gw_171 dX1_gather_130 ?_
        refine wa_aload_n C 0 rfl dX1_gather_133 rfl ?_
        refine wa_getI C 3 8 dW_3 rfl rfl (by decide) okX1 gw_179 dX1_gather_134 (fun r_25 => ?_)
        refine wa_iload_n C 2 rfl dX1_gather_137 rfl ?_
        obtain ⟨t_26, h⟩ := h
        refine wa_iast C (ws' := fun w9 => (dW D_hasBoard D_beganBlank F_mines F_moves F_changes G_width G_height G_size B_parts_24 B_longest S_groups S_askedGroup S_taken R_waitingCount R_metCount A_grade A_cell A_mined A_withTotal A_numbers X_low X_high Y_low Y_high F_mined F_number F_state F_cellsIn F_unknownNear F_hitNear F_moveStart F_changed F_waiting F_seen G_near G_nearEnd B_chosen B_partOf_16 B_rest_17 B_unknowns_18 w9 B_cells_19 S_minedSet S_safeSet S_partSet S_tally S_askedTally S_groupOf S_groupSize S_links S_linkEnd S_pick S_groupMinedSet S_groupSafeSet O_sums O_nextSums R_found R_openEnds R_need R_waiting R_waits R_common R_met A_number Q_mined Q_all Q_choices Q_term Q_divisor Q_spare X_limbs X_sum Y_limbs Y_sum)) 28 dW_28 dX1_gather_138 t_26.1 t_26.2 rx3_14 dWs_28 (fun B_partStart_27 eB_partStart_27 => ?_)
        replace h := h B_partStart_27 eB_partStart_27
        refine wa_aload_n C 0 rfl dX1_gather_139 rfl ?_
        refine wa_aload_n C 0 rfl dX1_gather_140 rfl ?_
        refine wa_getI C 3 9 dW_3 rfl rfl (by decide) okX1 gw_180 dX1_gather_141 (fun r_28 => ?_)
        refine wa_iload_n C 2 rfl dX1_gather_144 rfl ?_
        refine wa_iload_n C 1 rfl dX1_gather_145 rfl ?_
        refine wa_isub C dX1_gather_146 ?_
        obtain ⟨r_29, h⟩ := h
        refine wa_max C r_28 r_29 gw_743 gw_744 gw_18 gw_745 (by decide) (Nat.le_of_ble_eq_true rfl) dX1_gather_147 ?_
        obtain ⟨r_30, h⟩ := h
        refine wa_nmi (fun B_longest_31 eB_longest_31 => ?_)
        replace h := h B_longest_31 eB_longest_31
        have rB_longest_31 : inR B_longest_31 := by rw [eB_longest_31]; exact r_30
        refine wa_putI C (ws' := (dW D_hasBoard D_beganBlank F_mines F_moves F_changes G_width G_height G_size B_parts_24 B_longest_31 S_groups S_askedGroup S_taken R_waitingCount R_metCount A_grade A_cell A_mined A_withTotal A_numbers X_low X_high Y_low Y_high F_mined F_number F_state F_cellsIn F_unknownNear F_hitNear F_moveStart F_changed F_waiting F_seen G_near G_nearEnd B_chosen B_partOf_16 B_rest_17 B_unknowns_18 B_partStart_27 B_cells_19 S_minedSet S_safeSet S_partSet S_tally S_askedTally S_groupOf S_groupSize S_links S_linkEnd S_pick S_groupMinedSet S_groupSafeSet O_sums O_nextSums R_found R_openEnds R_need R_waiting R_waits R_common R_met A_number Q_mined Q_all Q_choices Q_term Q_divisor Q_spare X_limbs X_sum Y_limbs Y_sum)) 3 9 dW_3 rfl (by decide) okX1 gw_180 rfl rfl (Nat.le_of_ble_eq_true rfl) rB_longest_31 (dWp_3_9 _) dX1_gather_150 ?_
        exact ret dX1_gather_153 ⟨_, _, _, _, _, _, _, rfl, h⟩
      refine wa_icmp_ge C (tgt := 119) rx4_15 rx3_14 dX1_gather_23 (by decide) (fun c_32 => ?_) (fun c_32 => ?_)
      · replace h := h.1 c_32
        refine wa_sub C [0, 1, 2] rfl ?_
        exact k_21 h
      · replace h := h.2 c_32
        refine wa_iload C 3 rfl dX1_gather_26 ?_
        refine wa_sipush C (z := 144) dX1_gather_28 (by decide) ?_
        refine wa_icmp_ge C (tgt := 119) rx4_15 (inR_k 144 rfl) dX1_gather_31 (by decide) (fun c_33 => ?_) (fun c_33 => ?_)
        · replace h := h.1 c_33
          refine wa_sub C [0, 1, 2] rfl ?_
          exact k_21 h
        · replace h := h.2 c_33
          refine wa_aload_n C 0 rfl dX1_gather_34 rfl ?_
          refine wa_getR C 3 7 dW_3 rfl rfl (by decide) okX1 gw_174 dX1_gather_35 ?_
          refine wa_iload C 3 rfl dX1_gather_38 ?_
          obtain ⟨t_34, h⟩ := h
          refine wa_iald C 29 dW_29 dX1_gather_40 t_34.1 t_34.2 (fun v_35 ev_35 rv_35 => ?_)
          replace h := h v_35 ev_35 rv_35
          refine wa_bipush C (z := 8) dX1_gather_41 (by decide) ?_
          refine wa_imul C dX1_gather_43 ?_
          obtain ⟨r_36, h⟩ := h
          refine wa_nmi (fun x5_37 ex5_37 => ?_)
          replace h := h x5_37 ex5_37
          have rx5_37 : inR x5_37 := by rw [ex5_37]; exact r_36
          refine wa_istore C dX1_gather_44 (by decide) rfl ?_
          obtain ⟨Inv_38, ⟨n_39, h0Inv_38⟩, hInv_38⟩ := h
          have k_42 : ∀ (n_40 : Nat) (x3_43 : Int) (x5_44 : Int) (B_partOf_45 : Int → Int) (B_rest_46 : Int → Int) (B_unknowns_47 : Int → Int) (B_cells_48 : Int → Int), inR x3_43 → inR x5_44 → Inv_38 n_40 x3_43 x5_44 B_partOf_45 B_rest_46 B_unknowns_47 B_cells_48 → WA p l e ({ frames := 4, cells := 0, slots := 0, locals := 240 } : Room) s m args below meth c 0 0 Q K ad 7 A 46 [(0, .ref (ad 3)), (2, .int (iI v_3)), (3, .int (iI x3_43)), (4, .int (iI x4_15)), (5, .int (iI x5_44))] [] (dW D_hasBoard D_beganBlank F_mines F_moves F_changes G_width G_height G_size B_parts B_longest S_groups S_askedGroup S_taken R_waitingCount R_metCount A_grade A_cell A_mined A_withTotal A_numbers X_low X_high Y_low Y_high F_mined F_number F_state F_cellsIn F_unknownNear F_hitNear F_moveStart F_changed F_waiting F_seen G_near G_nearEnd B_chosen B_partOf_45 B_rest_46 B_unknowns_47 B_partStart B_cells_48 S_minedSet S_safeSet S_partSet S_tally S_askedTally S_groupOf S_groupSize S_links S_linkEnd S_pick S_groupMinedSet S_groupSafeSet O_sums O_nextSums R_found R_openEnds R_need R_waiting R_waits R_common R_met A_number Q_mined Q_all Q_choices Q_term Q_divisor Q_spare X_limbs X_sum Y_limbs Y_sum) := by
            intro n_40
            induction n_40 using Nat.strongRecOn with
            | ind n_40 ih_41 =>
              intro x3_43 x5_44 B_partOf_45 B_rest_46 B_unknowns_47 B_cells_48 rx3_43 rx5_44 h
              replace h := hInv_38 n_40 x3_43 x5_44 B_partOf_45 B_rest_46 B_unknowns_47 B_cells_48 rx3_43 rx5_44 h
              refine wa_iload C 4 rfl dX1_gather_46 ?_
              refine wa_aload_n C 0 rfl dX1_gather_48 rfl ?_
              refine wa_getR C 3 1 dW_3 rfl rfl (by decide) okX1 gw_158 dX1_gather_49 ?_
              refine wa_getR C 2 4 dW_2 rfl rfl (by decide) okX3 gw_68 dX1_gather_52 ?_
              refine wa_aload_n C 0 rfl dX1_gather_55 rfl ?_
              refine wa_getR C 3 7 dW_3 rfl rfl (by decide) okX1 gw_174 dX1_gather_56 ?_
              refine wa_iload C 3 rfl dX1_gather_59 ?_
              obtain ⟨t_49, h⟩ := h
              refine wa_iald C 29 dW_29 dX1_gather_61 t_49.1 t_49.2 (fun v_50 ev_50 rv_50 => ?_)
              replace h := h v_50 ev_50 rv_50
              obtain ⟨t_51, h⟩ := h
              refine wa_iald C 23 dW_23 dX1_gather_62 t_51.1 t_51.2 (fun v_52 ev_52 rv_52 => ?_)
              replace h := h v_52 ev_52 rv_52
              refine wa_icmp_ge C (tgt := 113) rx5_44 rv_52 dX1_gather_63 (by decide) (fun c_53 => ?_) (fun c_53 => ?_)
              · replace h := h.1 c_53
                obtain ⟨r_54, h⟩ := h
                refine wa_iinc C (lv' := fun w9 => [(4, .int (iI w9)), (0, .ref (ad 3)), (2, .int (iI v_3)), (3, .int (iI x3_43)), (5, .int (iI x5_44))]) 3 rfl dX1_gather_113 (by decide) (fun _ => rfl) (fun x4_55 ex4_55 => ?_)
                replace h := h x4_55 ex4_55
                have rx4_55 : inR x4_55 := by rw [ex4_55]; exact r_54
                refine wa_goto C (tgt := 20) dX1_gather_116 (by decide) ?_
                obtain ⟨n_56, ln_56, h⟩ := h
                refine wa_sub C [1, 2, 3, 0] rfl ?_
                exact ih_12 n_56 ln_56 x3_43 x4_55 B_partOf_45 B_rest_46 B_unknowns_47 B_cells_48 rx3_43 rx4_55 h
              · replace h := h.2 c_53
                refine wa_aload_n C 0 rfl dX1_gather_66 rfl ?_
                refine wa_getR C 3 1 dW_3 rfl rfl (by decide) okX1 gw_158 dX1_gather_67 ?_
                refine wa_getR C 2 3 dW_2 rfl rfl (by decide) okX3 gw_62 dX1_gather_70 ?_
                refine wa_iload C 4 rfl dX1_gather_73 ?_
                obtain ⟨t_57, h⟩ := h
                refine wa_iald C 22 dW_22 dX1_gather_75 t_57.1 t_57.2 (fun v_58 ev_58 rv_58 => ?_)
                replace h := h v_58 ev_58 rv_58
                refine wa_istore C dX1_gather_76 (by decide) rfl ?_
                refine wa_aload_n C 1 rfl dX1_gather_78 rfl ?_
                refine wa_getR C 3 2 dW_3 rfl rfl (by decide) okX1 gw_160 dX1_gather_79 ?_
                refine wa_iload C 0 rfl dX1_gather_82 ?_
                obtain ⟨t_59, h⟩ := h
                refine wa_bald C 24 dW_24 dX1_gather_84 t_59.1 t_59.2 (fun v_60 ev_60 rv_60 => ?_)
                replace h := h v_60 ev_60 rv_60
                obtain ⟨J_61, h, hJ_61⟩ := h
                have k_62 : ∀ (x3_63 : Int) (B_partOf_64 : Int → Int) (B_rest_65 : Int → Int) (B_unknowns_66 : Int → Int) (B_cells_67 : Int → Int), inR x3_63 → J_61 x3_63 B_partOf_64 B_rest_65 B_unknowns_66 B_cells_67 → WA p l e ({ frames := 4, cells := 0, slots := 0, locals := 240 } : Room) s m args below meth c 0 0 Q K ad 7 A 107 [(0, .ref (ad 3)), (2, .int (iI v_3)), (3, .int (iI x3_63)), (4, .int (iI x4_15)), (5, .int (iI x5_44))] [] (dW D_hasBoard D_beganBlank F_mines F_moves F_changes G_width G_height G_size B_parts B_longest S_groups S_askedGroup S_taken R_waitingCount R_metCount A_grade A_cell A_mined A_withTotal A_numbers X_low X_high Y_low Y_high F_mined F_number F_state F_cellsIn F_unknownNear F_hitNear F_moveStart F_changed F_waiting F_seen G_near G_nearEnd B_chosen B_partOf_64 B_rest_65 B_unknowns_66 B_partStart B_cells_67 S_minedSet S_safeSet S_partSet S_tally S_askedTally S_groupOf S_groupSize S_links S_linkEnd S_pick S_groupMinedSet S_groupSafeSet O_sums O_nextSums R_found R_openEnds R_need R_waiting R_waits R_common R_met A_number Q_mined Q_all Q_choices Q_term Q_divisor Q_spare X_limbs X_sum Y_limbs Y_sum) := by
                  intro x3_63 B_partOf_64 B_rest_65 B_unknowns_66 B_cells_67 rx3_63 h
                  replace h := hJ_61 x3_63 B_partOf_64 B_rest_65 B_unknowns_66 B_cells_67 rx3_63 h
                  obtain ⟨r_68, h⟩ := h
                  refine wa_iinc C (lv' := fun w9 => [(5, .int (iI w9)), (0, .ref (ad 3)), (2, .int (iI v_3)), (3, .int (iI x3_63)), (4, .int (iI x4_15))]) 4 rfl dX1_gather_107 (by decide) (fun _ => rfl) (fun x5_69 ex5_69 => ?_)
                  replace h := h x5_69 ex5_69
                  have rx5_69 : inR x5_69 := by rw [ex5_69]; exact r_68
                  refine wa_goto C (tgt := 46) dX1_gather_110 (by decide) ?_
                  obtain ⟨n_70, ln_70, h⟩ := h
                  refine wa_sub C [1, 2, 3, 4, 0] rfl ?_
                  exact ih_41 n_70 ln_70 x3_63 x5_69 B_partOf_64 B_rest_65 B_unknowns_66 B_cells_67 rx3_63 rx5_69 h
                refine wa_if_eq C (tgt := 107) (inR_b rv_60) dX1_gather_85 (by decide) (fun c_71 => ?_) (fun c_71 => ?_)
                · replace h := h.1 c_71
                  refine wa_sub C [1, 2, 3, 4, 5] rfl ?_
                  exact k_62 x3_43 B_partOf_45 B_rest_46 B_unknowns_47 B_cells_48 rx3_43 h
                · replace h := h.2 c_71
                  refine wa_aload_n C 1 rfl dX1_gather_88 rfl ?_
                  refine wa_getR C 3 3 dW_3 rfl rfl (by decide) okX1 gw_163 dX1_gather_89 ?_
                  refine wa_iload C 0 rfl dX1_gather_92 ?_
                  obtain ⟨t_72, h⟩ := h
                  refine wa_iald C 25 dW_25 dX1_gather_94 t_72.1 t_72.2 (fun v_73 ev_73 rv_73 => ?_)
                  replace h := h v_73 ev_73 rv_73
                  refine wa_iconst C (z := -1) dX1_gather_95 rfl ?_
                  refine wa_icmp_ne C (tgt := 107) rv_73 (inR_k (-1) rfl) dX1_gather_96 (by decide) (fun c_74 => ?_) (fun c_74 => ?_)
                  · replace h := h.1 c_74
                    refine wa_sub C [1, 2, 3, 4, 5] rfl ?_
                    exact k_62 x3_43 B_partOf_45 B_rest_46 B_unknowns_47 B_cells_48 rx3_43 h
                  · replace h := h.2 c_74
                    refine wa_aload_n C 1 rfl dX1_gather_99 rfl ?_
                    refine wa_iload C 0 rfl dX1_gather_100 ?_
                    refine wa_iload_n C 3 rfl dX1_gather_102 rfl ?_
                    refine wa_callVi C (k := 3) (As := [.int (iI v_58), .int (iI x3_43)]) (rest := []) (c_X1_admit l K ad v_58 x3_43 rv_58 rx3_43 _ h) gw_741 gw_738 dW_3 rfl gw_740 gs_20 gw_4 q_X1_admit rfl rfl rfl ⟨by decide, by decide⟩ rfl (Nat.le_of_ble_eq_true rfl) dX1_gather_103 (fun c_75 u9 rc_75 hp => ?_)
                    obtain ⟨B_partOf_76, B_rest_77, B_unknowns_78, B_cells_79, rfl, h⟩ := hp
                    replace h := h rc_75
                    refine wa_istore_n C dX1_gather_106 rfl (by decide) rfl ?_
                    refine wa_sub C [2, 3, 0, 4, 5] rfl ?_
                    exact k_62 c_75 B_partOf_76 B_rest_77 B_unknowns_78 B_cells_79 rc_75 h
          refine wa_sub C [1, 2, 3, 4, 0] rfl ?_
          exact k_42 n_39 x3_14 x5_37 B_partOf_16 B_rest_17 B_unknowns_18 B_cells_19 rx3_14 rx5_37 h0Inv_38
  refine wa_sub C [3, 2, 1, 0] rfl ?_
  exact k_13 n_10 c_4 v_3 B_partOf_5 B_rest_6 B_unknowns_7 B_cells_8 rc_4 rv_3 h0Inv_9
def P_X1_split (post : (Int) → (Int) → (Int → Int) → (Int → Int) → (Int → Int) → (Int → Int) → (Int → Int) → Prop) (G_size : Int) (B_parts : Int) (B_longest : Int) (F_number : Int → Int) (F_state : Int → Int) (F_unknownNear : Int → Int) (F_hitNear : Int → Int) (G_near : Int → Int) (G_nearEnd : Int → Int) (B_chosen : Int → Int) (B_partOf : Int → Int) (B_rest : Int → Int) (B_unknowns : Int → Int) (B_partStart : Int → Int) (B_cells : Int → Int) : Prop :=
  P_J7_fill_53178_25 (fun (B_partOf_1 : Int → Int) => (∃ Inv_2 : Nat → (Int) → (Int) → (Int) → (Int → Int) → (Int → Int) → (Int → Int) → (Int → Int) → (Int → Int) → Prop, (∃ n_3 : Nat, Inv_2 n_3 0 0 0 B_partOf_1 B_rest B_unknowns B_partStart B_cells) ∧ ∀ (n_4 : Nat) (x1_7 : Int) (B_parts_8 : Int) (B_longest_9 : Int) (B_partOf_10 : Int → Int) (B_rest_11 : Int → Int) (B_unknowns_12 : Int → Int) (B_partStart_13 : Int → Int) (B_cells_14 : Int → Int), inR x1_7 → Inv_2 n_4 x1_7 B_parts_8 B_longest_9 B_partOf_10 B_rest_11 B_unknowns_12 B_partStart_13 B_cells_14 → ((G_size ≤ x1_7 → (post B_parts_8 B_longest_9 B_partOf_10 B_rest_11 B_unknowns_12 B_partStart_13 B_cells_14)) ∧ (¬ G_size ≤ x1_7 → ((0 ≤ x1_7 ∧ x1_7 < 144) ∧ (∀ v_18 : Int, v_18 = B_chosen x1_7 → (v_18 = 0 ∨ v_18 = 1) → (∃ J_19 : (Int) → (Int) → (Int → Int) → (Int → Int) → (Int → Int) → (Int → Int) → (Int → Int) → Prop, ((v_18 = 0 → (J_19 B_parts_8 B_longest_9 B_partOf_10 B_rest_11 B_unknowns_12 B_partStart_13 B_cells_14)) ∧ (¬ v_18 = 0 → ((0 ≤ x1_7 ∧ x1_7 < 144) ∧ (∀ v_33 : Int, v_33 = B_partOf_10 x1_7 → inR v_33 → ((¬ v_33 = (-1) → (J_19 B_parts_8 B_longest_9 B_partOf_10 B_rest_11 B_unknowns_12 B_partStart_13 B_cells_14)) ∧ (v_33 = (-1) → ((144 ≤ B_parts_8 → (J_19 B_parts_8 B_longest_9 B_partOf_10 B_rest_11 B_unknowns_12 B_partStart_13 B_cells_14)) ∧ (¬ 144 ≤ B_parts_8 → (P_X1_gather (fun (B_parts_37 : Int) (B_longest_38 : Int) (B_partOf_39 : Int → Int) (B_rest_40 : Int → Int) (B_unknowns_41 : Int → Int) (B_partStart_42 : Int → Int) (B_cells_43 : Int → Int) => (J_19 B_parts_37 B_longest_38 B_partOf_39 B_rest_40 B_unknowns_41 B_partStart_42 B_cells_43)) B_parts_8 B_longest_9 F_number F_state F_unknownNear F_hitNear G_near G_nearEnd B_chosen B_partOf_10 B_rest_11 B_unknowns_12 B_partStart_13 B_cells_14 x1_7))))))))) ∧ (∀ (B_parts_21 : Int) (B_longest_22 : Int) (B_partOf_23 : Int → Int) (B_rest_24 : Int → Int) (B_unknowns_25 : Int → Int) (B_partStart_26 : Int → Int) (B_cells_27 : Int → Int), J_19 B_parts_21 B_longest_22 B_partOf_23 B_rest_24 B_unknowns_25 B_partStart_26 B_cells_27 → (inR (x1_7 + 1) ∧ (∀ x1_29 : Int, x1_29 = (x1_7 + 1) → (∃ n_30 : Nat, n_30 < n_4 ∧ Inv_2 n_30 x1_29 B_parts_21 B_longest_22 B_partOf_23 B_rest_24 B_unknowns_25 B_partStart_26 B_cells_27))))))))))) B_partOf (-1)
set_option maxRecDepth 100000 in
set_option maxHeartbeats 4000000 in
theorem c_X1_split (l : Launch) (K : wK) (ad : Nat → Nat) {D_hasBoard : Int} {D_beganBlank : Int} {F_mines : Int} {F_moves : Int} {F_changes : Int} {G_width : Int} {G_height : Int} {G_size : Int} {B_parts : Int} {B_longest : Int} {S_groups : Int} {S_askedGroup : Int} {S_taken : Int} {R_waitingCount : Int} {R_metCount : Int} {A_grade : Int} {A_cell : Int} {A_mined : Int} {A_withTotal : Int} {A_numbers : Int} {X_low : Int} {X_high : Int} {Y_low : Int} {Y_high : Int} {F_mined : Int → Int} {F_number : Int → Int} {F_state : Int → Int} {F_cellsIn : Int → Int} {F_unknownNear : Int → Int} {F_hitNear : Int → Int} {F_moveStart : Int → Int} {F_changed : Int → Int} {F_waiting : Int → Int} {F_seen : Int → Int} {G_near : Int → Int} {G_nearEnd : Int → Int} {B_chosen : Int → Int} {B_partOf : Int → Int} {B_rest : Int → Int} {B_unknowns : Int → Int} {B_partStart : Int → Int} {B_cells : Int → Int} {S_minedSet : Int → Int} {S_safeSet : Int → Int} {S_partSet : Int → Int} {S_tally : Int → Int} {S_askedTally : Int → Int} {S_groupOf : Int → Int} {S_groupSize : Int → Int} {S_links : Int → Int} {S_linkEnd : Int → Int} {S_pick : Int → Int} {S_groupMinedSet : Int → Int} {S_groupSafeSet : Int → Int} {O_sums : Int → Int64} {O_nextSums : Int → Int64} {R_found : Int → Int} {R_openEnds : Int → Int} {R_need : Int → Int} {R_waiting : Int → Int} {R_waits : Int → Int} {R_common : Int → Int} {R_met : Int → Int} {A_number : Int → Int} {Q_mined : Int → Int64} {Q_all : Int → Int64} {Q_choices : Int → Int64} {Q_term : Int → Int64} {Q_divisor : Int → Int64} {Q_spare : Int → Int64} {X_limbs : Int → Int64} {X_sum : Int → Int64} {Y_limbs : Int → Int64} {Y_sum : Int → Int64}   (post : (Int) → (Int) → (Int → Int) → (Int → Int) → (Int → Int) → (Int → Int) → (Int → Int) → Prop) (h : P_X1_split post G_size B_parts B_longest F_number F_state F_unknownNear F_hitNear G_near G_nearEnd B_chosen B_partOf B_rest B_unknowns B_partStart B_cells) : mV l yX1_split (Cond.code yX1_split cX1_split 2 none :: GT) ({ frames := 5, cells := 0, slots := 0, locals := 300 } : Room) [.ref (ad 3)] K ad (dW D_hasBoard D_beganBlank F_mines F_moves F_changes G_width G_height G_size B_parts B_longest S_groups S_askedGroup S_taken R_waitingCount R_metCount A_grade A_cell A_mined A_withTotal A_numbers X_low X_high Y_low Y_high F_mined F_number F_state F_cellsIn F_unknownNear F_hitNear F_moveStart F_changed F_waiting F_seen G_near G_nearEnd B_chosen B_partOf B_rest B_unknowns B_partStart B_cells S_minedSet S_safeSet S_partSet S_tally S_askedTally S_groupOf S_groupSize S_links S_linkEnd S_pick S_groupMinedSet S_groupSafeSet O_sums O_nextSums R_found R_openEnds R_need R_waiting R_waits R_common R_met A_number Q_mined Q_all Q_choices Q_term Q_divisor Q_spare X_limbs X_sum Y_limbs Y_sum) (fun u9 => ∃ B_parts9 B_longest9 B_partOf9 B_rest9 B_unknowns9 B_partStart9 B_cells9, u9 = (dW D_hasBoard D_beganBlank F_mines F_moves F_changes G_width G_height G_size B_parts9 B_longest9 S_groups S_askedGroup S_taken R_waitingCount R_metCount A_grade A_cell A_mined A_withTotal A_numbers X_low X_high Y_low Y_high F_mined F_number F_state F_cellsIn F_unknownNear F_hitNear F_moveStart F_changed F_waiting F_seen G_near G_nearEnd B_chosen B_partOf9 B_rest9 B_unknowns9 B_partStart9 B_cells9 S_minedSet S_safeSet S_partSet S_tally S_askedTally S_groupOf S_groupSize S_links S_linkEnd S_pick S_groupMinedSet S_groupSafeSet O_sums O_nextSums R_found R_openEnds R_need R_waiting R_waits R_common R_met A_number Q_mined Q_all Q_choices Q_term Q_divisor Q_spare X_limbs X_sum Y_limbs Y_sum) ∧ post B_parts9 B_longest9 B_partOf9 B_rest9 B_unknowns9 B_partStart9 B_cells9) := by
  refine mV_of (lv0 := [(0, .ref (ad 3))]) (by decide) (Nat.le_of_ble_eq_true rfl) rfl ?_
  intro p e s m args below meth c Q A C ret
  replace C : Cx p ({ frames := 5, cells := 0, slots := 0, locals := 300 } : Room) m c 0 0 cX1_split 2 s args RX1 K A := C
  unfold P_X1_split at h
  refine wa_aload_n C 0 rfl dX1_split_0 rfl ?_
  refine wa_getR C 3 3 dW_3 rfl rfl (by decide) okX1 gw_163 dX1_split_1 ?_
  refine wa_iconst C (z := -1) dX1_split_4 rfl ?_
  refine wa_callSv C (As := [.ref (ad 25), .int (iI (-1))]) (rest := []) (c_J7_fill_53178_25 l K ad (-1) (inR_k (-1) rfl) _ h) gw_601 gw_733 gw_600 gw_17 q_J7_fill_53178 rfl rfl rfl ⟨by decide, by decide⟩ rfl (Nat.le_of_ble_eq_true rfl) dX1_split_5 (fun u9 hp => ?_)
  obtain ⟨B_partOf_1, rfl, h⟩ := hp
  refine wa_aload_n C 0 rfl dX1_split_8 rfl ?_
  refine wa_iconst C (z := 0) dX1_split_9 rfl ?_
  refine wa_putI C (ws' := (dW D_hasBoard D_beganBlank F_mines F_moves F_changes G_width G_height G_size 0 B_longest S_groups S_askedGroup S_taken R_waitingCount R_metCount A_grade A_cell A_mined A_withTotal A_numbers X_low X_high Y_low Y_high F_mined F_number F_state F_cellsIn F_unknownNear F_hitNear F_moveStart F_changed F_waiting F_seen G_near G_nearEnd B_chosen B_partOf_1 B_rest B_unknowns B_partStart B_cells S_minedSet S_safeSet S_partSet S_tally S_askedTally S_groupOf S_groupSize S_links S_linkEnd S_pick S_groupMinedSet S_groupSafeSet O_sums O_nextSums R_found R_openEnds R_need R_waiting R_waits R_common R_met A_number Q_mined Q_all Q_choices Q_term Q_divisor Q_spare X_limbs X_sum Y_limbs Y_sum)) 3 8 dW_3 rfl (by decide) okX1 gw_179 rfl rfl (Nat.le_of_ble_eq_true rfl) (inR_k 0 rfl) (dWp_3_8 _) dX1_split_10 ?_
  refine wa_aload_n C 0 rfl dX1_split_13 rfl ?_
  refine wa_iconst C (z := 0) dX1_split_14 rfl ?_
  refine wa_putI C (ws' := (dW D_hasBoard D_beganBlank F_mines F_moves F_changes G_width G_height G_size 0 0 S_groups S_askedGroup S_taken R_waitingCount R_metCount A_grade A_cell A_mined A_withTotal A_numbers X_low X_high Y_low Y_high F_mined F_number F_state F_cellsIn F_unknownNear F_hitNear F_moveStart F_changed F_waiting F_seen G_near G_nearEnd B_chosen B_partOf_1 B_rest B_unknowns B_partStart B_cells S_minedSet S_safeSet S_partSet S_tally S_askedTally S_groupOf S_groupSize S_links S_linkEnd S_pick S_groupMinedSet S_groupSafeSet O_sums O_nextSums R_found R_openEnds R_need R_waiting R_waits R_common R_met A_number Q_mined Q_all Q_choices Q_term Q_divisor Q_spare X_limbs X_sum Y_limbs Y_sum)) 3 9 dW_3 rfl (by decide) okX1 gw_180 rfl rfl (Nat.le_of_ble_eq_true rfl) (inR_k 0 rfl) (dWp_3_9 _) dX1_split_15 ?_
  refine wa_iconst C (z := 0) dX1_split_18 rfl ?_
  refine wa_istore_n C dX1_split_19 rfl (by decide) rfl ?_
  obtain ⟨Inv_2, ⟨n_3, h0Inv_2⟩, hInv_2⟩ := h
  have k_6 : ∀ (n_4 : Nat) (x1_7 : Int) (B_parts_8 : Int) (B_longest_9 : Int) (B_partOf_10 : Int → Int) (B_rest_11 : Int → Int) (B_unknowns_12 : Int → Int) (B_partStart_13 : Int → Int) (B_cells_14 : Int → Int), inR x1_7 → Inv_2 n_4 x1_7 B_parts_8 B_longest_9 B_partOf_10 B_rest_11 B_unknowns_12 B_partStart_13 B_cells_14 → WA p l e ({ frames := 5, cells := 0, slots := 0, locals := 300 } : Room) s m args below meth c 0 0 Q K ad 2 A 20 [(0, .ref (ad 3)), (1, .int (iI x1_7))] [] (dW D_hasBoard D_beganBlank F_mines F_moves F_changes G_width G_height G_size B_parts_8 B_longest_9 S_groups S_askedGroup S_taken R_waitingCount R_metCount A_grade A_cell A_mined A_withTotal A_numbers X_low X_high Y_low Y_high F_mined F_number F_state F_cellsIn F_unknownNear F_hitNear F_moveStart F_changed F_waiting F_seen G_near G_nearEnd B_chosen B_partOf_10 B_rest_11 B_unknowns_12 B_partStart_13 B_cells_14 S_minedSet S_safeSet S_partSet S_tally S_askedTally S_groupOf S_groupSize S_links S_linkEnd S_pick S_groupMinedSet S_groupSafeSet O_sums O_nextSums R_found R_openEnds R_need R_waiting R_waits R_common R_met A_number Q_mined Q_all Q_choices Q_term Q_divisor Q_spare X_limbs X_sum Y_limbs Y_sum) := by
    intro n_4
    induction n_4 using Nat.strongRecOn with
    | ind n_4 ih_5 =>
      intro x1_7 B_parts_8 B_longest_9 B_partOf_10 B_rest_11 B_unknowns_12 B_partStart_13 B_cells_14 rx1_7 h
      replace h := hInv_2 n_4 x1_7 B_parts_8 B_longest_9 B_partOf_10 B_rest_11 B_unknowns_12 B_partStart_13 B_cells_14 rx1_7 h
      refine wa_iload_n C 1 rfl dX1_split_20 rfl ?_
      refine wa_aload_n C 0 rfl dX1_split_21 rfl ?_
      refine wa_getR C 3 1 dW_3 rfl rfl (by decide) okX1 gw_158 dX1_split_22 ?_
      refine wa_getI C 2 2 dW_2 rfl rfl (by decide) okX3 gw_52 dX1_split_25 (fun r_15 => ?_)
      refine wa_icmp_ge C (tgt := 71) rx1_7 r_15 dX1_split_28 (by decide) (fun c_16 => ?_) (fun c_16 => ?_)
      · replace h := h.1 c_16
        exact ret dX1_split_71 ⟨_, _, _, _, _, _, _, rfl, h⟩
      · replace h := h.2 c_16
        refine wa_aload_n C 0 rfl dX1_split_31 rfl ?_
        refine wa_getR C 3 2 dW_3 rfl rfl (by decide) okX1 gw_160 dX1_split_32 ?_
        refine wa_iload_n C 1 rfl dX1_split_35 rfl ?_
        obtain ⟨t_17, h⟩ := h
        refine wa_bald C 24 dW_24 dX1_split_36 t_17.1 t_17.2 (fun v_18 ev_18 rv_18 => ?_)
        replace h := h v_18 ev_18 rv_18
        obtain ⟨J_19, h, hJ_19⟩ := h
        have k_20 : ∀ (B_parts_21 : Int) (B_longest_22 : Int) (B_partOf_23 : Int → Int) (B_rest_24 : Int → Int) (B_unknowns_25 : Int → Int) (B_partStart_26 : Int → Int) (B_cells_27 : Int → Int), J_19 B_parts_21 B_longest_22 B_partOf_23 B_rest_24 B_unknowns_25 B_partStart_26 B_cells_27 → WA p l e ({ frames := 5, cells := 0, slots := 0, locals := 300 } : Room) s m args below meth c 0 0 Q K ad 2 A 65 [(0, .ref (ad 3)), (1, .int (iI x1_7))] [] (dW D_hasBoard D_beganBlank F_mines F_moves F_changes G_width G_height G_size B_parts_21 B_longest_22 S_groups S_askedGroup S_taken R_waitingCount R_metCount A_grade A_cell A_mined A_withTotal A_numbers X_low X_high Y_low Y_high F_mined F_number F_state F_cellsIn F_unknownNear F_hitNear F_moveStart F_changed F_waiting F_seen G_near G_nearEnd B_chosen B_partOf_23 B_rest_24 B_unknowns_25 B_partStart_26 B_cells_27 S_minedSet S_safeSet S_partSet S_tally S_askedTally S_groupOf S_groupSize S_links S_linkEnd S_pick S_groupMinedSet S_groupSafeSet O_sums O_nextSums R_found R_openEnds R_need R_waiting R_waits R_common R_met A_number Q_mined Q_all Q_choices Q_term Q_divisor Q_spare X_limbs X_sum Y_limbs Y_sum) := by
          intro B_parts_21 B_longest_22 B_partOf_23 B_rest_24 B_unknowns_25 B_partStart_26 B_cells_27 h
          replace h := hJ_19 B_parts_21 B_longest_22 B_partOf_23 B_rest_24 B_unknowns_25 B_partStart_26 B_cells_27 h
          obtain ⟨r_28, h⟩ := h
          refine wa_iinc C (lv' := fun w9 => [(1, .int (iI w9)), (0, .ref (ad 3))]) 1 rfl dX1_split_65 (by decide) (fun _ => rfl) (fun x1_29 ex1_29 => ?_)
          replace h := h x1_29 ex1_29
          have rx1_29 : inR x1_29 := by rw [ex1_29]; exact r_28
          refine wa_goto C (tgt := 20) dX1_split_68 (by decide) ?_
          obtain ⟨n_30, ln_30, h⟩ := h
          refine wa_sub C [1, 0] rfl ?_
          exact ih_5 n_30 ln_30 x1_29 B_parts_21 B_longest_22 B_partOf_23 B_rest_24 B_unknowns_25 B_partStart_26 B_cells_27 rx1_29 h
        refine wa_if_eq C (tgt := 65) (inR_b rv_18) dX1_split_37 (by decide) (fun c_31 => ?_) (fun c_31 => ?_)
        · replace h := h.1 c_31
          refine wa_sub C [0, 1] rfl ?_
          exact k_20 B_parts_8 B_longest_9 B_partOf_10 B_rest_11 B_unknowns_12 B_partStart_13 B_cells_14 h
        · replace h := h.2 c_31
          refine wa_aload_n C 0 rfl dX1_split_40 rfl ?_
          refine wa_getR C 3 3 dW_3 rfl rfl (by decide) okX1 gw_163 dX1_split_41 ?_
          refine wa_iload_n C 1 rfl dX1_split_44 rfl ?_
          obtain ⟨t_32, h⟩ := h
          refine wa_iald C 25 dW_25 dX1_split_45 t_32.1 t_32.2 (fun v_33 ev_33 rv_33 => ?_)
          replace h := h v_33 ev_33 rv_33
          refine wa_iconst C (z := -1) dX1_split_46 rfl ?_
          refine wa_icmp_ne C (tgt := 65) rv_33 (inR_k (-1) rfl) dX1_split_47 (by decide) (fun c_34 => ?_) (fun c_34 => ?_)
          · replace h := h.1 c_34
            refine wa_sub C [0, 1] rfl ?_
            exact k_20 B_parts_8 B_longest_9 B_partOf_10 B_rest_11 B_unknowns_12 B_partStart_13 B_cells_14 h
          · replace h := h.2 c_34
            refine wa_aload_n C 0 rfl dX1_split_50 rfl ?_
            refine wa_getI C 3 8 dW_3 rfl rfl (by decide) okX1 gw_179 dX1_split_51 (fun r_35 => ?_)
            refine wa_sipush C (z := 144) dX1_split_54 (by decide) ?_
            refine wa_icmp_ge C (tgt := 65) r_35 (inR_k 144 rfl) dX1_split_57 (by decide) (fun c_36 => ?_) (fun c_36 => ?_)
            · replace h := h.1 c_36
              refine wa_sub C [0, 1] rfl ?_
              exact k_20 B_parts_8 B_longest_9 B_partOf_10 B_rest_11 B_unknowns_12 B_partStart_13 B_cells_14 h
            · replace h := h.2 c_36
              refine wa_aload_n C 0 rfl dX1_split_60 rfl ?_
              refine wa_iload_n C 1 rfl dX1_split_61 rfl ?_
              refine wa_callVv C (k := 3) (As := [.int (iI x1_7)]) (rest := []) (c_X1_gather l K ad x1_7 rx1_7 _ h) gw_737 gw_734 dW_3 rfl gw_736 gs_19 gw_4 q_X1_gather rfl rfl rfl ⟨by decide, by decide⟩ rfl (Nat.le_of_ble_eq_true rfl) dX1_split_62 (fun u9 hp => ?_)
              obtain ⟨B_parts_37, B_longest_38, B_partOf_39, B_rest_40, B_unknowns_41, B_partStart_42, B_cells_43, rfl, h⟩ := hp
              refine wa_sub C [0, 1] rfl ?_
              exact k_20 B_parts_37 B_longest_38 B_partOf_39 B_rest_40 B_unknowns_41 B_partStart_42 B_cells_43 h
  refine wa_sub C [1, 0] rfl ?_
  exact k_6 n_3 0 0 0 B_partOf_1 B_rest B_unknowns B_partStart B_cells (inR_k 0 rfl) h0Inv_2
def P_X1_isTooLong (post : Int → Prop) (B_longest : Int) : Prop :=
  ∃ J_2 : (Int) → Prop, ((B_longest ≤ 16 → (J_2 0)) ∧ (¬ B_longest ≤ 16 → (J_2 1))) ∧ (∀ (z_4 : Int), inR z_4 → J_2 z_4 → ((z_4 = 0 ∨ z_4 = 1) ∧ (post z_4)))
set_option maxRecDepth 100000 in
set_option maxHeartbeats 4000000 in
theorem c_X1_isTooLong (l : Launch) (K : wK) (ad : Nat → Nat) {D_hasBoard : Int} {D_beganBlank : Int} {F_mines : Int} {F_moves : Int} {F_changes : Int} {G_width : Int} {G_height : Int} {G_size : Int} {B_parts : Int} {B_longest : Int} {S_groups : Int} {S_askedGroup : Int} {S_taken : Int} {R_waitingCount : Int} {R_metCount : Int} {A_grade : Int} {A_cell : Int} {A_mined : Int} {A_withTotal : Int} {A_numbers : Int} {X_low : Int} {X_high : Int} {Y_low : Int} {Y_high : Int} {F_mined : Int → Int} {F_number : Int → Int} {F_state : Int → Int} {F_cellsIn : Int → Int} {F_unknownNear : Int → Int} {F_hitNear : Int → Int} {F_moveStart : Int → Int} {F_changed : Int → Int} {F_waiting : Int → Int} {F_seen : Int → Int} {G_near : Int → Int} {G_nearEnd : Int → Int} {B_chosen : Int → Int} {B_partOf : Int → Int} {B_rest : Int → Int} {B_unknowns : Int → Int} {B_partStart : Int → Int} {B_cells : Int → Int} {S_minedSet : Int → Int} {S_safeSet : Int → Int} {S_partSet : Int → Int} {S_tally : Int → Int} {S_askedTally : Int → Int} {S_groupOf : Int → Int} {S_groupSize : Int → Int} {S_links : Int → Int} {S_linkEnd : Int → Int} {S_pick : Int → Int} {S_groupMinedSet : Int → Int} {S_groupSafeSet : Int → Int} {O_sums : Int → Int64} {O_nextSums : Int → Int64} {R_found : Int → Int} {R_openEnds : Int → Int} {R_need : Int → Int} {R_waiting : Int → Int} {R_waits : Int → Int} {R_common : Int → Int} {R_met : Int → Int} {A_number : Int → Int} {Q_mined : Int → Int64} {Q_all : Int → Int64} {Q_choices : Int → Int64} {Q_term : Int → Int64} {Q_divisor : Int → Int64} {Q_spare : Int → Int64} {X_limbs : Int → Int64} {X_sum : Int → Int64} {Y_limbs : Int → Int64} {Y_sum : Int → Int64}   (post : Int → Prop) (h : P_X1_isTooLong post B_longest) : mI l yX1_isTooLong (Cond.code yX1_isTooLong cX1_isTooLong 1 (some .boolean) :: GT) ({ frames := 2, cells := 0, slots := 0, locals := 120 } : Room) [.ref (ad 3)] K ad (dW D_hasBoard D_beganBlank F_mines F_moves F_changes G_width G_height G_size B_parts B_longest S_groups S_askedGroup S_taken R_waitingCount R_metCount A_grade A_cell A_mined A_withTotal A_numbers X_low X_high Y_low Y_high F_mined F_number F_state F_cellsIn F_unknownNear F_hitNear F_moveStart F_changed F_waiting F_seen G_near G_nearEnd B_chosen B_partOf B_rest B_unknowns B_partStart B_cells S_minedSet S_safeSet S_partSet S_tally S_askedTally S_groupOf S_groupSize S_links S_linkEnd S_pick S_groupMinedSet S_groupSafeSet O_sums O_nextSums R_found R_openEnds R_need R_waiting R_waits R_common R_met A_number Q_mined Q_all Q_choices Q_term Q_divisor Q_spare X_limbs X_sum Y_limbs Y_sum) (fun z9 u9 => (z9 = 0 ∨ z9 = 1) ∧ u9 = (dW D_hasBoard D_beganBlank F_mines F_moves F_changes G_width G_height G_size B_parts B_longest S_groups S_askedGroup S_taken R_waitingCount R_metCount A_grade A_cell A_mined A_withTotal A_numbers X_low X_high Y_low Y_high F_mined F_number F_state F_cellsIn F_unknownNear F_hitNear F_moveStart F_changed F_waiting F_seen G_near G_nearEnd B_chosen B_partOf B_rest B_unknowns B_partStart B_cells S_minedSet S_safeSet S_partSet S_tally S_askedTally S_groupOf S_groupSize S_links S_linkEnd S_pick S_groupMinedSet S_groupSafeSet O_sums O_nextSums R_found R_openEnds R_need R_waiting R_waits R_common R_met A_number Q_mined Q_all Q_choices Q_term Q_divisor Q_spare X_limbs X_sum Y_limbs Y_sum) ∧ post z9) := by
  refine mZ_of (lv0 := [(0, .ref (ad 3))]) (by decide) (Nat.le_of_ble_eq_true rfl) rfl ?_
  intro p e s m args below meth c Q A C ret
  replace C : Cx p ({ frames := 2, cells := 0, slots := 0, locals := 120 } : Room) m c 0 0 cX1_isTooLong 1 s args RX1 K A := C
  unfold P_X1_isTooLong at h
  refine wa_aload_n C 0 rfl dX1_isTooLong_0 rfl ?_
  refine wa_getI C 3 9 dW_3 rfl rfl (by decide) okX1 gw_180 dX1_isTooLong_1 (fun r_1 => ?_)
  refine wa_bipush C (z := 16) dX1_isTooLong_4 (by decide) ?_
  obtain ⟨J_2, h, hJ_2⟩ := h
  have k_3 : ∀ (z_4 : Int), inR z_4 → J_2 z_4 → WA p l e ({ frames := 2, cells := 0, slots := 0, locals := 120 } : Room) s m args below meth c 0 0 Q K ad 1 A 14 [] [.int (iI z_4)] (dW D_hasBoard D_beganBlank F_mines F_moves F_changes G_width G_height G_size B_parts B_longest S_groups S_askedGroup S_taken R_waitingCount R_metCount A_grade A_cell A_mined A_withTotal A_numbers X_low X_high Y_low Y_high F_mined F_number F_state F_cellsIn F_unknownNear F_hitNear F_moveStart F_changed F_waiting F_seen G_near G_nearEnd B_chosen B_partOf B_rest B_unknowns B_partStart B_cells S_minedSet S_safeSet S_partSet S_tally S_askedTally S_groupOf S_groupSize S_links S_linkEnd S_pick S_groupMinedSet S_groupSafeSet O_sums O_nextSums R_found R_openEnds R_need R_waiting R_waits R_common R_met A_number Q_mined Q_all Q_choices Q_term Q_divisor Q_spare X_limbs X_sum Y_limbs Y_sum) := by
    intro z_4 rz_4 h
    replace h := hJ_2 z_4 rz_4 h
    obtain ⟨b_5, h⟩ := h
    exact ret dX1_isTooLong_14 b_5 ⟨b_5, rfl, h⟩
  refine wa_icmp_le C (tgt := 13) r_1 (inR_k 16 rfl) dX1_isTooLong_6 (by decide) (fun c_6 => ?_) (fun c_6 => ?_)
  · replace h := h.1 c_6
    refine wa_iconst C (z := 0) dX1_isTooLong_13 rfl ?_
    refine wa_sub C [] rfl ?_
    exact k_3 0 (inR_k 0 rfl) h
  · replace h := h.2 c_6
    refine wa_iconst C (z := 1) dX1_isTooLong_9 rfl ?_
    refine wa_goto C (tgt := 14) dX1_isTooLong_10 (by decide) ?_
    refine wa_sub C [] rfl ?_
    exact k_3 1 (inR_k 1 rfl) h
def P_X1_sizeOf (post : Int → Prop) (B_partStart : Int → Int) (x1 : Int) : Prop :=
  (0 ≤ (x1 + 1) ∧ (x1 + 1) < 145) ∧ (∀ v_2 : Int, v_2 = B_partStart (x1 + 1) → inR v_2 → ((0 ≤ x1 ∧ x1 < 145) ∧ (∀ v_4 : Int, v_4 = B_partStart x1 → inR v_4 → (inR (v_2 - v_4) ∧ (post (v_2 - v_4))))))
set_option maxRecDepth 100000 in
set_option maxHeartbeats 4000000 in
theorem c_X1_sizeOf (l : Launch) (K : wK) (ad : Nat → Nat) {D_hasBoard : Int} {D_beganBlank : Int} {F_mines : Int} {F_moves : Int} {F_changes : Int} {G_width : Int} {G_height : Int} {G_size : Int} {B_parts : Int} {B_longest : Int} {S_groups : Int} {S_askedGroup : Int} {S_taken : Int} {R_waitingCount : Int} {R_metCount : Int} {A_grade : Int} {A_cell : Int} {A_mined : Int} {A_withTotal : Int} {A_numbers : Int} {X_low : Int} {X_high : Int} {Y_low : Int} {Y_high : Int} {F_mined : Int → Int} {F_number : Int → Int} {F_state : Int → Int} {F_cellsIn : Int → Int} {F_unknownNear : Int → Int} {F_hitNear : Int → Int} {F_moveStart : Int → Int} {F_changed : Int → Int} {F_waiting : Int → Int} {F_seen : Int → Int} {G_near : Int → Int} {G_nearEnd : Int → Int} {B_chosen : Int → Int} {B_partOf : Int → Int} {B_rest : Int → Int} {B_unknowns : Int → Int} {B_partStart : Int → Int} {B_cells : Int → Int} {S_minedSet : Int → Int} {S_safeSet : Int → Int} {S_partSet : Int → Int} {S_tally : Int → Int} {S_askedTally : Int → Int} {S_groupOf : Int → Int} {S_groupSize : Int → Int} {S_links : Int → Int} {S_linkEnd : Int → Int} {S_pick : Int → Int} {S_groupMinedSet : Int → Int} {S_groupSafeSet : Int → Int} {O_sums : Int → Int64} {O_nextSums : Int → Int64} {R_found : Int → Int} {R_openEnds : Int → Int} {R_need : Int → Int} {R_waiting : Int → Int} {R_waits : Int → Int} {R_common : Int → Int} {R_met : Int → Int} {A_number : Int → Int} {Q_mined : Int → Int64} {Q_all : Int → Int64} {Q_choices : Int → Int64} {Q_term : Int → Int64} {Q_divisor : Int → Int64} {Q_spare : Int → Int64} {X_limbs : Int → Int64} {X_sum : Int → Int64} {Y_limbs : Int → Int64} {Y_sum : Int → Int64} (x1 : Int) (rx1 : inR x1) (post : Int → Prop) (h : P_X1_sizeOf post B_partStart x1) : mI l yX1_sizeOf (Cond.code yX1_sizeOf cX1_sizeOf 2 (some .int) :: GT) ({ frames := 2, cells := 0, slots := 0, locals := 120 } : Room) [.ref (ad 3), .int (iI x1)] K ad (dW D_hasBoard D_beganBlank F_mines F_moves F_changes G_width G_height G_size B_parts B_longest S_groups S_askedGroup S_taken R_waitingCount R_metCount A_grade A_cell A_mined A_withTotal A_numbers X_low X_high Y_low Y_high F_mined F_number F_state F_cellsIn F_unknownNear F_hitNear F_moveStart F_changed F_waiting F_seen G_near G_nearEnd B_chosen B_partOf B_rest B_unknowns B_partStart B_cells S_minedSet S_safeSet S_partSet S_tally S_askedTally S_groupOf S_groupSize S_links S_linkEnd S_pick S_groupMinedSet S_groupSafeSet O_sums O_nextSums R_found R_openEnds R_need R_waiting R_waits R_common R_met A_number Q_mined Q_all Q_choices Q_term Q_divisor Q_spare X_limbs X_sum Y_limbs Y_sum) (fun z9 u9 => u9 = (dW D_hasBoard D_beganBlank F_mines F_moves F_changes G_width G_height G_size B_parts B_longest S_groups S_askedGroup S_taken R_waitingCount R_metCount A_grade A_cell A_mined A_withTotal A_numbers X_low X_high Y_low Y_high F_mined F_number F_state F_cellsIn F_unknownNear F_hitNear F_moveStart F_changed F_waiting F_seen G_near G_nearEnd B_chosen B_partOf B_rest B_unknowns B_partStart B_cells S_minedSet S_safeSet S_partSet S_tally S_askedTally S_groupOf S_groupSize S_links S_linkEnd S_pick S_groupMinedSet S_groupSafeSet O_sums O_nextSums R_found R_openEnds R_need R_waiting R_waits R_common R_met A_number Q_mined Q_all Q_choices Q_term Q_divisor Q_spare X_limbs X_sum Y_limbs Y_sum) ∧ post z9) := by
  refine mI_of (lv0 := [(0, .ref (ad 3)), (1, .int (iI x1))]) (by decide) (Nat.le_of_ble_eq_true rfl) rfl ?_
  intro p e s m args below meth c Q A C ret
  replace C : Cx p ({ frames := 2, cells := 0, slots := 0, locals := 120 } : Room) m c 0 0 cX1_sizeOf 2 s args RX1 K A := C
  unfold P_X1_sizeOf at h
  refine wa_aload_n C 0 rfl dX1_sizeOf_0 rfl ?_
  refine wa_getR C 3 6 dW_3 rfl rfl (by decide) okX1 gw_171 dX1_sizeOf_1 ?_
  refine wa_iload_n C 1 rfl dX1_sizeOf_4 rfl ?_
  refine wa_iconst C (z := 1) dX1_sizeOf_5 rfl ?_
  refine wa_iadd C dX1_sizeOf_6 ?_
  obtain ⟨t_1, h⟩ := h
  refine wa_iald C 28 dW_28 dX1_sizeOf_7 t_1.1 t_1.2 (fun v_2 ev_2 rv_2 => ?_)
  replace h := h v_2 ev_2 rv_2
  refine wa_aload_n C 0 rfl dX1_sizeOf_8 rfl ?_
  refine wa_getR C 3 6 dW_3 rfl rfl (by decide) okX1 gw_171 dX1_sizeOf_9 ?_
  refine wa_iload_n C 1 rfl dX1_sizeOf_12 rfl ?_
  obtain ⟨t_3, h⟩ := h
  refine wa_iald C 28 dW_28 dX1_sizeOf_13 t_3.1 t_3.2 (fun v_4 ev_4 rv_4 => ?_)
  replace h := h v_4 ev_4 rv_4
  refine wa_isub C dX1_sizeOf_14 ?_
  obtain ⟨r_5, h⟩ := h
  exact ret dX1_sizeOf_15 r_5 ⟨rfl, h⟩
def P_X1_freeCells (post : Int → Prop) (B_parts : Int) (F_cellsIn : Int → Int) (B_partStart : Int → Int) : Prop :=
  P_X2_unknownCells (fun (c_1 : Int) => inR c_1 → ((0 ≤ B_parts ∧ B_parts < 145) ∧ (∀ v_4 : Int, v_4 = B_partStart B_parts → inR v_4 → (inR (c_1 - v_4) ∧ (post (c_1 - v_4)))))) F_cellsIn 
set_option maxRecDepth 100000 in
set_option maxHeartbeats 4000000 in
theorem c_X1_freeCells (l : Launch) (K : wK) (ad : Nat → Nat) {D_hasBoard : Int} {D_beganBlank : Int} {F_mines : Int} {F_moves : Int} {F_changes : Int} {G_width : Int} {G_height : Int} {G_size : Int} {B_parts : Int} {B_longest : Int} {S_groups : Int} {S_askedGroup : Int} {S_taken : Int} {R_waitingCount : Int} {R_metCount : Int} {A_grade : Int} {A_cell : Int} {A_mined : Int} {A_withTotal : Int} {A_numbers : Int} {X_low : Int} {X_high : Int} {Y_low : Int} {Y_high : Int} {F_mined : Int → Int} {F_number : Int → Int} {F_state : Int → Int} {F_cellsIn : Int → Int} {F_unknownNear : Int → Int} {F_hitNear : Int → Int} {F_moveStart : Int → Int} {F_changed : Int → Int} {F_waiting : Int → Int} {F_seen : Int → Int} {G_near : Int → Int} {G_nearEnd : Int → Int} {B_chosen : Int → Int} {B_partOf : Int → Int} {B_rest : Int → Int} {B_unknowns : Int → Int} {B_partStart : Int → Int} {B_cells : Int → Int} {S_minedSet : Int → Int} {S_safeSet : Int → Int} {S_partSet : Int → Int} {S_tally : Int → Int} {S_askedTally : Int → Int} {S_groupOf : Int → Int} {S_groupSize : Int → Int} {S_links : Int → Int} {S_linkEnd : Int → Int} {S_pick : Int → Int} {S_groupMinedSet : Int → Int} {S_groupSafeSet : Int → Int} {O_sums : Int → Int64} {O_nextSums : Int → Int64} {R_found : Int → Int} {R_openEnds : Int → Int} {R_need : Int → Int} {R_waiting : Int → Int} {R_waits : Int → Int} {R_common : Int → Int} {R_met : Int → Int} {A_number : Int → Int} {Q_mined : Int → Int64} {Q_all : Int → Int64} {Q_choices : Int → Int64} {Q_term : Int → Int64} {Q_divisor : Int → Int64} {Q_spare : Int → Int64} {X_limbs : Int → Int64} {X_sum : Int → Int64} {Y_limbs : Int → Int64} {Y_sum : Int → Int64}   (post : Int → Prop) (h : P_X1_freeCells post B_parts F_cellsIn B_partStart) : mI l yX1_freeCells (Cond.code yX1_freeCells cX1_freeCells 1 (some .int) :: GT) ({ frames := 3, cells := 0, slots := 0, locals := 180 } : Room) [.ref (ad 3)] K ad (dW D_hasBoard D_beganBlank F_mines F_moves F_changes G_width G_height G_size B_parts B_longest S_groups S_askedGroup S_taken R_waitingCount R_metCount A_grade A_cell A_mined A_withTotal A_numbers X_low X_high Y_low Y_high F_mined F_number F_state F_cellsIn F_unknownNear F_hitNear F_moveStart F_changed F_waiting F_seen G_near G_nearEnd B_chosen B_partOf B_rest B_unknowns B_partStart B_cells S_minedSet S_safeSet S_partSet S_tally S_askedTally S_groupOf S_groupSize S_links S_linkEnd S_pick S_groupMinedSet S_groupSafeSet O_sums O_nextSums R_found R_openEnds R_need R_waiting R_waits R_common R_met A_number Q_mined Q_all Q_choices Q_term Q_divisor Q_spare X_limbs X_sum Y_limbs Y_sum) (fun z9 u9 => u9 = (dW D_hasBoard D_beganBlank F_mines F_moves F_changes G_width G_height G_size B_parts B_longest S_groups S_askedGroup S_taken R_waitingCount R_metCount A_grade A_cell A_mined A_withTotal A_numbers X_low X_high Y_low Y_high F_mined F_number F_state F_cellsIn F_unknownNear F_hitNear F_moveStart F_changed F_waiting F_seen G_near G_nearEnd B_chosen B_partOf B_rest B_unknowns B_partStart B_cells S_minedSet S_safeSet S_partSet S_tally S_askedTally S_groupOf S_groupSize S_links S_linkEnd S_pick S_groupMinedSet S_groupSafeSet O_sums O_nextSums R_found R_openEnds R_need R_waiting R_waits R_common R_met A_number Q_mined Q_all Q_choices Q_term Q_divisor Q_spare X_limbs X_sum Y_limbs Y_sum) ∧ post z9) := by
  refine mI_of (lv0 := [(0, .ref (ad 3))]) (by decide) (Nat.le_of_ble_eq_true rfl) rfl ?_
  intro p e s m args below meth c Q A C ret
  replace C : Cx p ({ frames := 3, cells := 0, slots := 0, locals := 180 } : Room) m c 0 0 cX1_freeCells 1 s args RX1 K A := C
  unfold P_X1_freeCells at h
  refine wa_aload_n C 0 rfl dX1_freeCells_0 rfl ?_
  refine wa_getR C 3 0 dW_3 rfl rfl (by decide) okX1 gw_156 dX1_freeCells_1 ?_
  refine wa_callVi C (k := 1) (As := []) (rest := []) (c_X2_unknownCells l K ad  _ h) gw_810 gw_807 dW_1 rfl gw_808 gw_809 gw_2 q_X2_unknownCells rfl rfl rfl ⟨by decide, by decide⟩ rfl (Nat.le_of_ble_eq_true rfl) dX1_freeCells_4 (fun c_1 u9 rc_1 hp => ?_)
  obtain ⟨rfl, h⟩ := hp
  replace h := h rc_1
  refine wa_aload_n C 0 rfl dX1_freeCells_7 rfl ?_
  refine wa_getR C 3 6 dW_3 rfl rfl (by decide) okX1 gw_171 dX1_freeCells_8 ?_
  refine wa_aload_n C 0 rfl dX1_freeCells_11 rfl ?_
  refine wa_getI C 3 8 dW_3 rfl rfl (by decide) okX1 gw_179 dX1_freeCells_12 (fun r_2 => ?_)
  obtain ⟨t_3, h⟩ := h
  refine wa_iald C 28 dW_28 dX1_freeCells_15 t_3.1 t_3.2 (fun v_4 ev_4 rv_4 => ?_)
  replace h := h v_4 ev_4 rv_4
  refine wa_isub C dX1_freeCells_16 ?_
  obtain ⟨r_5, h⟩ := h
  exact ret dX1_freeCells_17 r_5 ⟨rfl, h⟩
