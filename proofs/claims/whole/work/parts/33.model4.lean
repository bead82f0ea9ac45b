theorem dX12_firstFound_0 : decode cX12_firstFound 0 = .ok (.iconst (-1), 1) := by decide +kernel
theorem dX12_firstFound_1 : decode cX12_firstFound 1 = .ok (.istore_n 1, 1) := by decide +kernel
theorem dX12_firstFound_2 : decode cX12_firstFound 2 = .ok (.aload_n 0, 1) := by decide +kernel
theorem dX12_firstFound_3 : decode cX12_firstFound 3 = .ok (.getfield 100, 3) := by decide +kernel
theorem dX12_firstFound_6 : decode cX12_firstFound 6 = .ok (.iconst 1, 1) := by decide +kernel
theorem dX12_firstFound_7 : decode cX12_firstFound 7 = .ok (.isub, 1) := by decide +kernel
theorem dX12_firstFound_8 : decode cX12_firstFound 8 = .ok (.istore_n 2, 1) := by decide +kernel
theorem dX12_firstFound_9 : decode cX12_firstFound 9 = .ok (.iload_n 2, 1) := by decide +kernel
theorem dX12_firstFound_10 : decode cX12_firstFound 10 = .ok (.ifCond .lt 47, 3) := by decide +kernel
theorem dX12_firstFound_13 : decode cX12_firstFound 13 = .ok (.aload_n 0, 1) := by decide +kernel
theorem dX12_firstFound_14 : decode cX12_firstFound 14 = .ok (.iload_n 2, 1) := by decide +kernel
theorem dX12_firstFound_15 : decode cX12_firstFound 15 = .ok (.invokevirtual 143, 3) := by decide +kernel
theorem dX12_firstFound_18 : decode cX12_firstFound 18 = .ok (.ifCond .eq 33, 3) := by decide +kernel
theorem dX12_firstFound_21 : decode cX12_firstFound 21 = .ok (.aload_n 0, 1) := by decide +kernel
theorem dX12_firstFound_22 : decode cX12_firstFound 22 = .ok (.getfield 30, 3) := by decide +kernel
theorem dX12_firstFound_25 : decode cX12_firstFound 25 = .ok (.iload_n 2, 1) := by decide +kernel
theorem dX12_firstFound_26 : decode cX12_firstFound 26 = .ok (.baload, 1) := by decide +kernel
theorem dX12_firstFound_27 : decode cX12_firstFound 27 = .ok (.ifCond .ne 22, 3) := by decide +kernel
theorem dX12_firstFound_30 : decode cX12_firstFound 30 = .ok (.aload_n 0, 1) := by decide +kernel
theorem dX12_firstFound_31 : decode cX12_firstFound 31 = .ok (.getfield 33, 3) := by decide +kernel
theorem dX12_firstFound_34 : decode cX12_firstFound 34 = .ok (.iload_n 2, 1) := by decide +kernel
theorem dX12_firstFound_35 : decode cX12_firstFound 35 = .ok (.baload, 1) := by decide +kernel
theorem dX12_firstFound_36 : decode cX12_firstFound 36 = .ok (.ifCond .eq 15, 3) := by decide +kernel
theorem dX12_firstFound_39 : decode cX12_firstFound 39 = .ok (.aload_n 0, 1) := by decide +kernel
theorem dX12_firstFound_40 : decode cX12_firstFound 40 = .ok (.getfield 20, 3) := by decide +kernel
theorem dX12_firstFound_43 : decode cX12_firstFound 43 = .ok (.iload_n 2, 1) := by decide +kernel
theorem dX12_firstFound_44 : decode cX12_firstFound 44 = .ok (.iaload, 1) := by decide +kernel
theorem dX12_firstFound_45 : decode cX12_firstFound 45 = .ok (.iconst 2, 1) := by decide +kernel
theorem dX12_firstFound_46 : decode cX12_firstFound 46 = .ok (.if_icmp .eq 5, 3) := by decide +kernel
theorem dX12_firstFound_49 : decode cX12_firstFound 49 = .ok (.iload_n 2, 1) := by decide +kernel
theorem dX12_firstFound_50 : decode cX12_firstFound 50 = .ok (.istore_n 1, 1) := by decide +kernel
theorem dX12_firstFound_51 : decode cX12_firstFound 51 = .ok (.iinc 2 (-1), 3) := by decide +kernel
theorem dX12_firstFound_54 : decode cX12_firstFound 54 = .ok (.goto (-45), 3) := by decide +kernel
theorem dX12_firstFound_57 : decode cX12_firstFound 57 = .ok (.iload_n 1, 1) := by decide +kernel
theorem dX12_firstFound_58 : decode cX12_firstFound 58 = .ok (.ireturn, 1) := by decide +kernel
theorem dX12_isForced_0 : decode cX12_isForced 0 = .ok (.aload_n 0, 1) := by decide +kernel
theorem dX12_isForced_1 : decode cX12_isForced 1 = .ok (.invokevirtual 283, 3) := by decide +kernel
theorem dX12_isForced_4 : decode cX12_isForced 4 = .ok (.ifCond .eq 28, 3) := by decide +kernel
theorem dX12_isForced_7 : decode cX12_isForced 7 = .ok (.aload_n 0, 1) := by decide +kernel
theorem dX12_isForced_8 : decode cX12_isForced 8 = .ok (.iload_n 1, 1) := by decide +kernel
theorem dX12_isForced_9 : decode cX12_isForced 9 = .ok (.iload_n 2, 1) := by decide +kernel
theorem dX12_isForced_10 : decode cX12_isForced 10 = .ok (.ifCond .ne 7, 3) := by decide +kernel
theorem dX12_isForced_13 : decode cX12_isForced 13 = .ok (.iconst 1, 1) := by decide +kernel
theorem dX12_isForced_14 : decode cX12_isForced 14 = .ok (.goto 4, 3) := by decide +kernel
theorem dX12_isForced_17 : decode cX12_isForced 17 = .ok (.iconst 0, 1) := by decide +kernel
theorem dX12_isForced_18 : decode cX12_isForced 18 = .ok (.aload_n 0, 1) := by decide +kernel
theorem dX12_isForced_19 : decode cX12_isForced 19 = .ok (.getfield 129, 3) := by decide +kernel
theorem dX12_isForced_22 : decode cX12_isForced 22 = .ok (.invokevirtual 286, 3) := by decide +kernel
theorem dX12_isForced_25 : decode cX12_isForced 25 = .ok (.ifCond .ne 7, 3) := by decide +kernel
theorem dX12_isForced_28 : decode cX12_isForced 28 = .ok (.iconst 1, 1) := by decide +kernel
theorem dX12_isForced_29 : decode cX12_isForced 29 = .ok (.goto 4, 3) := by decide +kernel
theorem dX12_isForced_32 : decode cX12_isForced 32 = .ok (.iconst 0, 1) := by decide +kernel
theorem dX12_isForced_33 : decode cX12_isForced 33 = .ok (.ireturn, 1) := by decide +kernel
theorem dX12_usePart_0 : decode cX12_usePart 0 = .ok (.aload_n 0, 1) := by decide +kernel
theorem dX12_usePart_1 : decode cX12_usePart 1 = .ok (.invokevirtual 280, 3) := by decide +kernel
theorem dX12_usePart_4 : decode cX12_usePart 4 = .ok (.aload_n 0, 1) := by decide +kernel
theorem dX12_usePart_5 : decode cX12_usePart 5 = .ok (.invokevirtual 258, 3) := by decide +kernel
theorem dX12_usePart_8 : decode cX12_usePart 8 = .ok (.pop, 1) := by decide +kernel
theorem dX12_usePart_9 : decode cX12_usePart 9 = .ok (.aload_n 0, 1) := by decide +kernel
theorem dX12_usePart_10 : decode cX12_usePart 10 = .ok (.getfield 39, 3) := by decide +kernel
theorem dX12_usePart_13 : decode cX12_usePart 13 = .ok (.iload_n 1, 1) := by decide +kernel
theorem dX12_usePart_14 : decode cX12_usePart 14 = .ok (.iaload, 1) := by decide +kernel
theorem dX12_usePart_15 : decode cX12_usePart 15 = .ok (.istore_n 2, 1) := by decide +kernel
theorem dX12_usePart_16 : decode cX12_usePart 16 = .ok (.iconst 0, 1) := by decide +kernel
theorem dX12_usePart_17 : decode cX12_usePart 17 = .ok (.istore_n 3, 1) := by decide +kernel
theorem dX12_usePart_18 : decode cX12_usePart 18 = .ok (.iload_n 3, 1) := by decide +kernel
theorem dX12_usePart_19 : decode cX12_usePart 19 = .ok (.aload_n 0, 1) := by decide +kernel
theorem dX12_usePart_20 : decode cX12_usePart 20 = .ok (.getfield 100, 3) := by decide +kernel
theorem dX12_usePart_23 : decode cX12_usePart 23 = .ok (.if_icmp .ge 101, 3) := by decide +kernel
theorem dX12_usePart_26 : decode cX12_usePart 26 = .ok (.iconst 0, 1) := by decide +kernel
theorem dX12_usePart_27 : decode cX12_usePart 27 = .ok (.istore 4, 2) := by decide +kernel
theorem dX12_usePart_29 : decode cX12_usePart 29 = .ok (.iconst 0, 1) := by decide +kernel
theorem dX12_usePart_30 : decode cX12_usePart 30 = .ok (.istore 5, 2) := by decide +kernel
theorem dX12_usePart_32 : decode cX12_usePart 32 = .ok (.iload 5, 2) := by decide +kernel
theorem dX12_usePart_34 : decode cX12_usePart 34 = .ok (.aload_n 0, 1) := by decide +kernel
theorem dX12_usePart_35 : decode cX12_usePart 35 = .ok (.getfield 13, 3) := by decide +kernel
theorem dX12_usePart_38 : decode cX12_usePart 38 = .ok (.iload_n 3, 1) := by decide +kernel
theorem dX12_usePart_39 : decode cX12_usePart 39 = .ok (.iaload, 1) := by decide +kernel
theorem dX12_usePart_40 : decode cX12_usePart 40 = .ok (.if_icmp .ge 70, 3) := by decide +kernel
theorem dX12_usePart_43 : decode cX12_usePart 43 = .ok (.aload_n 0, 1) := by decide +kernel
theorem dX12_usePart_44 : decode cX12_usePart 44 = .ok (.getfield 36, 3) := by decide +kernel
theorem dX12_usePart_47 : decode cX12_usePart 47 = .ok (.iload_n 3, 1) := by decide +kernel
theorem dX12_usePart_48 : decode cX12_usePart 48 = .ok (.baload, 1) := by decide +kernel
theorem dX12_usePart_49 : decode cX12_usePart 49 = .ok (.ifCond .eq 61, 3) := by decide +kernel
theorem dX12_usePart_52 : decode cX12_usePart 52 = .ok (.iload 4, 2) := by decide +kernel
theorem dX12_usePart_54 : decode cX12_usePart 54 = .ok (.ifCond .ne 43, 3) := by decide +kernel
theorem dX12_usePart_57 : decode cX12_usePart 57 = .ok (.aload_n 0, 1) := by decide +kernel
theorem dX12_usePart_58 : decode cX12_usePart 58 = .ok (.aload_n 0, 1) := by decide +kernel
theorem dX12_usePart_59 : decode cX12_usePart 59 = .ok (.getfield 7, 3) := by decide +kernel
theorem dX12_usePart_62 : decode cX12_usePart 62 = .ok (.bipush 8, 2) := by decide +kernel
theorem dX12_usePart_64 : decode cX12_usePart 64 = .ok (.iload_n 3, 1) := by decide +kernel
theorem dX12_usePart_65 : decode cX12_usePart 65 = .ok (.imul, 1) := by decide +kernel
theorem dX12_usePart_66 : decode cX12_usePart 66 = .ok (.iload 5, 2) := by decide +kernel
theorem dX12_usePart_68 : decode cX12_usePart 68 = .ok (.iadd, 1) := by decide +kernel
theorem dX12_usePart_69 : decode cX12_usePart 69 = .ok (.iaload, 1) := by decide +kernel
theorem dX12_usePart_70 : decode cX12_usePart 70 = .ok (.invokevirtual 143, 3) := by decide +kernel
theorem dX12_usePart_73 : decode cX12_usePart 73 = .ok (.ifCond .eq 28, 3) := by decide +kernel
theorem dX12_usePart_76 : decode cX12_usePart 76 = .ok (.aload_n 0, 1) := by decide +kernel
theorem dX12_usePart_77 : decode cX12_usePart 77 = .ok (.getfield 39, 3) := by decide +kernel
theorem dX12_usePart_80 : decode cX12_usePart 80 = .ok (.aload_n 0, 1) := by decide +kernel
theorem dX12_usePart_81 : decode cX12_usePart 81 = .ok (.getfield 7, 3) := by decide +kernel
theorem dX12_usePart_84 : decode cX12_usePart 84 = .ok (.bipush 8, 2) := by decide +kernel
theorem dX12_usePart_86 : decode cX12_usePart 86 = .ok (.iload_n 3, 1) := by decide +kernel
theorem dX12_usePart_87 : decode cX12_usePart 87 = .ok (.imul, 1) := by decide +kernel
theorem dX12_usePart_88 : decode cX12_usePart 88 = .ok (.iload 5, 2) := by decide +kernel
theorem dX12_usePart_90 : decode cX12_usePart 90 = .ok (.iadd, 1) := by decide +kernel
theorem dX12_usePart_91 : decode cX12_usePart 91 = .ok (.iaload, 1) := by decide +kernel
theorem dX12_usePart_92 : decode cX12_usePart 92 = .ok (.iaload, 1) := by decide +kernel
theorem dX12_usePart_93 : decode cX12_usePart 93 = .ok (.iload_n 2, 1) := by decide +kernel
theorem dX12_usePart_94 : decode cX12_usePart 94 = .ok (.if_icmp .ne 7, 3) := by decide +kernel
theorem dX12_usePart_97 : decode cX12_usePart 97 = .ok (.iconst 1, 1) := by decide +kernel
theorem dX12_usePart_98 : decode cX12_usePart 98 = .ok (.goto 4, 3) := by decide +kernel
theorem dX12_usePart_101 : decode cX12_usePart 101 = .ok (.iconst 0, 1) := by decide +kernel
theorem dX12_usePart_102 : decode cX12_usePart 102 = .ok (.istore 4, 2) := by decide +kernel
theorem dX12_usePart_104 : decode cX12_usePart 104 = .ok (.iinc 5 1, 3) := by decide +kernel
theorem dX12_usePart_107 : decode cX12_usePart 107 = .ok (.goto (-75), 3) := by decide +kernel
theorem dX12_usePart_110 : decode cX12_usePart 110 = .ok (.aload_n 0, 1) := by decide +kernel
theorem dX12_usePart_111 : decode cX12_usePart 111 = .ok (.getfield 36, 3) := by decide +kernel
theorem dX12_usePart_114 : decode cX12_usePart 114 = .ok (.iload_n 3, 1) := by decide +kernel
theorem dX12_usePart_115 : decode cX12_usePart 115 = .ok (.iload 4, 2) := by decide +kernel
theorem dX12_usePart_117 : decode cX12_usePart 117 = .ok (.bastore, 1) := by decide +kernel
theorem dX12_usePart_118 : decode cX12_usePart 118 = .ok (.iinc 3 1, 3) := by decide +kernel
theorem dX12_usePart_121 : decode cX12_usePart 121 = .ok (.goto (-103), 3) := by decide +kernel
theorem dX12_usePart_124 : decode cX12_usePart 124 = .ok (.return_, 1) := by decide +kernel
theorem dX12_findReason_0 : decode cX12_findReason 0 = .ok (.aload_n 0, 1) := by decide +kernel
theorem dX12_findReason_1 : decode cX12_findReason 1 = .ok (.invokevirtual 280, 3) := by decide +kernel
theorem dX12_findReason_4 : decode cX12_findReason 4 = .ok (.aload_n 0, 1) := by decide +kernel
theorem dX12_findReason_5 : decode cX12_findReason 5 = .ok (.invokevirtual 258, 3) := by decide +kernel
theorem dX12_findReason_8 : decode cX12_findReason 8 = .ok (.istore_n 3, 1) := by decide +kernel
theorem dX12_findReason_9 : decode cX12_findReason 9 = .ok (.aload_n 0, 1) := by decide +kernel
theorem dX12_findReason_10 : decode cX12_findReason 10 = .ok (.getfield 39, 3) := by decide +kernel
theorem dX12_findReason_13 : decode cX12_findReason 13 = .ok (.iload_n 1, 1) := by decide +kernel
theorem dX12_findReason_14 : decode cX12_findReason 14 = .ok (.iaload, 1) := by decide +kernel
theorem dX12_findReason_15 : decode cX12_findReason 15 = .ok (.ifCond .lt 7, 3) := by decide +kernel
theorem dX12_findReason_18 : decode cX12_findReason 18 = .ok (.iconst 1, 1) := by decide +kernel
theorem dX12_findReason_19 : decode cX12_findReason 19 = .ok (.goto 4, 3) := by decide +kernel
theorem dX12_findReason_22 : decode cX12_findReason 22 = .ok (.iconst 0, 1) := by decide +kernel
theorem dX12_findReason_23 : decode cX12_findReason 23 = .ok (.istore 4, 2) := by decide +kernel
theorem dX12_findReason_25 : decode cX12_findReason 25 = .ok (.aload_n 0, 1) := by decide +kernel
theorem dX12_findReason_26 : decode cX12_findReason 26 = .ok (.iconst 0, 1) := by decide +kernel
theorem dX12_findReason_27 : decode cX12_findReason 27 = .ok (.putfield 129, 3) := by decide +kernel
theorem dX12_findReason_30 : decode cX12_findReason 30 = .ok (.iload 4, 2) := by decide +kernel
theorem dX12_findReason_32 : decode cX12_findReason 32 = .ok (.ifCond .eq 8, 3) := by decide +kernel
theorem dX12_findReason_35 : decode cX12_findReason 35 = .ok (.aload_n 0, 1) := by decide +kernel
theorem dX12_findReason_36 : decode cX12_findReason 36 = .ok (.iload_n 1, 1) := by decide +kernel
theorem dX12_findReason_37 : decode cX12_findReason 37 = .ok (.invokevirtual 289, 3) := by decide +kernel
theorem dX12_findReason_40 : decode cX12_findReason 40 = .ok (.iload_n 3, 1) := by decide +kernel
theorem dX12_findReason_41 : decode cX12_findReason 41 = .ok (.ifCond .eq 26, 3) := by decide +kernel
theorem dX12_findReason_44 : decode cX12_findReason 44 = .ok (.iload 4, 2) := by decide +kernel
theorem dX12_findReason_46 : decode cX12_findReason 46 = .ok (.ifCond .eq 12, 3) := by decide +kernel
theorem dX12_findReason_49 : decode cX12_findReason 49 = .ok (.aload_n 0, 1) := by decide +kernel
theorem dX12_findReason_50 : decode cX12_findReason 50 = .ok (.iload_n 1, 1) := by decide +kernel
theorem dX12_findReason_51 : decode cX12_findReason 51 = .ok (.iload_n 2, 1) := by decide +kernel
theorem dX12_findReason_52 : decode cX12_findReason 52 = .ok (.invokevirtual 292, 3) := by decide +kernel
theorem dX12_findReason_55 : decode cX12_findReason 55 = .ok (.ifCond .ne 12, 3) := by decide +kernel
theorem dX12_findReason_58 : decode cX12_findReason 58 = .ok (.aload_n 0, 1) := by decide +kernel
theorem dX12_findReason_59 : decode cX12_findReason 59 = .ok (.invokevirtual 280, 3) := by decide +kernel
theorem dX12_findReason_62 : decode cX12_findReason 62 = .ok (.aload_n 0, 1) := by decide +kernel
theorem dX12_findReason_63 : decode cX12_findReason 63 = .ok (.iconst 1, 1) := by decide +kernel
theorem dX12_findReason_64 : decode cX12_findReason 64 = .ok (.putfield 129, 3) := by decide +kernel
theorem dX12_findReason_67 : decode cX12_findReason 67 = .ok (.aload_n 0, 1) := by decide +kernel
theorem dX12_findReason_68 : decode cX12_findReason 68 = .ok (.getfield 100, 3) := by decide +kernel
theorem dX12_findReason_71 : decode cX12_findReason 71 = .ok (.iconst 1, 1) := by decide +kernel
theorem dX12_findReason_72 : decode cX12_findReason 72 = .ok (.isub, 1) := by decide +kernel
theorem dX12_findReason_73 : decode cX12_findReason 73 = .ok (.istore 5, 2) := by decide +kernel
theorem dX12_findReason_75 : decode cX12_findReason 75 = .ok (.iload 5, 2) := by decide +kernel
theorem dX12_findReason_77 : decode cX12_findReason 77 = .ok (.ifCond .lt 52, 3) := by decide +kernel
theorem dX12_findReason_80 : decode cX12_findReason 80 = .ok (.iload_n 3, 1) := by decide +kernel
theorem dX12_findReason_81 : decode cX12_findReason 81 = .ok (.ifCond .eq 48, 3) := by decide +kernel
theorem dX12_findReason_84 : decode cX12_findReason 84 = .ok (.aload_n 0, 1) := by decide +kernel
theorem dX12_findReason_85 : decode cX12_findReason 85 = .ok (.getfield 36, 3) := by decide +kernel
theorem dX12_findReason_88 : decode cX12_findReason 88 = .ok (.iload 5, 2) := by decide +kernel
theorem dX12_findReason_90 : decode cX12_findReason 90 = .ok (.baload, 1) := by decide +kernel
theorem dX12_findReason_91 : decode cX12_findReason 91 = .ok (.ifCond .eq 32, 3) := by decide +kernel
theorem dX12_findReason_94 : decode cX12_findReason 94 = .ok (.aload_n 0, 1) := by decide +kernel
theorem dX12_findReason_95 : decode cX12_findReason 95 = .ok (.getfield 36, 3) := by decide +kernel
theorem dX12_findReason_98 : decode cX12_findReason 98 = .ok (.iload 5, 2) := by decide +kernel
theorem dX12_findReason_100 : decode cX12_findReason 100 = .ok (.iconst 0, 1) := by decide +kernel
theorem dX12_findReason_101 : decode cX12_findReason 101 = .ok (.bastore, 1) := by decide +kernel
theorem dX12_findReason_102 : decode cX12_findReason 102 = .ok (.aload_n 0, 1) := by decide +kernel
theorem dX12_findReason_103 : decode cX12_findReason 103 = .ok (.getfield 36, 3) := by decide +kernel
theorem dX12_findReason_106 : decode cX12_findReason 106 = .ok (.iload 5, 2) := by decide +kernel
theorem dX12_findReason_108 : decode cX12_findReason 108 = .ok (.aload_n 0, 1) := by decide +kernel
theorem dX12_findReason_109 : decode cX12_findReason 109 = .ok (.iload_n 1, 1) := by decide +kernel
theorem dX12_findReason_110 : decode cX12_findReason 110 = .ok (.iload_n 2, 1) := by decide +kernel
theorem dX12_findReason_111 : decode cX12_findReason 111 = .ok (.invokevirtual 292, 3) := by decide +kernel
theorem dX12_findReason_114 : decode cX12_findReason 114 = .ok (.ifCond .ne 7, 3) := by decide +kernel
theorem dX12_findReason_117 : decode cX12_findReason 117 = .ok (.iconst 1, 1) := by decide +kernel
theorem dX12_findReason_118 : decode cX12_findReason 118 = .ok (.goto 4, 3) := by decide +kernel
theorem dX12_findReason_121 : decode cX12_findReason 121 = .ok (.iconst 0, 1) := by decide +kernel
theorem dX12_findReason_122 : decode cX12_findReason 122 = .ok (.bastore, 1) := by decide +kernel
theorem dX12_findReason_123 : decode cX12_findReason 123 = .ok (.iinc 5 (-1), 3) := by decide +kernel
theorem dX12_findReason_126 : decode cX12_findReason 126 = .ok (.goto (-51), 3) := by decide +kernel
theorem dX12_findReason_129 : decode cX12_findReason 129 = .ok (.aload_n 0, 1) := by decide +kernel
theorem dX12_findReason_130 : decode cX12_findReason 130 = .ok (.iconst 0, 1) := by decide +kernel
theorem dX12_findReason_131 : decode cX12_findReason 131 = .ok (.putfield 126, 3) := by decide +kernel
theorem dX12_findReason_134 : decode cX12_findReason 134 = .ok (.iconst 0, 1) := by decide +kernel
theorem dX12_findReason_135 : decode cX12_findReason 135 = .ok (.istore 5, 2) := by decide +kernel
theorem dX12_findReason_137 : decode cX12_findReason 137 = .ok (.iload 5, 2) := by decide +kernel
theorem dX12_findReason_139 : decode cX12_findReason 139 = .ok (.aload_n 0, 1) := by decide +kernel
theorem dX12_findReason_140 : decode cX12_findReason 140 = .ok (.getfield 100, 3) := by decide +kernel
theorem dX12_findReason_143 : decode cX12_findReason 143 = .ok (.if_icmp .ge 40, 3) := by decide +kernel
theorem dX12_findReason_146 : decode cX12_findReason 146 = .ok (.aload_n 0, 1) := by decide +kernel
theorem dX12_findReason_147 : decode cX12_findReason 147 = .ok (.getfield 36, 3) := by decide +kernel
theorem dX12_findReason_150 : decode cX12_findReason 150 = .ok (.iload 5, 2) := by decide +kernel
theorem dX12_findReason_152 : decode cX12_findReason 152 = .ok (.baload, 1) := by decide +kernel
theorem dX12_findReason_153 : decode cX12_findReason 153 = .ok (.ifCond .eq 24, 3) := by decide +kernel
theorem dX12_findReason_156 : decode cX12_findReason 156 = .ok (.aload_n 0, 1) := by decide +kernel
theorem dX12_findReason_157 : decode cX12_findReason 157 = .ok (.getfield 70, 3) := by decide +kernel
theorem dX12_findReason_160 : decode cX12_findReason 160 = .ok (.aload_n 0, 1) := by decide +kernel
theorem dX12_findReason_161 : decode cX12_findReason 161 = .ok (.getfield 126, 3) := by decide +kernel
theorem dX12_findReason_164 : decode cX12_findReason 164 = .ok (.iload 5, 2) := by decide +kernel
theorem dX12_findReason_166 : decode cX12_findReason 166 = .ok (.iastore, 1) := by decide +kernel
theorem dX12_findReason_167 : decode cX12_findReason 167 = .ok (.aload_n 0, 1) := by decide +kernel
theorem dX12_findReason_168 : decode cX12_findReason 168 = .ok (.dup, 1) := by decide +kernel
theorem dX12_findReason_169 : decode cX12_findReason 169 = .ok (.getfield 126, 3) := by decide +kernel
theorem dX12_findReason_172 : decode cX12_findReason 172 = .ok (.iconst 1, 1) := by decide +kernel
theorem dX12_findReason_173 : decode cX12_findReason 173 = .ok (.iadd, 1) := by decide +kernel
theorem dX12_findReason_174 : decode cX12_findReason 174 = .ok (.putfield 126, 3) := by decide +kernel
theorem dX12_findReason_177 : decode cX12_findReason 177 = .ok (.iinc 5 1, 3) := by decide +kernel
theorem dX12_findReason_180 : decode cX12_findReason 180 = .ok (.goto (-43), 3) := by decide +kernel
theorem dX12_findReason_183 : decode cX12_findReason 183 = .ok (.return_, 1) := by decide +kernel
theorem dX12_hint_0 : decode cX12_hint 0 = .ok (.aload_n 0, 1) := by decide +kernel
theorem dX12_hint_1 : decode cX12_hint 1 = .ok (.iconst 0, 1) := by decide +kernel
theorem dX12_hint_2 : decode cX12_hint 2 = .ok (.putfield 79, 3) := by decide +kernel
theorem dX12_hint_5 : decode cX12_hint 5 = .ok (.aload_n 0, 1) := by decide +kernel
theorem dX12_hint_6 : decode cX12_hint 6 = .ok (.getfield 119, 3) := by decide +kernel
theorem dX12_hint_9 : decode cX12_hint 9 = .ok (.ifCond .ne 9, 3) := by decide +kernel
theorem dX12_hint_12 : decode cX12_hint 12 = .ok (.aload_n 0, 1) := by decide +kernel
theorem dX12_hint_13 : decode cX12_hint 13 = .ok (.iconst 1, 1) := by decide +kernel
theorem dX12_hint_14 : decode cX12_hint 14 = .ok (.invokevirtual 187, 3) := by decide +kernel
theorem dX12_hint_17 : decode cX12_hint 17 = .ok (.ireturn, 1) := by decide +kernel
theorem dX12_hint_18 : decode cX12_hint 18 = .ok (.aload_n 0, 1) := by decide +kernel
theorem dX12_hint_19 : decode cX12_hint 19 = .ok (.invokevirtual 107, 3) := by decide +kernel
theorem dX12_hint_22 : decode cX12_hint 22 = .ok (.iconst (-1), 1) := by decide +kernel
theorem dX12_hint_23 : decode cX12_hint 23 = .ok (.istore_n 1, 1) := by decide +kernel
theorem dX12_hint_24 : decode cX12_hint 24 = .ok (.iconst 1, 1) := by decide +kernel
theorem dX12_hint_25 : decode cX12_hint 25 = .ok (.istore_n 2, 1) := by decide +kernel
theorem dX12_hint_26 : decode cX12_hint 26 = .ok (.iload_n 2, 1) := by decide +kernel
theorem dX12_hint_27 : decode cX12_hint 27 = .ok (.iconst 3, 1) := by decide +kernel
theorem dX12_hint_28 : decode cX12_hint 28 = .ok (.if_icmp .gt 32, 3) := by decide +kernel
theorem dX12_hint_31 : decode cX12_hint 31 = .ok (.iload_n 1, 1) := by decide +kernel
theorem dX12_hint_32 : decode cX12_hint 32 = .ok (.ifCond .ge 28, 3) := by decide +kernel
theorem dX12_hint_35 : decode cX12_hint 35 = .ok (.aload_n 0, 1) := by decide +kernel
theorem dX12_hint_36 : decode cX12_hint 36 = .ok (.iload_n 2, 1) := by decide +kernel
theorem dX12_hint_37 : decode cX12_hint 37 = .ok (.invokevirtual 159, 3) := by decide +kernel
theorem dX12_hint_40 : decode cX12_hint 40 = .ok (.aload_n 0, 1) := by decide +kernel
theorem dX12_hint_41 : decode cX12_hint 41 = .ok (.invokevirtual 296, 3) := by decide +kernel
theorem dX12_hint_44 : decode cX12_hint 44 = .ok (.istore_n 1, 1) := by decide +kernel
theorem dX12_hint_45 : decode cX12_hint 45 = .ok (.iload_n 1, 1) := by decide +kernel
theorem dX12_hint_46 : decode cX12_hint 46 = .ok (.ifCond .lt 8, 3) := by decide +kernel
theorem dX12_hint_49 : decode cX12_hint 49 = .ok (.aload_n 0, 1) := by decide +kernel
theorem dX12_hint_50 : decode cX12_hint 50 = .ok (.iload_n 2, 1) := by decide +kernel
theorem dX12_hint_51 : decode cX12_hint 51 = .ok (.putfield 123, 3) := by decide +kernel
theorem dX12_hint_54 : decode cX12_hint 54 = .ok (.iinc 2 1, 3) := by decide +kernel
theorem dX12_hint_57 : decode cX12_hint 57 = .ok (.goto (-31), 3) := by decide +kernel
theorem dX12_hint_60 : decode cX12_hint 60 = .ok (.iload_n 1, 1) := by decide +kernel
theorem dX12_hint_61 : decode cX12_hint 61 = .ok (.ifCond .ge 5, 3) := by decide +kernel
theorem dX12_hint_64 : decode cX12_hint 64 = .ok (.iconst 0, 1) := by decide +kernel
theorem dX12_hint_65 : decode cX12_hint 65 = .ok (.ireturn, 1) := by decide +kernel
theorem dX12_hint_66 : decode cX12_hint 66 = .ok (.aload_n 0, 1) := by decide +kernel
theorem dX12_hint_67 : decode cX12_hint 67 = .ok (.getfield 30, 3) := by decide +kernel
theorem dX12_hint_70 : decode cX12_hint 70 = .ok (.iload_n 1, 1) := by decide +kernel
theorem dX12_hint_71 : decode cX12_hint 71 = .ok (.baload, 1) := by decide +kernel
theorem dX12_hint_72 : decode cX12_hint 72 = .ok (.ifCond .ne 7, 3) := by decide +kernel
theorem dX12_hint_75 : decode cX12_hint 75 = .ok (.iconst 1, 1) := by decide +kernel
theorem dX12_hint_76 : decode cX12_hint 76 = .ok (.goto 4, 3) := by decide +kernel
theorem dX12_hint_79 : decode cX12_hint 79 = .ok (.iconst 0, 1) := by decide +kernel
theorem dX12_hint_80 : decode cX12_hint 80 = .ok (.istore_n 2, 1) := by decide +kernel
theorem dX12_hint_81 : decode cX12_hint 81 = .ok (.aload_n 0, 1) := by decide +kernel
theorem dX12_hint_82 : decode cX12_hint 82 = .ok (.iload_n 1, 1) := by decide +kernel
theorem dX12_hint_83 : decode cX12_hint 83 = .ok (.iload_n 2, 1) := by decide +kernel
theorem dX12_hint_84 : decode cX12_hint 84 = .ok (.invokevirtual 299, 3) := by decide +kernel
theorem dX12_hint_87 : decode cX12_hint 87 = .ok (.iconst 1, 1) := by decide +kernel
theorem dX12_hint_88 : decode cX12_hint 88 = .ok (.iconst 2, 1) := by decide +kernel
theorem dX12_hint_89 : decode cX12_hint 89 = .ok (.iload_n 1, 1) := by decide +kernel
theorem dX12_hint_90 : decode cX12_hint 90 = .ok (.imul, 1) := by decide +kernel
theorem dX12_hint_91 : decode cX12_hint 91 = .ok (.iadd, 1) := by decide +kernel
theorem dX12_hint_92 : decode cX12_hint 92 = .ok (.iload_n 2, 1) := by decide +kernel
theorem dX12_hint_93 : decode cX12_hint 93 = .ok (.ifCond .eq 7, 3) := by decide +kernel
theorem dX12_hint_96 : decode cX12_hint 96 = .ok (.iconst 1, 1) := by decide +kernel
theorem dX12_hint_97 : decode cX12_hint 97 = .ok (.goto 4, 3) := by decide +kernel
theorem dX12_hint_100 : decode cX12_hint 100 = .ok (.iconst 0, 1) := by decide +kernel
theorem dX12_hint_101 : decode cX12_hint 101 = .ok (.iadd, 1) := by decide +kernel
theorem dX12_hint_102 : decode cX12_hint 102 = .ok (.ireturn, 1) := by decide +kernel
theorem dX12_reason_0 : decode cX12_reason 0 = .ok (.aload_n 0, 1) := by decide +kernel
theorem dX12_reason_1 : decode cX12_reason 1 = .ok (.iconst 0, 1) := by decide +kernel
theorem dX12_reason_2 : decode cX12_reason 2 = .ok (.putfield 79, 3) := by decide +kernel
theorem dX12_reason_5 : decode cX12_reason 5 = .ok (.aload_n 0, 1) := by decide +kernel
theorem dX12_reason_6 : decode cX12_reason 6 = .ok (.getfield 119, 3) := by decide +kernel
theorem dX12_reason_9 : decode cX12_reason 9 = .ok (.ifCond .ne 9, 3) := by decide +kernel
theorem dX12_reason_12 : decode cX12_reason 12 = .ok (.aload_n 0, 1) := by decide +kernel
theorem dX12_reason_13 : decode cX12_reason 13 = .ok (.iconst 1, 1) := by decide +kernel
theorem dX12_reason_14 : decode cX12_reason 14 = .ok (.invokevirtual 187, 3) := by decide +kernel
theorem dX12_reason_17 : decode cX12_reason 17 = .ok (.ireturn, 1) := by decide +kernel
theorem dX12_reason_18 : decode cX12_reason 18 = .ok (.iload_n 1, 1) := by decide +kernel
theorem dX12_reason_19 : decode cX12_reason 19 = .ok (.iconst 0, 1) := by decide +kernel
theorem dX12_reason_20 : decode cX12_reason 20 = .ok (.iconst 2, 1) := by decide +kernel
theorem dX12_reason_21 : decode cX12_reason 21 = .ok (.invokestatic 83, 3) := by decide +kernel
theorem dX12_reason_24 : decode cX12_reason 24 = .ok (.ifCond .ne 9, 3) := by decide +kernel
theorem dX12_reason_27 : decode cX12_reason 27 = .ok (.aload_n 0, 1) := by decide +kernel
theorem dX12_reason_28 : decode cX12_reason 28 = .ok (.iconst 2, 1) := by decide +kernel
theorem dX12_reason_29 : decode cX12_reason 29 = .ok (.invokevirtual 187, 3) := by decide +kernel
theorem dX12_reason_32 : decode cX12_reason 32 = .ok (.ireturn, 1) := by decide +kernel
theorem dX12_reason_33 : decode cX12_reason 33 = .ok (.iload_n 1, 1) := by decide +kernel
theorem dX12_reason_34 : decode cX12_reason 34 = .ok (.ifCond .ne 10, 3) := by decide +kernel
theorem dX12_reason_37 : decode cX12_reason 37 = .ok (.aload_n 0, 1) := by decide +kernel
theorem dX12_reason_38 : decode cX12_reason 38 = .ok (.getfield 123, 3) := by decide +kernel
theorem dX12_reason_41 : decode cX12_reason 41 = .ok (.goto 27, 3) := by decide +kernel
theorem dX12_reason_44 : decode cX12_reason 44 = .ok (.iload_n 1, 1) := by decide +kernel
theorem dX12_reason_45 : decode cX12_reason 45 = .ok (.iconst 1, 1) := by decide +kernel
theorem dX12_reason_46 : decode cX12_reason 46 = .ok (.if_icmp .ne 10, 3) := by decide +kernel
theorem dX12_reason_49 : decode cX12_reason 49 = .ok (.aload_n 0, 1) := by decide +kernel
theorem dX12_reason_50 : decode cX12_reason 50 = .ok (.getfield 126, 3) := by decide +kernel
theorem dX12_reason_53 : decode cX12_reason 53 = .ok (.goto 15, 3) := by decide +kernel
theorem dX12_reason_56 : decode cX12_reason 56 = .ok (.aload_n 0, 1) := by decide +kernel
theorem dX12_reason_57 : decode cX12_reason 57 = .ok (.getfield 129, 3) := by decide +kernel
theorem dX12_reason_60 : decode cX12_reason 60 = .ok (.ifCond .eq 7, 3) := by decide +kernel
theorem dX12_reason_63 : decode cX12_reason 63 = .ok (.iconst 1, 1) := by decide +kernel
theorem dX12_reason_64 : decode cX12_reason 64 = .ok (.goto 4, 3) := by decide +kernel
theorem dX12_reason_67 : decode cX12_reason 67 = .ok (.iconst 0, 1) := by decide +kernel
theorem dX12_reason_68 : decode cX12_reason 68 = .ok (.ireturn, 1) := by decide +kernel
theorem dX12_reasonCell_0 : decode cX12_reasonCell 0 = .ok (.aload_n 0, 1) := by decide +kernel
theorem dX12_reasonCell_1 : decode cX12_reasonCell 1 = .ok (.iconst 0, 1) := by decide +kernel
theorem dX12_reasonCell_2 : decode cX12_reasonCell 2 = .ok (.putfield 79, 3) := by decide +kernel
theorem dX12_reasonCell_5 : decode cX12_reasonCell 5 = .ok (.aload_n 0, 1) := by decide +kernel
theorem dX12_reasonCell_6 : decode cX12_reasonCell 6 = .ok (.getfield 119, 3) := by decide +kernel
theorem dX12_reasonCell_9 : decode cX12_reasonCell 9 = .ok (.ifCond .ne 9, 3) := by decide +kernel
theorem dX12_reasonCell_12 : decode cX12_reasonCell 12 = .ok (.aload_n 0, 1) := by decide +kernel
theorem dX12_reasonCell_13 : decode cX12_reasonCell 13 = .ok (.iconst 1, 1) := by decide +kernel
theorem dX12_reasonCell_14 : decode cX12_reasonCell 14 = .ok (.invokevirtual 187, 3) := by decide +kernel
theorem dX12_reasonCell_17 : decode cX12_reasonCell 17 = .ok (.ireturn, 1) := by decide +kernel
theorem dX12_reasonCell_18 : decode cX12_reasonCell 18 = .ok (.iload_n 1, 1) := by decide +kernel
theorem dX12_reasonCell_19 : decode cX12_reasonCell 19 = .ok (.iconst 0, 1) := by decide +kernel
theorem dX12_reasonCell_20 : decode cX12_reasonCell 20 = .ok (.aload_n 0, 1) := by decide +kernel
theorem dX12_reasonCell_21 : decode cX12_reasonCell 21 = .ok (.getfield 126, 3) := by decide +kernel
theorem dX12_reasonCell_24 : decode cX12_reasonCell 24 = .ok (.iconst 1, 1) := by decide +kernel
theorem dX12_reasonCell_25 : decode cX12_reasonCell 25 = .ok (.isub, 1) := by decide +kernel
theorem dX12_reasonCell_26 : decode cX12_reasonCell 26 = .ok (.invokestatic 83, 3) := by decide +kernel
theorem dX12_reasonCell_29 : decode cX12_reasonCell 29 = .ok (.ifCond .eq 12, 3) := by decide +kernel
theorem dX12_reasonCell_32 : decode cX12_reasonCell 32 = .ok (.aload_n 0, 1) := by decide +kernel
theorem dX12_reasonCell_33 : decode cX12_reasonCell 33 = .ok (.getfield 70, 3) := by decide +kernel
theorem dX12_reasonCell_36 : decode cX12_reasonCell 36 = .ok (.iload_n 1, 1) := by decide +kernel
theorem dX12_reasonCell_37 : decode cX12_reasonCell 37 = .ok (.iaload, 1) := by decide +kernel
theorem dX12_reasonCell_38 : decode cX12_reasonCell 38 = .ok (.goto 8, 3) := by decide +kernel
theorem dX12_reasonCell_41 : decode cX12_reasonCell 41 = .ok (.aload_n 0, 1) := by decide +kernel
theorem dX12_reasonCell_42 : decode cX12_reasonCell 42 = .ok (.iconst 2, 1) := by decide +kernel
theorem dX12_reasonCell_43 : decode cX12_reasonCell 43 = .ok (.invokevirtual 187, 3) := by decide +kernel
theorem dX12_reasonCell_46 : decode cX12_reasonCell 46 = .ok (.ireturn, 1) := by decide +kernel
theorem dX12_follows_0 : decode cX12_follows 0 = .ok (.aload_n 0, 1) := by decide +kernel
theorem dX12_follows_1 : decode cX12_follows 1 = .ok (.iconst 0, 1) := by decide +kernel
theorem dX12_follows_2 : decode cX12_follows 2 = .ok (.putfield 79, 3) := by decide +kernel
theorem dX12_follows_5 : decode cX12_follows 5 = .ok (.aload_n 0, 1) := by decide +kernel
theorem dX12_follows_6 : decode cX12_follows 6 = .ok (.iload_n 1, 1) := by decide +kernel
theorem dX12_follows_7 : decode cX12_follows 7 = .ok (.iload_n 2, 1) := by decide +kernel
theorem dX12_follows_8 : decode cX12_follows 8 = .ok (.invokevirtual 209, 3) := by decide +kernel
theorem dX12_follows_11 : decode cX12_follows 11 = .ok (.ifCond .ne 5, 3) := by decide +kernel
theorem dX12_follows_14 : decode cX12_follows 14 = .ok (.iconst 0, 1) := by decide +kernel
theorem dX12_follows_15 : decode cX12_follows 15 = .ok (.ireturn, 1) := by decide +kernel
theorem dX12_follows_16 : decode cX12_follows 16 = .ok (.aload_n 0, 1) := by decide +kernel
theorem dX12_follows_17 : decode cX12_follows 17 = .ok (.getfield 87, 3) := by decide +kernel
theorem dX12_follows_20 : decode cX12_follows 20 = .ok (.iload_n 1, 1) := by decide +kernel
theorem dX12_follows_21 : decode cX12_follows 21 = .ok (.imul, 1) := by decide +kernel
theorem dX12_follows_22 : decode cX12_follows 22 = .ok (.iload_n 2, 1) := by decide +kernel
theorem dX12_follows_23 : decode cX12_follows 23 = .ok (.iadd, 1) := by decide +kernel
theorem dX12_follows_24 : decode cX12_follows 24 = .ok (.istore 4, 2) := by decide +kernel
theorem dX12_follows_26 : decode cX12_follows 26 = .ok (.iconst 0, 1) := by decide +kernel
theorem dX12_follows_27 : decode cX12_follows 27 = .ok (.istore 5, 2) := by decide +kernel
theorem dX12_follows_29 : decode cX12_follows 29 = .ok (.iload 5, 2) := by decide +kernel
theorem dX12_follows_31 : decode cX12_follows 31 = .ok (.aload_n 0, 1) := by decide +kernel
theorem dX12_follows_32 : decode cX12_follows 32 = .ok (.getfield 100, 3) := by decide +kernel
theorem dX12_follows_35 : decode cX12_follows 35 = .ok (.if_icmp .ge 17, 3) := by decide +kernel
theorem dX12_follows_38 : decode cX12_follows 38 = .ok (.aload_n 0, 1) := by decide +kernel
theorem dX12_follows_39 : decode cX12_follows 39 = .ok (.getfield 36, 3) := by decide +kernel
theorem dX12_follows_42 : decode cX12_follows 42 = .ok (.iload 5, 2) := by decide +kernel
theorem dX12_follows_44 : decode cX12_follows 44 = .ok (.iconst 0, 1) := by decide +kernel
theorem dX12_follows_45 : decode cX12_follows 45 = .ok (.bastore, 1) := by decide +kernel
theorem dX12_follows_46 : decode cX12_follows 46 = .ok (.iinc 5 1, 3) := by decide +kernel
theorem dX12_follows_49 : decode cX12_follows 49 = .ok (.goto (-20), 3) := by decide +kernel
theorem dX12_follows_52 : decode cX12_follows 52 = .ok (.iconst 0, 1) := by decide +kernel
theorem dX12_follows_53 : decode cX12_follows 53 = .ok (.istore 5, 2) := by decide +kernel
theorem dX12_follows_55 : decode cX12_follows 55 = .ok (.iload 5, 2) := by decide +kernel
theorem dX12_follows_57 : decode cX12_follows 57 = .ok (.aload_n 0, 1) := by decide +kernel
theorem dX12_follows_58 : decode cX12_follows 58 = .ok (.getfield 126, 3) := by decide +kernel
theorem dX12_follows_61 : decode cX12_follows 61 = .ok (.if_icmp .ge 42, 3) := by decide +kernel
theorem dX12_follows_64 : decode cX12_follows 64 = .ok (.aload_n 0, 1) := by decide +kernel
theorem dX12_follows_65 : decode cX12_follows 65 = .ok (.getfield 36, 3) := by decide +kernel
theorem dX12_follows_68 : decode cX12_follows 68 = .ok (.aload_n 0, 1) := by decide +kernel
theorem dX12_follows_69 : decode cX12_follows 69 = .ok (.getfield 70, 3) := by decide +kernel
theorem dX12_follows_72 : decode cX12_follows 72 = .ok (.iload 5, 2) := by decide +kernel
theorem dX12_follows_74 : decode cX12_follows 74 = .ok (.iaload, 1) := by decide +kernel
theorem dX12_follows_75 : decode cX12_follows 75 = .ok (.aload_n 0, 1) := by decide +kernel
theorem dX12_follows_76 : decode cX12_follows 76 = .ok (.getfield 20, 3) := by decide +kernel
theorem dX12_follows_79 : decode cX12_follows 79 = .ok (.aload_n 0, 1) := by decide +kernel
theorem dX12_follows_80 : decode cX12_follows 80 = .ok (.getfield 70, 3) := by decide +kernel
theorem dX12_follows_83 : decode cX12_follows 83 = .ok (.iload 5, 2) := by decide +kernel
theorem dX12_follows_85 : decode cX12_follows 85 = .ok (.iaload, 1) := by decide +kernel
theorem dX12_follows_86 : decode cX12_follows 86 = .ok (.iaload, 1) := by decide +kernel
theorem dX12_follows_87 : decode cX12_follows 87 = .ok (.iconst 1, 1) := by decide +kernel
theorem dX12_follows_88 : decode cX12_follows 88 = .ok (.if_icmp .ne 7, 3) := by decide +kernel
theorem dX12_follows_91 : decode cX12_follows 91 = .ok (.iconst 1, 1) := by decide +kernel
theorem dX12_follows_92 : decode cX12_follows 92 = .ok (.goto 4, 3) := by decide +kernel
theorem dX12_follows_95 : decode cX12_follows 95 = .ok (.iconst 0, 1) := by decide +kernel
theorem dX12_follows_96 : decode cX12_follows 96 = .ok (.bastore, 1) := by decide +kernel
theorem dX12_follows_97 : decode cX12_follows 97 = .ok (.iinc 5 1, 3) := by decide +kernel
theorem dX12_follows_100 : decode cX12_follows 100 = .ok (.goto (-45), 3) := by decide +kernel
theorem dX12_follows_103 : decode cX12_follows 103 = .ok (.aload_n 0, 1) := by decide +kernel
theorem dX12_follows_104 : decode cX12_follows 104 = .ok (.iload 4, 2) := by decide +kernel
theorem dX12_follows_106 : decode cX12_follows 106 = .ok (.invokevirtual 143, 3) := by decide +kernel
theorem dX12_follows_109 : decode cX12_follows 109 = .ok (.ifCond .eq 10, 3) := by decide +kernel
theorem dX12_follows_112 : decode cX12_follows 112 = .ok (.aload_n 0, 1) := by decide +kernel
theorem dX12_follows_113 : decode cX12_follows 113 = .ok (.invokevirtual 283, 3) := by decide +kernel
theorem dX12_follows_116 : decode cX12_follows 116 = .ok (.ifCond .ne 17, 3) := by decide +kernel
theorem dX12_follows_119 : decode cX12_follows 119 = .ok (.aload_n 0, 1) := by decide +kernel
theorem dX12_follows_120 : decode cX12_follows 120 = .ok (.iconst 3, 1) := by decide +kernel
theorem dX12_follows_121 : decode cX12_follows 121 = .ok (.invokevirtual 187, 3) := by decide +kernel
theorem dX12_follows_124 : decode cX12_follows 124 = .ok (.ifCond .le 7, 3) := by decide +kernel
theorem dX12_follows_127 : decode cX12_follows 127 = .ok (.iconst 1, 1) := by decide +kernel
theorem dX12_follows_128 : decode cX12_follows 128 = .ok (.goto 4, 3) := by decide +kernel
theorem dX12_follows_131 : decode cX12_follows 131 = .ok (.iconst 0, 1) := by decide +kernel
theorem dX12_follows_132 : decode cX12_follows 132 = .ok (.ireturn, 1) := by decide +kernel
theorem dX12_follows_133 : decode cX12_follows 133 = .ok (.aload_n 0, 1) := by decide +kernel
theorem dX12_follows_134 : decode cX12_follows 134 = .ok (.iload 4, 2) := by decide +kernel
theorem dX12_follows_136 : decode cX12_follows 136 = .ok (.iload_n 3, 1) := by decide +kernel
theorem dX12_follows_137 : decode cX12_follows 137 = .ok (.ifCond .ne 7, 3) := by decide +kernel
theorem dX12_follows_140 : decode cX12_follows 140 = .ok (.iconst 1, 1) := by decide +kernel
theorem dX12_follows_141 : decode cX12_follows 141 = .ok (.goto 4, 3) := by decide +kernel
theorem dX12_follows_144 : decode cX12_follows 144 = .ok (.iconst 0, 1) := by decide +kernel
theorem dX12_follows_145 : decode cX12_follows 145 = .ok (.aload_n 0, 1) := by decide +kernel
theorem dX12_follows_146 : decode cX12_follows 146 = .ok (.getfield 129, 3) := by decide +kernel
theorem dX12_follows_149 : decode cX12_follows 149 = .ok (.invokevirtual 286, 3) := by decide +kernel
theorem dX12_follows_152 : decode cX12_follows 152 = .ok (.ifCond .ne 7, 3) := by decide +kernel
theorem dX12_follows_155 : decode cX12_follows 155 = .ok (.iconst 1, 1) := by decide +kernel
theorem dX12_follows_156 : decode cX12_follows 156 = .ok (.goto 4, 3) := by decide +kernel
theorem dX12_follows_159 : decode cX12_follows 159 = .ok (.iconst 0, 1) := by decide +kernel
theorem dX12_follows_160 : decode cX12_follows 160 = .ok (.ireturn, 1) := by decide +kernel
theorem q_X12_firstFound : yX12_firstFound.cls = RX12 ∧ yX12_firstFound.cls ≠ "java/lang/invoke/MethodHandle" ∧ yX12_firstFound.cls ≠ "java/lang/invoke/VarHandle" ∧ (parseMethodDescriptor yX12_firstFound.desc).map (fun d => d.parameters.length) = some 0 := ⟨rfl, by decide, by decide, by decide +kernel⟩
theorem q_X12_isForced : yX12_isForced.cls = RX12 ∧ yX12_isForced.cls ≠ "java/lang/invoke/MethodHandle" ∧ yX12_isForced.cls ≠ "java/lang/invoke/VarHandle" ∧ (parseMethodDescriptor yX12_isForced.desc).map (fun d => d.parameters.length) = some 2 := ⟨rfl, by decide, by decide, by decide +kernel⟩
theorem q_X12_usePart : yX12_usePart.cls = RX12 ∧ yX12_usePart.cls ≠ "java/lang/invoke/MethodHandle" ∧ yX12_usePart.cls ≠ "java/lang/invoke/VarHandle" ∧ (parseMethodDescriptor yX12_usePart.desc).map (fun d => d.parameters.length) = some 1 := ⟨rfl, by decide, by decide, by decide +kernel⟩
theorem q_X12_findReason : yX12_findReason.cls = RX12 ∧ yX12_findReason.cls ≠ "java/lang/invoke/MethodHandle" ∧ yX12_findReason.cls ≠ "java/lang/invoke/VarHandle" ∧ (parseMethodDescriptor yX12_findReason.desc).map (fun d => d.parameters.length) = some 2 := ⟨rfl, by decide, by decide, by decide +kernel⟩
theorem q_X12_hint : yX12_hint.cls = RX12 ∧ yX12_hint.cls ≠ "java/lang/invoke/MethodHandle" ∧ yX12_hint.cls ≠ "java/lang/invoke/VarHandle" ∧ (parseMethodDescriptor yX12_hint.desc).map (fun d => d.parameters.length) = some 0 := ⟨rfl, by decide, by decide, by decide +kernel⟩
theorem q_X12_reason : yX12_reason.cls = RX12 ∧ yX12_reason.cls ≠ "java/lang/invoke/MethodHandle" ∧ yX12_reason.cls ≠ "java/lang/invoke/VarHandle" ∧ (parseMethodDescriptor yX12_reason.desc).map (fun d => d.parameters.length) = some 1 := ⟨rfl, by decide, by decide, by decide +kernel⟩
theorem q_X12_reasonCell : yX12_reasonCell.cls = RX12 ∧ yX12_reasonCell.cls ≠ "java/lang/invoke/MethodHandle" ∧ yX12_reasonCell.cls ≠ "java/lang/invoke/VarHandle" ∧ (parseMethodDescriptor yX12_reasonCell.desc).map (fun d => d.parameters.length) = some 1 := ⟨rfl, by decide, by decide, by decide +kernel⟩
theorem q_X12_follows : yX12_follows.cls = RX12 ∧ yX12_follows.cls ≠ "java/lang/invoke/MethodHandle" ∧ yX12_follows.cls ≠ "java/lang/invoke/VarHandle" ∧ (parseMethodDescriptor yX12_follows.desc).map (fun d => d.parameters.length) = some 3 := ⟨rfl, by decide, by decide, by decide +kernel⟩
def P_X12_firstFound (post : Int → Prop) (M_cells : Int) (M_state : Int → Int) (M_safe : Int → Int) (M_mined : Int → Int) : Prop :=
  inR (M_cells - 1) ∧ (∀ x2_3 : Int, x2_3 = (M_cells - 1) → (∃ Inv_4 : Nat → (Int) → (Int) → Prop, (∃ n_5 : Nat, Inv_4 n_5 (-1) x2_3) ∧ ∀ (n_6 : Nat) (x1_9 : Int) (x2_10 : Int), inR x1_9 → inR x2_10 → Inv_4 n_6 x1_9 x2_10 → ((x2_10 < 0 → (post x1_9)) ∧ (¬ x2_10 < 0 → (P_X12_isUnknown (fun (c_12 : Int) => (c_12 = 0 ∨ c_12 = 1) → (∃ J_13 : (Int) → Prop, ((c_12 = 0 → (J_13 x1_9)) ∧ (¬ c_12 = 0 → ((0 ≤ x2_10 ∧ x2_10 < 144) ∧ (∀ v_21 : Int, v_21 = M_safe x2_10 → (v_21 = 0 ∨ v_21 = 1) → (∃ J_22 : Prop, ((¬ v_21 = 0 → (J_22)) ∧ (v_21 = 0 → ((0 ≤ x2_10 ∧ x2_10 < 144) ∧ (∀ v_26 : Int, v_26 = M_mined x2_10 → (v_26 = 0 ∨ v_26 = 1) → ((v_26 = 0 → (J_13 x1_9)) ∧ (¬ v_26 = 0 → ((0 ≤ x2_10 ∧ x2_10 < 144) ∧ (∀ v_29 : Int, v_29 = M_state x2_10 → inR v_29 → ((v_29 = 2 → (J_13 x1_9)) ∧ (¬ v_29 = 2 → (J_22))))))))))) ∧ (J_22 → (J_13 x2_10))))))) ∧ (∀ (x1_15 : Int), inR x1_15 → J_13 x1_15 → (inR (x2_10 + (-1)) ∧ (∀ x2_17 : Int, x2_17 = (x2_10 + (-1)) → (∃ n_18 : Nat, n_18 < n_6 ∧ Inv_4 n_18 x1_15 x2_17)))))) M_state x2_10)))))
set_option maxRecDepth 100000 in
set_option maxHeartbeats 4000000 in
theorem c_X12_firstFound (l : Launch) (K : wK) (ad : Nat → Nat) {M_thrown : Int} {M_w : Int} {M_h : Int} {M_cells : Int} {M_shape : Int} {M_isBoard : Int} {M_isBlank : Int} {M_lives : Int} {M_moves : Int} {M_parts : Int} {M_numbers : Int} {M_grade : Int} {M_reasons : Int} {M_total : Int} {M_near : Int → Int} {M_degree : Int → Int} {M_mine : Int → Int} {M_state : Int → Int} {M_history : Int → Int64} {M_oldLives : Int → Int} {M_safe : Int → Int} {M_mined : Int → Int} {M_used : Int → Int} {M_partOf : Int → Int} {M_placeOf : Int → Int} {M_partSize : Int → Int} {M_ways : Int → Int} {M_with : Int → Int} {M_masks : Int → Int} {M_rests : Int → Int} {M_bits : Int → Int} {M_reach : Int → Int} {M_more : Int → Int} {M_reason : Int → Int} {M_big : Int → Int64} {M_region : Int → Int}   (post : Int → Prop) (h : P_X12_firstFound post M_cells M_state M_safe M_mined) : mI l yX12_firstFound (Cond.code yX12_firstFound cX12_firstFound 3 (some .int) :: GT) ({ frames := 3, cells := 0, slots := 0, locals := 180 } : Room) [.ref (ad 0)] K ad (mW M_thrown M_w M_h M_cells M_shape M_isBoard M_isBlank M_lives M_moves M_parts M_numbers M_grade M_reasons M_total M_near M_degree M_mine M_state M_history M_oldLives M_safe M_mined M_used M_partOf M_placeOf M_partSize M_ways M_with M_masks M_rests M_bits M_reach M_more M_reason M_big M_region) (fun z9 u9 => u9 = (mW M_thrown M_w M_h M_cells M_shape M_isBoard M_isBlank M_lives M_moves M_parts M_numbers M_grade M_reasons M_total M_near M_degree M_mine M_state M_history M_oldLives M_safe M_mined M_used M_partOf M_placeOf M_partSize M_ways M_with M_masks M_rests M_bits M_reach M_more M_reason M_big M_region) ∧ post z9) := by
  refine mI_of (lv0 := [(0, .ref (ad 0))]) (by decide) (Nat.le_of_ble_eq_true rfl) rfl ?_
  intro p e s m args below meth c Q A C ret
  replace C : Cx p ({ frames := 3, cells := 0, slots := 0, locals := 180 } : Room) m c 0 0 cX12_firstFound 3 s args RX12 K A := C
  unfold P_X12_firstFound at h
  refine wa_iconst C (z := -1) dX12_firstFound_0 rfl ?_
  refine wa_istore_n C dX12_firstFound_1 rfl (by decide) rfl ?_
  refine wa_aload_n C 1 rfl dX12_firstFound_2 rfl ?_
  refine wa_getI C 0 3 mW_0 rfl rfl (by decide) okX12 gw_1235 dX12_firstFound_3 (fun r_1 => ?_)
  refine wa_iconst C (z := 1) dX12_firstFound_6 rfl ?_
  refine wa_isub C dX12_firstFound_7 ?_
  obtain ⟨r_2, h⟩ := h
  refine wa_nmi (fun x2_3 ex2_3 => ?_)
  replace h := h x2_3 ex2_3
  have rx2_3 : inR x2_3 := by rw [ex2_3]; exact r_2
  refine wa_istore_n C dX12_firstFound_8 rfl (by decide) rfl ?_
  obtain ⟨Inv_4, ⟨n_5, h0Inv_4⟩, hInv_4⟩ := h
  have k_8 : ∀ (n_6 : Nat) (x1_9 : Int) (x2_10 : Int), inR x1_9 → inR x2_10 → Inv_4 n_6 x1_9 x2_10 → WA p l e ({ frames := 3, cells := 0, slots := 0, locals := 180 } : Room) s m args below meth c 0 0 Q K ad 3 A 9 [(0, .ref (ad 0)), (1, .int (iI x1_9)), (2, .int (iI x2_10))] [] (mW M_thrown M_w M_h M_cells M_shape M_isBoard M_isBlank M_lives M_moves M_parts M_numbers M_grade M_reasons M_total M_near M_degree M_mine M_state M_history M_oldLives M_safe M_mined M_used M_partOf M_placeOf M_partSize M_ways M_with M_masks M_rests M_bits M_reach M_more M_reason M_big M_region) := by
    intro n_6
    induction n_6 using Nat.strongRecOn with
    | ind n_6 ih_7 =>
      intro x1_9 x2_10 rx1_9 rx2_10 h
      replace h := hInv_4 n_6 x1_9 x2_10 rx1_9 rx2_10 h
      refine wa_iload_n C 2 rfl dX12_firstFound_9 rfl ?_
      refine wa_if_lt C (tgt := 57) rx2_10 dX12_firstFound_10 (by decide) (fun c_11 => ?_) (fun c_11 => ?_)
      · replace h := h.1 c_11
        refine wa_iload_n C 1 rfl dX12_firstFound_57 rfl ?_
        exact ret dX12_firstFound_58 rx1_9 ⟨rfl, h⟩
      · replace h := h.2 c_11
        refine wa_aload_n C 0 rfl dX12_firstFound_13 rfl ?_
        refine wa_iload_n C 2 rfl dX12_firstFound_14 rfl ?_
        refine wa_callVi C (k := 0) (As := [.int (iI x2_10)]) (rest := []) (c_X12_isUnknown l K ad x2_10 rx2_10 _ h) gw_1411 gw_1408 mW_0 rfl gw_1410 gs_63 gw_12 q_X12_isUnknown rfl rfl rfl ⟨by decide, by decide⟩ rfl (Nat.le_of_ble_eq_true rfl) dX12_firstFound_15 (fun c_12 u9 rc_12 hp => ?_)
        obtain ⟨bc_12, rfl, h⟩ := hp
        replace h := h bc_12
        obtain ⟨J_13, h, hJ_13⟩ := h
        have k_14 : ∀ (x1_15 : Int), inR x1_15 → J_13 x1_15 → WA p l e ({ frames := 3, cells := 0, slots := 0, locals := 180 } : Room) s m args below meth c 0 0 Q K ad 3 A 51 [(0, .ref (ad 0)), (1, .int (iI x1_15)), (2, .int (iI x2_10))] [] (mW M_thrown M_w M_h M_cells M_shape M_isBoard M_isBlank M_lives M_moves M_parts M_numbers M_grade M_reasons M_total M_near M_degree M_mine M_state M_history M_oldLives M_safe M_mined M_used M_partOf M_placeOf M_partSize M_ways M_with M_masks M_rests M_bits M_reach M_more M_reason M_big M_region) := by
          intro x1_15 rx1_15 h
          replace h := hJ_13 x1_15 rx1_15 h
          obtain ⟨r_16, h⟩ := h
          refine wa_iinc C (lv' := fun w9 => [(2, .int (iI w9)), (0, .ref (ad 0)), (1, .int (iI x1_15))]) 2 rfl dX12_firstFound_51 (by decide) (fun _ => rfl) (fun x2_17 ex2_17 => ?_)
          replace h := h x2_17 ex2_17
          have rx2_17 : inR x2_17 := by rw [ex2_17]; exact r_16
          refine wa_goto C (tgt := 9) dX12_firstFound_54 (by decide) ?_
          obtain ⟨n_18, ln_18, h⟩ := h
          refine wa_sub C [1, 2, 0] rfl ?_
          exact ih_7 n_18 ln_18 x1_15 x2_17 rx1_15 rx2_17 h
        refine wa_if_eq C (tgt := 51) (inR_b bc_12) dX12_firstFound_18 (by decide) (fun c_19 => ?_) (fun c_19 => ?_)
        · replace h := h.1 c_19
          refine wa_sub C [0, 1, 2] rfl ?_
          exact k_14 x1_9 rx1_9 h
        · replace h := h.2 c_19
          refine wa_aload_n C 0 rfl dX12_firstFound_21 rfl ?_
          refine wa_getR C 0 15 mW_0 rfl rfl (by decide) okX12 gw_1247 dX12_firstFound_22 ?_
          refine wa_iload_n C 2 rfl dX12_firstFound_25 rfl ?_
          obtain ⟨t_20, h⟩ := h
          refine wa_bald C 7 mW_7 dX12_firstFound_26 t_20.1 t_20.2 (fun v_21 ev_21 rv_21 => ?_)
          replace h := h v_21 ev_21 rv_21
          obtain ⟨J_22, h, hJ_22⟩ := h
          have k_23 : J_22 → WA p l e ({ frames := 3, cells := 0, slots := 0, locals := 180 } : Room) s m args below meth c 0 0 Q K ad 3 A 49 [(0, .ref (ad 0)), (2, .int (iI x2_10))] [] (mW M_thrown M_w M_h M_cells M_shape M_isBoard M_isBlank M_lives M_moves M_parts M_numbers M_grade M_reasons M_total M_near M_degree M_mine M_state M_history M_oldLives M_safe M_mined M_used M_partOf M_placeOf M_partSize M_ways M_with M_masks M_rests M_bits M_reach M_more M_reason M_big M_region) := by
            intro h
            replace h := hJ_22 h
            refine wa_iload_n C 1 rfl dX12_firstFound_49 rfl ?_
            refine wa_istore_n C dX12_firstFound_50 rfl (by decide) rfl ?_
            refine wa_sub C [1, 0, 2] rfl ?_
            exact k_14 x2_10 rx2_10 h
          refine wa_if_ne C (tgt := 49) (inR_b rv_21) dX12_firstFound_27 (by decide) (fun c_24 => ?_) (fun c_24 => ?_)
          · replace h := h.1 c_24
            refine wa_sub C [0, 2] rfl ?_
            exact k_23 h
          · replace h := h.2 c_24
            refine wa_aload_n C 0 rfl dX12_firstFound_30 rfl ?_
            refine wa_getR C 0 16 mW_0 rfl rfl (by decide) okX12 gw_1248 dX12_firstFound_31 ?_
            refine wa_iload_n C 2 rfl dX12_firstFound_34 rfl ?_
            obtain ⟨t_25, h⟩ := h
            refine wa_bald C 8 mW_8 dX12_firstFound_35 t_25.1 t_25.2 (fun v_26 ev_26 rv_26 => ?_)
            replace h := h v_26 ev_26 rv_26
            refine wa_if_eq C (tgt := 51) (inR_b rv_26) dX12_firstFound_36 (by decide) (fun c_27 => ?_) (fun c_27 => ?_)
            · replace h := h.1 c_27
              refine wa_sub C [0, 1, 2] rfl ?_
              exact k_14 x1_9 rx1_9 h
            · replace h := h.2 c_27
              refine wa_aload_n C 0 rfl dX12_firstFound_39 rfl ?_
              refine wa_getR C 0 10 mW_0 rfl rfl (by decide) okX12 gw_1242 dX12_firstFound_40 ?_
              refine wa_iload_n C 2 rfl dX12_firstFound_43 rfl ?_
              obtain ⟨t_28, h⟩ := h
              refine wa_iald C 4 mW_4 dX12_firstFound_44 t_28.1 t_28.2 (fun v_29 ev_29 rv_29 => ?_)
              replace h := h v_29 ev_29 rv_29
              refine wa_iconst C (z := 2) dX12_firstFound_45 rfl ?_
              refine wa_icmp_eq C (tgt := 51) rv_29 (inR_k 2 rfl) dX12_firstFound_46 (by decide) (fun c_30 => ?_) (fun c_30 => ?_)
              · replace h := h.1 c_30
                refine wa_sub C [0, 1, 2] rfl ?_
                exact k_14 x1_9 rx1_9 h
              · replace h := h.2 c_30
                refine wa_sub C [0, 2] rfl ?_
                exact k_23 h
  refine wa_sub C [2, 1, 0] rfl ?_
  exact k_8 n_5 (-1) x2_3 (inR_k (-1) rfl) rx2_3 h0Inv_4
def P_X12_isForced (post : Int → (Int) → (Int) → (Int → Int) → (Int → Int) → (Int → Int) → (Int → Int) → (Int → Int) → (Int → Int) → (Int → Int) → (Int → Int) → (Int → Int) → Prop) (M_cells : Int) (M_parts : Int) (M_numbers : Int) (M_total : Int) (M_near : Int → Int) (M_degree : Int → Int) (M_mine : Int → Int) (M_state : Int → Int) (M_used : Int → Int) (M_partOf : Int → Int) (M_placeOf : Int → Int) (M_partSize : Int → Int) (M_ways : Int → Int) (M_with : Int → Int) (M_masks : Int → Int) (M_rests : Int → Int) (M_bits : Int → Int) (M_reach : Int → Int) (M_more : Int → Int) (x1 : Int) (x2 : Int) : Prop :=
  P_X12_countParts (fun (c_1 : Int) (M_parts_2 : Int) (M_numbers_3 : Int) (M_partOf_4 : Int → Int) (M_placeOf_5 : Int → Int) (M_partSize_6 : Int → Int) (M_ways_7 : Int → Int) (M_with_8 : Int → Int) (M_masks_9 : Int → Int) (M_rests_10 : Int → Int) => (c_1 = 0 ∨ c_1 = 1) → (∃ J_11 : (Int → Int) → (Int → Int) → (Int) → Prop, (∃ J_17 : (Int → Int) → (Int → Int) → Prop, ((c_1 = 0 → (J_17 M_reach M_more)) ∧ (¬ c_1 = 0 → (∃ J_22 : (Int) → Prop, ((¬ x2 = 0 → (J_22 0)) ∧ (x2 = 0 → (J_22 1))) ∧ (∀ (z_24 : Int), inR z_24 → J_22 z_24 → ((z_24 = 0 ∨ z_24 = 1) ∧ (P_X12_isPossible (fun (c_27 : Int) (M_reach_28 : Int → Int) (M_more_29 : Int → Int) => (c_27 = 0 ∨ c_27 = 1) → ((¬ c_27 = 0 → (J_17 M_reach_28 M_more_29)) ∧ (c_27 = 0 → (J_11 M_reach_28 M_more_29 1)))) M_cells M_parts_2 M_mine M_state M_partOf_4 M_placeOf_5 M_partSize_6 M_ways_7 M_with_8 M_reach M_more x1 z_24 M_total)))))) ∧ (∀ (M_reach_19 : Int → Int) (M_more_20 : Int → Int), J_17 M_reach_19 M_more_20 → (J_11 M_reach_19 M_more_20 0))) ∧ (∀ (M_reach_13 : Int → Int) (M_more_14 : Int → Int) (z_15 : Int), inR z_15 → J_11 M_reach_13 M_more_14 z_15 → ((z_15 = 0 ∨ z_15 = 1) ∧ (post z_15 M_parts_2 M_numbers_3 M_partOf_4 M_placeOf_5 M_partSize_6 M_ways_7 M_with_8 M_masks_9 M_rests_10 M_reach_13 M_more_14))))) M_cells M_parts M_numbers M_near M_degree M_mine M_state M_used M_partOf M_placeOf M_partSize M_ways M_with M_masks M_rests M_bits 
set_option maxRecDepth 100000 in
set_option maxHeartbeats 4000000 in
theorem c_X12_isForced (l : Launch) (K : wK) (ad : Nat → Nat) {M_thrown : Int} {M_w : Int} {M_h : Int} {M_cells : Int} {M_shape : Int} {M_isBoard : Int} {M_isBlank : Int} {M_lives : Int} {M_moves : Int} {M_parts : Int} {M_numbers : Int} {M_grade : Int} {M_reasons : Int} {M_total : Int} {M_near : Int → Int} {M_degree : Int → Int} {M_mine : Int → Int} {M_state : Int → Int} {M_history : Int → Int64} {M_oldLives : Int → Int} {M_safe : Int → Int} {M_mined : Int → Int} {M_used : Int → Int} {M_partOf : Int → Int} {M_placeOf : Int → Int} {M_partSize : Int → Int} {M_ways : Int → Int} {M_with : Int → Int} {M_masks : Int → Int} {M_rests : Int → Int} {M_bits : Int → Int} {M_reach : Int → Int} {M_more : Int → Int} {M_reason : Int → Int} {M_big : Int → Int64} {M_region : Int → Int} (x1 : Int) (x2 : Int) (rx1 : inR x1) (bx2 : x2 = 0 ∨ x2 = 1) (post : Int → (Int) → (Int) → (Int → Int) → (Int → Int) → (Int → Int) → (Int → Int) → (Int → Int) → (Int → Int) → (Int → Int) → (Int → Int) → (Int → Int) → Prop) (h : P_X12_isForced post M_cells M_parts M_numbers M_total M_near M_degree M_mine M_state M_used M_partOf M_placeOf M_partSize M_ways M_with M_masks M_rests M_bits M_reach M_more x1 x2) : mI l yX12_isForced (Cond.code yX12_isForced cX12_isForced 3 (some .boolean) :: GT) ({ frames := 7, cells := 0, slots := 0, locals := 420 } : Room) [.ref (ad 0), .int (iI x1), .int (iI x2)] K ad (mW M_thrown M_w M_h M_cells M_shape M_isBoard M_isBlank M_lives M_moves M_parts M_numbers M_grade M_reasons M_total M_near M_degree M_mine M_state M_history M_oldLives M_safe M_mined M_used M_partOf M_placeOf M_partSize M_ways M_with M_masks M_rests M_bits M_reach M_more M_reason M_big M_region) (fun z9 u9 => (z9 = 0 ∨ z9 = 1) ∧ ∃ M_parts9 M_numbers9 M_partOf9 M_placeOf9 M_partSize9 M_ways9 M_with9 M_masks9 M_rests9 M_reach9 M_more9, u9 = (mW M_thrown M_w M_h M_cells M_shape M_isBoard M_isBlank M_lives M_moves M_parts9 M_numbers9 M_grade M_reasons M_total M_near M_degree M_mine M_state M_history M_oldLives M_safe M_mined M_used M_partOf9 M_placeOf9 M_partSize9 M_ways9 M_with9 M_masks9 M_rests9 M_bits M_reach9 M_more9 M_reason M_big M_region) ∧ post z9 M_parts9 M_numbers9 M_partOf9 M_placeOf9 M_partSize9 M_ways9 M_with9 M_masks9 M_rests9 M_reach9 M_more9) := by
  refine mZ_of (lv0 := [(0, .ref (ad 0)), (1, .int (iI x1)), (2, .int (iI x2))]) (by decide) (Nat.le_of_ble_eq_true rfl) rfl ?_
  intro p e s m args below meth c Q A C ret
  replace C : Cx p ({ frames := 7, cells := 0, slots := 0, locals := 420 } : Room) m c 0 0 cX12_isForced 3 s args RX12 K A := C
  unfold P_X12_isForced at h
  refine wa_aload_n C 0 rfl dX12_isForced_0 rfl ?_
  refine wa_callVi C (k := 0) (As := []) (rest := []) (c_X12_countParts l K ad  _ h) gw_1467 gw_1464 mW_0 rfl gw_1466 gs_77 gw_12 q_X12_countParts rfl rfl rfl ⟨by decide, by decide⟩ rfl (Nat.le_of_ble_eq_true rfl) dX12_isForced_1 (fun c_1 u9 rc_1 hp => ?_)
  obtain ⟨bc_1, M_parts_2, M_numbers_3, M_partOf_4, M_placeOf_5, M_partSize_6, M_ways_7, M_with_8, M_masks_9, M_rests_10, rfl, h⟩ := hp
  replace h := h bc_1
  obtain ⟨J_11, h, hJ_11⟩ := h
  have k_12 : ∀ (M_reach_13 : Int → Int) (M_more_14 : Int → Int) (z_15 : Int), inR z_15 → J_11 M_reach_13 M_more_14 z_15 → WA p l e ({ frames := 7, cells := 0, slots := 0, locals := 420 } : Room) s m args below meth c 0 0 Q K ad 3 A 33 [] [.int (iI z_15)] (mW M_thrown M_w M_h M_cells M_shape M_isBoard M_isBlank M_lives M_moves M_parts_2 M_numbers_3 M_grade M_reasons M_total M_near M_degree M_mine M_state M_history M_oldLives M_safe M_mined M_used M_partOf_4 M_placeOf_5 M_partSize_6 M_ways_7 M_with_8 M_masks_9 M_rests_10 M_bits M_reach_13 M_more_14 M_reason M_big M_region) := by
    intro M_reach_13 M_more_14 z_15 rz_15 h
    replace h := hJ_11 M_reach_13 M_more_14 z_15 rz_15 h
    obtain ⟨b_16, h⟩ := h
    exact ret dX12_isForced_33 b_16 ⟨b_16, _, _, _, _, _, _, _, _, _, _, _, rfl, h⟩
  obtain ⟨J_17, h, hJ_17⟩ := h
  have k_18 : ∀ (M_reach_19 : Int → Int) (M_more_20 : Int → Int), J_17 M_reach_19 M_more_20 → WA p l e ({ frames := 7, cells := 0, slots := 0, locals := 420 } : Room) s m args below meth c 0 0 Q K ad 3 A 32 [] [] (mW M_thrown M_w M_h M_cells M_shape M_isBoard M_isBlank M_lives M_moves M_parts_2 M_numbers_3 M_grade M_reasons M_total M_near M_degree M_mine M_state M_history M_oldLives M_safe M_mined M_used M_partOf_4 M_placeOf_5 M_partSize_6 M_ways_7 M_with_8 M_masks_9 M_rests_10 M_bits M_reach_19 M_more_20 M_reason M_big M_region) := by
    intro M_reach_19 M_more_20 h
    replace h := hJ_17 M_reach_19 M_more_20 h
    refine wa_iconst C (z := 0) dX12_isForced_32 rfl ?_
    refine wa_sub C [] rfl ?_
    exact k_12 M_reach_19 M_more_20 0 (inR_k 0 rfl) h
  refine wa_if_eq C (tgt := 32) (inR_b bc_1) dX12_isForced_4 (by decide) (fun c_21 => ?_) (fun c_21 => ?_)
  · replace h := h.1 c_21
    refine wa_sub C [] rfl ?_
    exact k_18 M_reach M_more h
  · replace h := h.2 c_21
    refine wa_aload_n C 0 rfl dX12_isForced_7 rfl ?_
    refine wa_iload_n C 1 rfl dX12_isForced_8 rfl ?_
    refine wa_iload_n C 2 rfl dX12_isForced_9 rfl ?_
    obtain ⟨J_22, h, hJ_22⟩ := h
    have k_23 : ∀ (z_24 : Int), inR z_24 → J_22 z_24 → WA p l e ({ frames := 7, cells := 0, slots := 0, locals := 420 } : Room) s m args below meth c 0 0 Q K ad 3 A 18 [(0, .ref (ad 0))] [.int (iI z_24), .int (iI x1), .ref (ad 0)] (mW M_thrown M_w M_h M_cells M_shape M_isBoard M_isBlank M_lives M_moves M_parts_2 M_numbers_3 M_grade M_reasons M_total M_near M_degree M_mine M_state M_history M_oldLives M_safe M_mined M_used M_partOf_4 M_placeOf_5 M_partSize_6 M_ways_7 M_with_8 M_masks_9 M_rests_10 M_bits M_reach M_more M_reason M_big M_region) := by
      intro z_24 rz_24 h
      replace h := hJ_22 z_24 rz_24 h
      refine wa_aload_n C 0 rfl dX12_isForced_18 rfl ?_
      refine wa_getZ C 0 32 mW_0 rfl rfl (by decide) okX12 gw_1264 dX12_isForced_19 (fun r_25 => ?_)
      obtain ⟨b_26, h⟩ := h
      refine wa_callVi C (k := 0) (As := [.int (iI x1), .int (iI z_24), .int (iI M_total)]) (rest := []) (c_X12_isPossible l K ad x1 z_24 M_total rx1 b_26 r_25 _ h) gw_1592 gw_1589 mW_0 rfl gw_1591 gs_100 gw_12 q_X12_isPossible rfl rfl rfl ⟨by decide, by decide⟩ rfl (Nat.le_of_ble_eq_true rfl) dX12_isForced_22 (fun c_27 u9 rc_27 hp => ?_)
      obtain ⟨bc_27, M_reach_28, M_more_29, rfl, h⟩ := hp
      replace h := h bc_27
      refine wa_if_ne C (tgt := 32) (inR_b bc_27) dX12_isForced_25 (by decide) (fun c_30 => ?_) (fun c_30 => ?_)
      · replace h := h.1 c_30
        refine wa_sub C [] rfl ?_
        exact k_18 M_reach_28 M_more_29 h
      · replace h := h.2 c_30
        refine wa_iconst C (z := 1) dX12_isForced_28 rfl ?_
        refine wa_goto C (tgt := 33) dX12_isForced_29 (by decide) ?_
        refine wa_sub C [] rfl ?_
        exact k_12 M_reach_28 M_more_29 1 (inR_k 1 rfl) h
    refine wa_if_ne C (tgt := 17) (inR_b bx2) dX12_isForced_10 (by decide) (fun c_31 => ?_) (fun c_31 => ?_)
    · replace h := h.1 c_31
      refine wa_iconst C (z := 0) dX12_isForced_17 rfl ?_
      refine wa_sub C [0] rfl ?_
      exact k_23 0 (inR_k 0 rfl) h
    · replace h := h.2 c_31
      refine wa_iconst C (z := 1) dX12_isForced_13 rfl ?_
      refine wa_goto C (tgt := 18) dX12_isForced_14 (by decide) ?_
      refine wa_sub C [0] rfl ?_
      exact k_23 1 (inR_k 1 rfl) h
def P_X12_usePart (post : (Int) → (Int → Int) → (Int → Int) → (Int → Int) → (Int → Int) → Prop) (M_cells : Int) (M_parts : Int) (M_near : Int → Int) (M_degree : Int → Int) (M_state : Int → Int) (M_used : Int → Int) (M_partOf : Int → Int) (M_placeOf : Int → Int) (M_partSize : Int → Int) (x1 : Int) : Prop :=
  P_X12_useAll (fun (M_used_1 : Int → Int) => (P_X12_divide (fun (c_2 : Int) (M_parts_3 : Int) (M_partOf_4 : Int → Int) (M_placeOf_5 : Int → Int) (M_partSize_6 : Int → Int) => (c_2 = 0 ∨ c_2 = 1) → ((0 ≤ x1 ∧ x1 < 144) ∧ (∀ v_8 : Int, v_8 = M_partOf_4 x1 → inR v_8 → (∃ Inv_9 : Nat → (Int) → (Int → Int) → Prop, (∃ n_10 : Nat, Inv_9 n_10 0 M_used_1) ∧ ∀ (n_11 : Nat) (x3_14 : Int) (M_used_15 : Int → Int), inR x3_14 → Inv_9 n_11 x3_14 M_used_15 → ((M_cells ≤ x3_14 → (post M_parts_3 M_used_15 M_partOf_4 M_placeOf_5 M_partSize_6)) ∧ (¬ M_cells ≤ x3_14 → (∃ Inv_18 : Nat → (Int) → (Int) → Prop, (∃ n_19 : Nat, Inv_18 n_19 0 0) ∧ ∀ (n_20 : Nat) (x4_23 : Int) (x5_24 : Int), inR x4_23 → inR x5_24 → Inv_18 n_20 x4_23 x5_24 → ((0 ≤ x3_14 ∧ x3_14 < 144) ∧ (∀ v_26 : Int, v_26 = M_degree x3_14 → inR v_26 → (∃ J_27 : Prop, ((v_26 ≤ x5_24 → (J_27)) ∧ (¬ v_26 ≤ x5_24 → ((0 ≤ x3_14 ∧ x3_14 < 144) ∧ (∀ v_37 : Int, v_37 = M_used_15 x3_14 → (v_37 = 0 ∨ v_37 = 1) → ((v_37 = 0 → (J_27)) ∧ (¬ v_37 = 0 → (∃ J_39 : (Int) → Prop, (∃ J_45 : Prop, ((¬ x4_23 = 0 → (J_45)) ∧ (x4_23 = 0 → ((0 ≤ ((8 * x3_14) + x5_24) ∧ ((8 * x3_14) + x5_24) < 1152) ∧ (∀ v_49 : Int, v_49 = M_near ((8 * x3_14) + x5_24) → inR v_49 → (P_X12_isUnknown (fun (c_50 : Int) => (c_50 = 0 ∨ c_50 = 1) → (∃ J_51 : Prop, ((c_50 = 0 → (J_51)) ∧ (¬ c_50 = 0 → ((0 ≤ ((8 * x3_14) + x5_24) ∧ ((8 * x3_14) + x5_24) < 1152) ∧ (∀ v_55 : Int, v_55 = M_near ((8 * x3_14) + x5_24) → inR v_55 → ((0 ≤ v_55 ∧ v_55 < 144) ∧ (∀ v_57 : Int, v_57 = M_partOf_4 v_55 → inR v_57 → ((¬ v_57 = v_8 → (J_51)) ∧ (v_57 = v_8 → (J_45))))))))) ∧ (J_51 → (J_39 0)))) M_state v_49))))) ∧ (J_45 → (J_39 1))) ∧ (∀ (z_41 : Int), inR z_41 → J_39 z_41 → (inR (x5_24 + 1) ∧ (∀ x5_43 : Int, x5_43 = (x5_24 + 1) → (∃ n_44 : Nat, n_44 < n_20 ∧ Inv_18 n_44 z_41 x5_43))))))))))) ∧ (J_27 → ((0 ≤ x3_14 ∧ x3_14 < 144) ∧ ((x4_23 = 0 ∨ x4_23 = 1) ∧ (∀ M_used_31 : Int → Int, M_used_31 = upZ M_used_15 x3_14 x4_23 → (inR (x3_14 + 1) ∧ (∀ x3_33 : Int, x3_33 = (x3_14 + 1) → (∃ n_34 : Nat, n_34 < n_11 ∧ Inv_9 n_34 x3_33 M_used_31))))))))))))))))) M_cells M_parts M_near M_degree M_state M_used_1 M_partOf M_placeOf M_partSize )) M_cells M_near M_degree M_state M_used 
set_option maxRecDepth 100000 in
set_option maxHeartbeats 4000000 in
theorem c_X12_usePart (l : Launch) (K : wK) (ad : Nat → Nat) {M_thrown : Int} {M_w : Int} {M_h : Int} {M_cells : Int} {M_shape : Int} {M_isBoard : Int} {M_isBlank : Int} {M_lives : Int} {M_moves : Int} {M_parts : Int} {M_numbers : Int} {M_grade : Int} {M_reasons : Int} {M_total : Int} {M_near : Int → Int} {M_degree : Int → Int} {M_mine : Int → Int} {M_state : Int → Int} {M_history : Int → Int64} {M_oldLives : Int → Int} {M_safe : Int → Int} {M_mined : Int → Int} {M_used : Int → Int} {M_partOf : Int → Int} {M_placeOf : Int → Int} {M_partSize : Int → Int} {M_ways : Int → Int} {M_with : Int → Int} {M_masks : Int → Int} {M_rests : Int → Int} {M_bits : Int → Int} {M_reach : Int → Int} {M_more : Int → Int} {M_reason : Int → Int} {M_big : Int → Int64} {M_region : Int → Int} (x1 : Int) (rx1 : inR x1) (post : (Int) → (Int → Int) → (Int → Int) → (Int → Int) → (Int → Int) → Prop) (h : P_X12_usePart post M_cells M_parts M_near M_degree M_state M_used M_partOf M_placeOf M_partSize x1) : mV l yX12_usePart (Cond.code yX12_usePart cX12_usePart 6 none :: GT) ({ frames := 5, cells := 0, slots := 0, locals := 300 } : Room) [.ref (ad 0), .int (iI x1)] K ad (mW M_thrown M_w M_h M_cells M_shape M_isBoard M_isBlank M_lives M_moves M_parts M_numbers M_grade M_reasons M_total M_near M_degree M_mine M_state M_history M_oldLives M_safe M_mined M_used M_partOf M_placeOf M_partSize M_ways M_with M_masks M_rests M_bits M_reach M_more M_reason M_big M_region) (fun u9 => ∃ M_parts9 M_used9 M_partOf9 M_placeOf9 M_partSize9, u9 = (mW M_thrown M_w M_h M_cells M_shape M_isBoard M_isBlank M_lives M_moves M_parts9 M_numbers M_grade M_reasons M_total M_near M_degree M_mine M_state M_history M_oldLives M_safe M_mined M_used9 M_partOf9 M_placeOf9 M_partSize9 M_ways M_with M_masks M_rests M_bits M_reach M_more M_reason M_big M_region) ∧ post M_parts9 M_used9 M_partOf9 M_placeOf9 M_partSize9) := by
  refine mV_of (lv0 := [(0, .ref (ad 0)), (1, .int (iI x1))]) (by decide) (Nat.le_of_ble_eq_true rfl) rfl ?_
  intro p e s m args below meth c Q A C ret
  replace C : Cx p ({ frames := 5, cells := 0, slots := 0, locals := 300 } : Room) m c 0 0 cX12_usePart 6 s args RX12 K A := C
  unfold P_X12_usePart at h
  refine wa_aload_n C 0 rfl dX12_usePart_0 rfl ?_
  refine wa_callVv C (k := 0) (As := []) (rest := []) (c_X12_useAll l K ad  _ h) gw_1463 gw_1460 mW_0 rfl gw_1462 gs_76 gw_12 q_X12_useAll rfl rfl rfl ⟨by decide, by decide⟩ rfl (Nat.le_of_ble_eq_true rfl) dX12_usePart_1 (fun u9 hp => ?_)
  obtain ⟨M_used_1, rfl, h⟩ := hp
  refine wa_aload_n C 0 rfl dX12_usePart_4 rfl ?_
  refine wa_callVi C (k := 0) (As := []) (rest := []) (c_X12_divide l K ad  _ h) gw_1471 gw_1468 mW_0 rfl gw_1470 gs_78 gw_12 q_X12_divide rfl rfl rfl ⟨by decide, by decide⟩ rfl (Nat.le_of_ble_eq_true rfl) dX12_usePart_5 (fun c_2 u9 rc_2 hp => ?_)
  obtain ⟨bc_2, M_parts_3, M_partOf_4, M_placeOf_5, M_partSize_6, rfl, h⟩ := hp
  replace h := h bc_2
  refine wa_pop C dX12_usePart_8 rfl ?_
  refine wa_aload_n C 0 rfl dX12_usePart_9 rfl ?_
  refine wa_getR C 0 18 mW_0 rfl rfl (by decide) okX12 gw_1250 dX12_usePart_10 ?_
  refine wa_iload_n C 1 rfl dX12_usePart_13 rfl ?_
  obtain ⟨t_7, h⟩ := h
  refine wa_iald C 10 mW_10 dX12_usePart_14 t_7.1 t_7.2 (fun v_8 ev_8 rv_8 => ?_)
  replace h := h v_8 ev_8 rv_8
  refine wa_istore_n C dX12_usePart_15 rfl (by decide) rfl ?_
  refine wa_iconst C (z := 0) dX12_usePart_16 rfl ?_
  refine wa_istore_n C dX12_usePart_17 rfl (by decide) rfl ?_
  obtain ⟨Inv_9, ⟨n_10, h0Inv_9⟩, hInv_9⟩ := h
  have k_13 : ∀ (n_11 : Nat) (x3_14 : Int) (M_used_15 : Int → Int), inR x3_14 → Inv_9 n_11 x3_14 M_used_15 → WA p l e ({ frames := 5, cells := 0, slots := 0, locals := 300 } : Room) s m args below meth c 0 0 Q K ad 6 A 18 [(0, .ref (ad 0)), (2, .int (iI v_8)), (3, .int (iI x3_14))] [] (mW M_thrown M_w M_h M_cells M_shape M_isBoard M_isBlank M_lives M_moves M_parts_3 M_numbers M_grade M_reasons M_total M_near M_degree M_mine M_state M_history M_oldLives M_safe M_mined M_used_15 M_partOf_4 M_placeOf_5 M_partSize_6 M_ways M_with M_masks M_rests M_bits M_reach M_more M_reason M_big M_region) := by
    intro n_11
    induction n_11 using Nat.strongRecOn with
    | ind n_11 ih_12 =>
      intro x3_14 M_used_15 rx3_14 h
      replace h := hInv_9 n_11 x3_14 M_used_15 rx3_14 h
      refine wa_iload_n C 2 rfl dX12_usePart_18 rfl ?_
      refine wa_aload_n C 0 rfl dX12_usePart_19 rfl ?_
      refine wa_getI C 0 3 mW_0 rfl rfl (by decide) okX12 gw_1235 dX12_usePart_20 (fun r_16 => ?_)
      refine wa_icmp_ge C (tgt := 124) rx3_14 r_16 dX12_usePart_23 (by decide) (fun c_17 => ?_) (fun c_17 => ?_)
      · replace h := h.1 c_17
        exact ret dX12_usePart_124 ⟨_, _, _, _, _, rfl, h⟩
      · replace h := h.2 c_17
        refine wa_iconst C (z := 0) dX12_usePart_26 rfl ?_
        refine wa_istore C dX12_usePart_27 (by decide) rfl ?_
        refine wa_iconst C (z := 0) dX12_usePart_29 rfl ?_
        refine wa_istore C dX12_usePart_30 (by decide) rfl ?_
        obtain ⟨Inv_18, ⟨n_19, h0Inv_18⟩, hInv_18⟩ := h
        have k_22 : ∀ (n_20 : Nat) (x4_23 : Int) (x5_24 : Int), inR x4_23 → inR x5_24 → Inv_18 n_20 x4_23 x5_24 → WA p l e ({ frames := 5, cells := 0, slots := 0, locals := 300 } : Room) s m args below meth c 0 0 Q K ad 6 A 32 [(0, .ref (ad 0)), (2, .int (iI v_8)), (3, .int (iI x3_14)), (4, .int (iI x4_23)), (5, .int (iI x5_24))] [] (mW M_thrown M_w M_h M_cells M_shape M_isBoard M_isBlank M_lives M_moves M_parts_3 M_numbers M_grade M_reasons M_total M_near M_degree M_mine M_state M_history M_oldLives M_safe M_mined M_used_15 M_partOf_4 M_placeOf_5 M_partSize_6 M_ways M_with M_masks M_rests M_bits M_reach M_more M_reason M_big M_region) := by
          intro n_20
          induction n_20 using Nat.strongRecOn with
          | ind n_20 ih_21 =>
            intro x4_23 x5_24 rx4_23 rx5_24 h
            replace h := hInv_18 n_20 x4_23 x5_24 rx4_23 rx5_24 h
            refine wa_iload C 4 rfl dX12_usePart_32 ?_
            refine wa_aload_n C 0 rfl dX12_usePart_34 rfl ?_
            refine wa_getR C 0 8 mW_0 rfl rfl (by decide) okX12 gw_1240 dX12_usePart_35 ?_
            refine wa_iload_n C 2 rfl dX12_usePart_38 rfl ?_
            obtain ⟨t_25, h⟩ := h
            refine wa_iald C 2 mW_2 dX12_usePart_39 t_25.1 t_25.2 (fun v_26 ev_26 rv_26 => ?_)
            replace h := h v_26 ev_26 rv_26
            obtain ⟨J_27, h, hJ_27⟩ := h
            have k_28 : J_27 → WA p l e ({ frames := 5, cells := 0, slots := 0, locals := 300 } : Room) s m args below meth c 0 0 Q K ad 6 A 110 [(0, .ref (ad 0)), (2, .int (iI v_8)), (3, .int (iI x3_14)), (4, .int (iI x4_23))] [] (mW M_thrown M_w M_h M_cells M_shape M_isBoard M_isBlank M_lives M_moves M_parts_3 M_numbers M_grade M_reasons M_total M_near M_degree M_mine M_state M_history M_oldLives M_safe M_mined M_used_15 M_partOf_4 M_placeOf_5 M_partSize_6 M_ways M_with M_masks M_rests M_bits M_reach M_more M_reason M_big M_region) := by
              intro h
              replace h := hJ_27 h
              refine wa_aload_n C 0 rfl dX12_usePart_110 rfl ?_
              refine wa_getR C 0 17 mW_0 rfl rfl (by decide) okX12 gw_1249 dX12_usePart_111 ?_
              refine wa_iload_n C 2 rfl dX12_usePart_114 rfl ?_
              refine wa_iload C 3 rfl dX12_usePart_115 ?_
              obtain ⟨t_29, h⟩ := h
              obtain ⟨b_30, h⟩ := h
              refine wa_bast C (ws' := fun w9 => (mW M_thrown M_w M_h M_cells M_shape M_isBoard M_isBlank M_lives M_moves M_parts_3 M_numbers M_grade M_reasons M_total M_near M_degree M_mine M_state M_history M_oldLives M_safe M_mined w9 M_partOf_4 M_placeOf_5 M_partSize_6 M_ways M_with M_masks M_rests M_bits M_reach M_more M_reason M_big M_region)) 9 mW_9 dX12_usePart_117 t_29.1 t_29.2 b_30 mWs_9 (fun M_used_31 eM_used_31 => ?_)
              replace h := h M_used_31 eM_used_31
              obtain ⟨r_32, h⟩ := h
              refine wa_iinc C (lv' := fun w9 => [(3, .int (iI w9)), (0, .ref (ad 0)), (2, .int (iI v_8)), (4, .int (iI x4_23))]) 2 rfl dX12_usePart_118 (by decide) (fun _ => rfl) (fun x3_33 ex3_33 => ?_)
              replace h := h x3_33 ex3_33
              have rx3_33 : inR x3_33 := by rw [ex3_33]; exact r_32
              refine wa_goto C (tgt := 18) dX12_usePart_121 (by decide) ?_
              obtain ⟨n_34, ln_34, h⟩ := h
              refine wa_sub C [1, 2, 0] rfl ?_
              exact ih_12 n_34 ln_34 x3_33 M_used_31 rx3_33 h
            refine wa_icmp_ge C (tgt := 110) rx5_24 rv_26 dX12_usePart_40 (by decide) (fun c_35 => ?_) (fun c_35 => ?_)
            · replace h := h.1 c_35
              refine wa_sub C [0, 1, 2, 3] rfl ?_
              exact k_28 h
            · replace h := h.2 c_35
              refine wa_aload_n C 0 rfl dX12_usePart_43 rfl ?_
              refine wa_getR C 0 17 mW_0 rfl rfl (by decide) okX12 gw_1249 dX12_usePart_44 ?_
              refine wa_iload_n C 2 rfl dX12_usePart_47 rfl ?_
              obtain ⟨t_36, h⟩ := h
              refine wa_bald C 9 mW_9 dX12_usePart_48 t_36.1 t_36.2 (fun v_37 ev_37 rv_37 => ?_)
              replace h := h v_37 ev_37 rv_37
              refine wa_if_eq C (tgt := 110) (inR_b rv_37) dX12_usePart_49 (by decide) (fun c_38 => ?_) (fun c_38 => ?_)
              · replace h := h.1 c_38
                refine wa_sub C [0, 1, 2, 3] rfl ?_
                exact k_28 h
              · replace h := h.2 c_38
                refine wa_iload C 3 rfl dX12_usePart_52 ?_
                obtain ⟨J_39, h, hJ_39⟩ := h
                have k_40 : ∀ (z_41 : Int), inR z_41 → J_39 z_41 → WA p l e ({ frames := 5, cells := 0, slots := 0, locals := 300 } : Room) s m args below meth c 0 0 Q K ad 6 A 102 [(0, .ref (ad 0)), (2, .int (iI v_8)), (3, .int (iI x3_14)), (5, .int (iI x5_24))] [.int (iI z_41)] (mW M_thrown M_w M_h M_cells M_shape M_isBoard M_isBlank M_lives M_moves M_parts_3 M_numbers M_grade M_reasons M_total M_near M_degree M_mine M_state M_history M_oldLives M_safe M_mined M_used_15 M_partOf_4 M_placeOf_5 M_partSize_6 M_ways M_with M_masks M_rests M_bits M_reach M_more M_reason M_big M_region) := by
                  intro z_41 rz_41 h
                  replace h := hJ_39 z_41 rz_41 h
                  refine wa_istore C dX12_usePart_102 (by decide) rfl ?_
                  obtain ⟨r_42, h⟩ := h
                  refine wa_iinc C (lv' := fun w9 => [(5, .int (iI w9)), (4, .int (iI z_41)), (0, .ref (ad 0)), (2, .int (iI v_8)), (3, .int (iI x3_14))]) 4 rfl dX12_usePart_104 (by decide) (fun _ => rfl) (fun x5_43 ex5_43 => ?_)
                  replace h := h x5_43 ex5_43
                  have rx5_43 : inR x5_43 := by rw [ex5_43]; exact r_42
                  refine wa_goto C (tgt := 32) dX12_usePart_107 (by decide) ?_
                  obtain ⟨n_44, ln_44, h⟩ := h
                  refine wa_sub C [2, 3, 4, 1, 0] rfl ?_
                  exact ih_21 n_44 ln_44 z_41 x5_43 rz_41 rx5_43 h
                obtain ⟨J_45, h, hJ_45⟩ := h
                have k_46 : J_45 → WA p l e ({ frames := 5, cells := 0, slots := 0, locals := 300 } : Room) s m args below meth c 0 0 Q K ad 6 A 97 [(0, .ref (ad 0)), (2, .int (iI v_8)), (3, .int (iI x3_14)), (5, .int (iI x5_24))] [] (mW M_thrown M_w M_h M_cells M_shape M_isBoard M_isBlank M_lives M_moves M_parts_3 M_numbers M_grade M_reasons M_total M_near M_degree M_mine M_state M_history M_oldLives M_safe M_mined M_used_15 M_partOf_4 M_placeOf_5 M_partSize_6 M_ways M_with M_masks M_rests M_bits M_reach M_more M_reason M_big M_region) := by
                  intro h
                  replace h := hJ_45 h
                  refine wa_iconst C (z := 1) dX12_usePart_97 rfl ?_
                  refine wa_goto C (tgt := 102) dX12_usePart_98 (by decide) ?_
                  refine wa_sub C [0, 1, 2, 3] rfl ?_
                  exact k_40 1 (inR_k 1 rfl) h
                refine wa_if_ne C (tgt := 97) rx4_23 dX12_usePart_54 (by decide) (fun c_47 => ?_) (fun c_47 => ?_)
                · replace h := h.1 c_47
                  refine wa_sub C [0, 1, 2, 4] rfl ?_
                  exact k_46 h
                · replace h := h.2 c_47
                  refine wa_aload_n C 0 rfl dX12_usePart_57 rfl ?_
                  refine wa_aload_n C 0 rfl dX12_usePart_58 rfl ?_
                  refine wa_getR C 0 7 mW_0 rfl rfl (by decide) okX12 gw_1239 dX12_usePart_59 ?_
                  refine wa_bipush C (z := 8) dX12_usePart_62 (by decide) ?_
                  refine wa_iload_n C 2 rfl dX12_usePart_64 rfl ?_
                  refine wa_imul C dX12_usePart_65 ?_
                  refine wa_iload C 4 rfl dX12_usePart_66 ?_
                  refine wa_iadd C dX12_usePart_68 ?_
                  obtain ⟨t_48, h⟩ := h
                  refine wa_iald C 1 mW_1 dX12_usePart_69 t_48.1 t_48.2 (fun v_49 ev_49 rv_49 => ?_)
                  replace h := h v_49 ev_49 rv_49
                  refine wa_callVi C (k := 0) (As := [.int (iI v_49)]) (rest := []) (c_X12_isUnknown l K ad v_49 rv_49 _ h) gw_1411 gw_1408 mW_0 rfl gw_1410 gs_63 gw_12 q_X12_isUnknown rfl rfl rfl ⟨by decide, by decide⟩ rfl (Nat.le_of_ble_eq_true rfl) dX12_usePart_70 (fun c_50 u9 rc_50 hp => ?_)
                  obtain ⟨bc_50, rfl, h⟩ := hp
                  replace h := h bc_50
                  obtain ⟨J_51, h, hJ_51⟩ := h
                  have k_52 : J_51 → WA p l e ({ frames := 5, cells := 0, slots := 0, locals := 300 } : Room) s m args below meth c 0 0 Q K ad 6 A 101 [(0, .ref (ad 0)), (2, .int (iI v_8)), (3, .int (iI x3_14)), (5, .int (iI x5_24))] [] (mW M_thrown M_w M_h M_cells M_shape M_isBoard M_isBlank M_lives M_moves M_parts_3 M_numbers M_grade M_reasons M_total M_near M_degree M_mine M_state M_history M_oldLives M_safe M_mined M_used_15 M_partOf_4 M_placeOf_5 M_partSize_6 M_ways M_with M_masks M_rests M_bits M_reach M_more M_reason M_big M_region) := by
                    intro h
                    replace h := hJ_51 h
                    refine wa_iconst C (z := 0) dX12_usePart_101 rfl ?_
                    refine wa_sub C [0, 1, 2, 3] rfl ?_
                    exact k_40 0 (inR_k 0 rfl) h
                  refine wa_if_eq C (tgt := 101) (inR_b bc_50) dX12_usePart_73 (by decide) (fun c_53 => ?_) (fun c_53 => ?_)
                  · replace h := h.1 c_53
                    refine wa_sub C [0, 1, 2, 4] rfl ?_
                    exact k_52 h
                  · replace h := h.2 c_53
                    refine wa_aload_n C 0 rfl dX12_usePart_76 rfl ?_
                    refine wa_getR C 0 18 mW_0 rfl rfl (by decide) okX12 gw_1250 dX12_usePart_77 ?_
                    refine wa_aload_n C 0 rfl dX12_usePart_80 rfl ?_
                    refine wa_getR C 0 7 mW_0 rfl rfl (by decide) okX12 gw_1239 dX12_usePart_81 ?_
                    refine wa_bipush C (z := 8) dX12_usePart_84 (by decide) ?_
                    refine wa_iload_n C 2 rfl dX12_usePart_86 rfl ?_
                    refine wa_imul C dX12_usePart_87 ?_
                    refine wa_iload C 4 rfl dX12_usePart_88 ?_
                    refine wa_iadd C dX12_usePart_90 ?_
                    obtain ⟨t_54, h⟩ := h
                    refine wa_iald C 1 mW_1 dX12_usePart_91 t_54.1 t_54.2 (fun v_55 ev_55 rv_55 => ?_)
                    replace h := h v_55 ev_55 rv_55
                    obtain ⟨t_56, h⟩ := h
                    refine wa_iald C 10 mW_10 dX12_usePart_92 t_56.1 t_56.2 (fun v_57 ev_57 rv_57 => ?_)
                    replace h := h v_57 ev_57 rv_57
                    refine wa_iload_n C 1 rfl dX12_usePart_93 rfl ?_
                    refine wa_icmp_ne C (tgt := 101) rv_57 rv_8 dX12_usePart_94 (by decide) (fun c_58 => ?_) (fun c_58 => ?_)
                    · replace h := h.1 c_58
                      refine wa_sub C [0, 1, 2, 4] rfl ?_
                      exact k_52 h
                    · replace h := h.2 c_58
                      refine wa_sub C [0, 1, 2, 4] rfl ?_
                      exact k_46 h
        refine wa_sub C [2, 3, 4, 1, 0] rfl ?_
        exact k_22 n_19 0 0 (inR_k 0 rfl) (inR_k 0 rfl) h0Inv_18
  refine wa_sub C [2, 1, 0] rfl ?_
  exact k_13 n_10 0 M_used_1 (inR_k 0 rfl) h0Inv_9
def P_X12_findReason (post : (Int) → (Int) → (Int) → (Int) → (Int → Int) → (Int → Int) → (Int → Int) → (Int → Int) → (Int → Int) → (Int → Int) → (Int → Int) → (Int → Int) → (Int → Int) → (Int → Int) → (Int → Int) → Prop) (M_cells : Int) (M_parts : Int) (M_numbers : Int) (M_reasons : Int) (M_total : Int) (M_near : Int → Int) (M_degree : Int → Int) (M_mine : Int → Int) (M_state : Int → Int) (M_used : Int → Int) (M_partOf : Int → Int) (M_placeOf : Int → Int) (M_partSize : Int → Int) (M_ways : Int → Int) (M_with : Int → Int) (M_masks : Int → Int) (M_rests : Int → Int) (M_bits : Int → Int) (M_reach : Int → Int) (M_more : Int → Int) (M_reason : Int → Int) (x1 : Int) (x2 : Int) : Prop :=
  P_X12_useAll (fun (M_used_1 : Int → Int) => (P_X12_divide (fun (c_2 : Int) (M_parts_3 : Int) (M_partOf_4 : Int → Int) (M_placeOf_5 : Int → Int) (M_partSize_6 : Int → Int) => (c_2 = 0 ∨ c_2 = 1) → ((0 ≤ x1 ∧ x1 < 144) ∧ (∀ v_8 : Int, v_8 = M_partOf_4 x1 → inR v_8 → (∃ J_9 : (Int) → Prop, ((v_8 < 0 → (J_9 0)) ∧ (¬ v_8 < 0 → (J_9 1))) ∧ (∀ (z_11 : Int), inR z_11 → J_9 z_11 → (∃ J_12 : (Int) → (Int → Int) → (Int → Int) → (Int → Int) → (Int → Int) → Prop, ((z_11 = 0 → (J_12 M_parts_3 M_used_1 M_partOf_4 M_placeOf_5 M_partSize_6)) ∧ (¬ z_11 = 0 → (P_X12_usePart (fun (M_parts_156 : Int) (M_used_157 : Int → Int) (M_partOf_158 : Int → Int) (M_placeOf_159 : Int → Int) (M_partSize_160 : Int → Int) => (J_12 M_parts_156 M_used_157 M_partOf_158 M_placeOf_159 M_partSize_160)) M_cells M_parts_3 M_near M_degree M_state M_used_1 M_partOf_4 M_placeOf_5 M_partSize_6 x1))) ∧ (∀ (M_parts_14 : Int) (M_used_15 : Int → Int) (M_partOf_16 : Int → Int) (M_placeOf_17 : Int → Int) (M_partSize_18 : Int → Int), J_12 M_parts_14 M_used_15 M_partOf_16 M_placeOf_17 M_partSize_18 → (∃ J_19 : (Int) → (Int) → (Int) → (Int → Int) → (Int → Int) → (Int → Int) → (Int → Int) → (Int → Int) → (Int → Int) → (Int → Int) → (Int → Int) → (Int → Int) → (Int → Int) → Prop, ((c_2 = 0 → (J_19 M_parts_14 M_numbers 0 M_used_15 M_partOf_16 M_placeOf_17 M_partSize_18 M_ways M_with M_masks M_rests M_reach M_more)) ∧ (¬ c_2 = 0 → (∃ J_127 : (Int) → (Int) → (Int → Int) → (Int → Int) → (Int → Int) → (Int → Int) → (Int → Int) → (Int → Int) → (Int → Int) → (Int → Int) → (Int → Int) → Prop, ((z_11 = 0 → (J_127 M_parts_14 M_numbers M_partOf_16 M_placeOf_17 M_partSize_18 M_ways M_with M_masks M_rests M_reach M_more)) ∧ (¬ z_11 = 0 → (P_X12_isForced (fun (c_142 : Int) (M_parts_143 : Int) (M_numbers_144 : Int) (M_partOf_145 : Int → Int) (M_placeOf_146 : Int → Int) (M_partSize_147 : Int → Int) (M_ways_148 : Int → Int) (M_with_149 : Int → Int) (M_masks_150 : Int → Int) (M_rests_151 : Int → Int) (M_reach_152 : Int → Int) (M_more_153 : Int → Int) => (c_142 = 0 ∨ c_142 = 1) → ((¬ c_142 = 0 → (J_19 M_parts_143 M_numbers_144 0 M_used_15 M_partOf_145 M_placeOf_146 M_partSize_147 M_ways_148 M_with_149 M_masks_150 M_rests_151 M_reach_152 M_more_153)) ∧ (c_142 = 0 → (J_127 M_parts_143 M_numbers_144 M_partOf_145 M_placeOf_146 M_partSize_147 M_ways_148 M_with_149 M_masks_150 M_rests_151 M_reach_152 M_more_153)))) M_cells M_parts_14 M_numbers 0 M_near M_degree M_mine M_state M_used_15 M_partOf_16 M_placeOf_17 M_partSize_18 M_ways M_with M_masks M_rests M_bits M_reach M_more x1 x2))) ∧ (∀ (M_parts_129 : Int) (M_numbers_130 : Int) (M_partOf_131 : Int → Int) (M_placeOf_132 : Int → Int) (M_partSize_133 : Int → Int) (M_ways_134 : Int → Int) (M_with_135 : Int → Int) (M_masks_136 : Int → Int) (M_rests_137 : Int → Int) (M_reach_138 : Int → Int) (M_more_139 : Int → Int), J_127 M_parts_129 M_numbers_130 M_partOf_131 M_placeOf_132 M_partSize_133 M_ways_134 M_with_135 M_masks_136 M_rests_137 M_reach_138 M_more_139 → (P_X12_useAll (fun (M_used_140 : Int → Int) => (J_19 M_parts_129 M_numbers_130 1 M_used_140 M_partOf_131 M_placeOf_132 M_partSize_133 M_ways_134 M_with_135 M_masks_136 M_rests_137 M_reach_138 M_more_139)) M_cells M_near M_degree M_state M_used_15 ))))) ∧ (∀ (M_parts_21 : Int) (M_numbers_22 : Int) (M_total_23 : Int) (M_used_24 : Int → Int) (M_partOf_25 : Int → Int) (M_placeOf_26 : Int → Int) (M_partSize_27 : Int → Int) (M_ways_28 : Int → Int) (M_with_29 : Int → Int) (M_masks_30 : Int → Int) (M_rests_31 : Int → Int) (M_reach_32 : Int → Int) (M_more_33 : Int → Int), J_19 M_parts_21 M_numbers_22 M_total_23 M_used_24 M_partOf_25 M_placeOf_26 M_partSize_27 M_ways_28 M_with_29 M_masks_30 M_rests_31 M_reach_32 M_more_33 → (inR (M_cells - 1) ∧ (∀ x5_36 : Int, x5_36 = (M_cells - 1) → (∃ Inv_37 : Nat → (Int) → (Int) → (Int) → (Int → Int) → (Int → Int) → (Int → Int) → (Int → Int) → (Int → Int) → (Int → Int) → (Int → Int) → (Int → Int) → (Int → Int) → (Int → Int) → Prop, (∃ n_38 : Nat, Inv_37 n_38 x5_36 M_parts_21 M_numbers_22 M_used_24 M_partOf_25 M_placeOf_26 M_partSize_27 M_ways_28 M_with_29 M_masks_30 M_rests_31 M_reach_32 M_more_33) ∧ ∀ (n_39 : Nat) (x5_42 : Int) (M_parts_43 : Int) (M_numbers_44 : Int) (M_used_45 : Int → Int) (M_partOf_46 : Int → Int) (M_placeOf_47 : Int → Int) (M_partSize_48 : Int → Int) (M_ways_49 : Int → Int) (M_with_50 : Int → Int) (M_masks_51 : Int → Int) (M_rests_52 : Int → Int) (M_reach_53 : Int → Int) (M_more_54 : Int → Int), inR x5_42 → Inv_37 n_39 x5_42 M_parts_43 M_numbers_44 M_used_45 M_partOf_46 M_placeOf_47 M_partSize_48 M_ways_49 M_with_50 M_masks_51 M_rests_52 M_reach_53 M_more_54 → (∃ J_55 : Prop, ((x5_42 < 0 → (J_55)) ∧ (¬ x5_42 < 0 → ((c_2 = 0 → (J_55)) ∧ (¬ c_2 = 0 → ((0 ≤ x5_42 ∧ x5_42 < 144) ∧ (∀ v_86 : Int, v_86 = M_used_45 x5_42 → (v_86 = 0 ∨ v_86 = 1) → (∃ J_87 : (Int) → (Int) → (Int → Int) → (Int → Int) → (Int → Int) → (Int → Int) → (Int → Int) → (Int → Int) → (Int → Int) → (Int → Int) → (Int → Int) → (Int → Int) → Prop, ((v_86 = 0 → (J_87 M_parts_43 M_numbers_44 M_used_45 M_partOf_46 M_placeOf_47 M_partSize_48 M_ways_49 M_with_50 M_masks_51 M_rests_52 M_reach_53 M_more_54)) ∧ (¬ v_86 = 0 → ((0 ≤ x5_42 ∧ x5_42 < 144) ∧ (∀ M_used_106 : Int → Int, M_used_106 = upZ M_used_45 x5_42 0 → (P_X12_isForced (fun (c_107 : Int) (M_parts_108 : Int) (M_numbers_109 : Int) (M_partOf_110 : Int → Int) (M_placeOf_111 : Int → Int) (M_partSize_112 : Int → Int) (M_ways_113 : Int → Int) (M_with_114 : Int → Int) (M_masks_115 : Int → Int) (M_rests_116 : Int → Int) (M_reach_117 : Int → Int) (M_more_118 : Int → Int) => (c_107 = 0 ∨ c_107 = 1) → (∃ J_119 : (Int) → Prop, ((¬ c_107 = 0 → (J_119 0)) ∧ (c_107 = 0 → (J_119 1))) ∧ (∀ (z_121 : Int), inR z_121 → J_119 z_121 → ((0 ≤ x5_42 ∧ x5_42 < 144) ∧ ((z_121 = 0 ∨ z_121 = 1) ∧ (∀ M_used_124 : Int → Int, M_used_124 = upZ M_used_106 x5_42 z_121 → (J_87 M_parts_108 M_numbers_109 M_used_124 M_partOf_110 M_placeOf_111 M_partSize_112 M_ways_113 M_with_114 M_masks_115 M_rests_116 M_reach_117 M_more_118))))))) M_cells M_parts_43 M_numbers_44 M_total_23 M_near M_degree M_mine M_state M_used_106 M_partOf_46 M_placeOf_47 M_partSize_48 M_ways_49 M_with_50 M_masks_51 M_rests_52 M_bits M_reach_53 M_more_54 x1 x2))))) ∧ (∀ (M_parts_89 : Int) (M_numbers_90 : Int) (M_used_91 : Int → Int) (M_partOf_92 : Int → Int) (M_placeOf_93 : Int → Int) (M_partSize_94 : Int → Int) (M_ways_95 : Int → Int) (M_with_96 : Int → Int) (M_masks_97 : Int → Int) (M_rests_98 : Int → Int) (M_reach_99 : Int → Int) (M_more_100 : Int → Int), J_87 M_parts_89 M_numbers_90 M_used_91 M_partOf_92 M_placeOf_93 M_partSize_94 M_ways_95 M_with_96 M_masks_97 M_rests_98 M_reach_99 M_more_100 → (inR (x5_42 + (-1)) ∧ (∀ x5_102 : Int, x5_102 = (x5_42 + (-1)) → (∃ n_103 : Nat, n_103 < n_39 ∧ Inv_37 n_103 x5_102 M_parts_89 M_numbers_90 M_used_91 M_partOf_92 M_placeOf_93 M_partSize_94 M_ways_95 M_with_96 M_masks_97 M_rests_98 M_reach_99 M_more_100))))))))))) ∧ (J_55 → (∃ Inv_57 : Nat → (Int) → (Int) → (Int → Int) → Prop, (∃ n_58 : Nat, Inv_57 n_58 0 0 M_reason) ∧ ∀ (n_59 : Nat) (x5_62 : Int) (M_reasons_63 : Int) (M_reason_64 : Int → Int), inR x5_62 → Inv_57 n_59 x5_62 M_reasons_63 M_reason_64 → ((M_cells ≤ x5_62 → (post M_parts_43 M_numbers_44 M_reasons_63 M_total_23 M_used_45 M_partOf_46 M_placeOf_47 M_partSize_48 M_ways_49 M_with_50 M_masks_51 M_rests_52 M_reach_53 M_more_54 M_reason_64)) ∧ (¬ M_cells ≤ x5_62 → ((0 ≤ x5_62 ∧ x5_62 < 144) ∧ (∀ v_68 : Int, v_68 = M_used_45 x5_62 → (v_68 = 0 ∨ v_68 = 1) → (∃ J_69 : (Int) → (Int → Int) → Prop, ((v_68 = 0 → (J_69 M_reasons_63 M_reason_64)) ∧ (¬ v_68 = 0 → ((0 ≤ M_reasons_63 ∧ M_reasons_63 < 144) ∧ (∀ M_reason_79 : Int → Int, M_reason_79 = upZ M_reason_64 M_reasons_63 x5_62 → (inR (M_reasons_63 + 1) ∧ (∀ M_reasons_82 : Int, M_reasons_82 = (M_reasons_63 + 1) → (J_69 M_reasons_82 M_reason_79))))))) ∧ (∀ (M_reasons_71 : Int) (M_reason_72 : Int → Int), J_69 M_reasons_71 M_reason_72 → (inR (x5_62 + 1) ∧ (∀ x5_74 : Int, x5_74 = (x5_62 + 1) → (∃ n_75 : Nat, n_75 < n_59 ∧ Inv_57 n_75 x5_74 M_reasons_71 M_reason_72)))))))))))))))))))))))) M_cells M_parts M_near M_degree M_state M_used_1 M_partOf M_placeOf M_partSize )) M_cells M_near M_degree M_state M_used 
set_option maxRecDepth 100000 in
set_option maxHeartbeats 4000000 in
theorem c_X12_findReason (l : Launch) (K : wK) (ad : Nat → Nat) {M_thrown : Int} {M_w : Int} {M_h : Int} {M_cells : Int} {M_shape : Int} {M_isBoard : Int} {M_isBlank : Int} {M_lives : Int} {M_moves : Int} {M_parts : Int} {M_numbers : Int} {M_grade : Int} {M_reasons : Int} {M_total : Int} {M_near : Int → Int} {M_degree : Int → Int} {M_mine : Int → Int} {M_state : Int → Int} {M_history : Int → Int64} {M_oldLives : Int → Int} {M_safe : Int → Int} {M_mined : Int → Int} {M_used : Int → Int} {M_partOf : Int → Int} {M_placeOf : Int → Int} {M_partSize : Int → Int} {M_ways : Int → Int} {M_with : Int → Int} {M_masks : Int → Int} {M_rests : Int → Int} {M_bits : Int → Int} {M_reach : Int → Int} {M_more : Int → Int} {M_reason : Int → Int} {M_big : Int → Int64} {M_region : Int → Int} (x1 : Int) (x2 : Int) (rx1 : inR x1) (bx2 : x2 = 0 ∨ x2 = 1) (post : (Int) → (Int) → (Int) → (Int) → (Int → Int) → (Int → Int) → (Int → Int) → (Int → Int) → (Int → Int) → (Int → Int) → (Int → Int) → (Int → Int) → (Int → Int) → (Int → Int) → (Int → Int) → Prop) (h : P_X12_findReason post M_cells M_parts M_numbers M_reasons M_total M_near M_degree M_mine M_state M_used M_partOf M_placeOf M_partSize M_ways M_with M_masks M_rests M_bits M_reach M_more M_reason x1 x2) : mV l yX12_findReason (Cond.code yX12_findReason cX12_findReason 6 none :: GT) ({ frames := 8, cells := 0, slots := 0, locals := 480 } : Room) [.ref (ad 0), .int (iI x1), .int (iI x2)] K ad (mW M_thrown M_w M_h M_cells M_shape M_isBoard M_isBlank M_lives M_moves M_parts M_numbers M_grade M_reasons M_total M_near M_degree M_mine M_state M_history M_oldLives M_safe M_mined M_used M_partOf M_placeOf M_partSize M_ways M_with M_masks M_rests M_bits M_reach M_more M_reason M_big M_region) (fun u9 => ∃ M_parts9 M_numbers9 M_reasons9 M_total9 M_used9 M_partOf9 M_placeOf9 M_partSize9 M_ways9 M_with9 M_masks9 M_rests9 M_reach9 M_more9 M_reason9, u9 = (mW M_thrown M_w M_h M_cells M_shape M_isBoard M_isBlank M_lives M_moves M_parts9 M_numbers9 M_grade M_reasons9 M_total9 M_near M_degree M_mine M_state M_history M_oldLives M_safe M_mined M_used9 M_partOf9 M_placeOf9 M_partSize9 M_ways9 M_with9 M_masks9 M_rests9 M_bits M_reach9 M_more9 M_reason9 M_big M_region) ∧ post M_parts9 M_numbers9 M_reasons9 M_total9 M_used9 M_partOf9 M_placeOf9 M_partSize9 M_ways9 M_with9 M_masks9 M_rests9 M_reach9 M_more9 M_reason9) := by
  refine mV_of (lv0 := [(0, .ref (ad 0)), (1, .int (iI x1)), (2, .int (iI x2))]) (by decide) (Nat.le_of_ble_eq_true rfl) rfl ?_
  intro p e s m args below meth c Q A C ret
  replace C : Cx p ({ frames := 8, cells := 0, slots := 0, locals := 480 } : Room) m c 0 0 cX12_findReason 6 s args RX12 K A := C
  unfold P_X12_findReason at h
  refine wa_aload_n C 0 rfl dX12_findReason_0 rfl ?_
  refine wa_callVv C (k := 0) (As := []) (rest := []) (c_X12_useAll l K ad  _ h) gw_1463 gw_1460 mW_0 rfl gw_1462 gs_76 gw_12 q_X12_useAll rfl rfl rfl ⟨by decide, by decide⟩ rfl (Nat.le_of_ble_eq_true rfl) dX12_findReason_1 (fun u9 hp => ?_)
  obtain ⟨M_used_1, rfl, h⟩ := hp
  refine wa_aload_n C 0 rfl dX12_findReason_4 rfl ?_
  refine wa_callVi C (k := 0) (As := []) (rest := []) (c_X12_divide l K ad  _ h) gw_1471 gw_1468 mW_0 rfl gw_1470 gs_78 gw_12 q_X12_divide rfl rfl rfl ⟨by decide, by decide⟩ rfl (Nat.le_of_ble_eq_true rfl) dX12_findReason_5 (fun c_2 u9 rc_2 hp => ?_)
  obtain ⟨bc_2, M_parts_3, M_partOf_4, M_placeOf_5, M_partSize_6, rfl, h⟩ := hp
  replace h := h bc_2
  refine wa_istore_n C dX12_findReason_8 rfl (by decide) rfl ?_
  refine wa_aload_n C 1 rfl dX12_findReason_9 rfl ?_
  refine wa_getR C 0 18 mW_0 rfl rfl (by decide) okX12 gw_1250 dX12_findReason_10 ?_
  refine wa_iload_n C 2 rfl dX12_findReason_13 rfl ?_
  obtain ⟨t_7, h⟩ := h
  refine wa_iald C 10 mW_10 dX12_findReason_14 t_7.1 t_7.2 (fun v_8 ev_8 rv_8 => ?_)
  replace h := h v_8 ev_8 rv_8
  obtain ⟨J_9, h, hJ_9⟩ := h
  have k_10 : ∀ (z_11 : Int), inR z_11 → J_9 z_11 → WA p l e ({ frames := 8, cells := 0, slots := 0, locals := 480 } : Room) s m args below meth c 0 0 Q K ad 6 A 23 [(0, .ref (ad 0)), (1, .int (iI x1)), (2, .int (iI x2)), (3, .int (iI c_2))] [.int (iI z_11)] (mW M_thrown M_w M_h M_cells M_shape M_isBoard M_isBlank M_lives M_moves M_parts_3 M_numbers M_grade M_reasons M_total M_near M_degree M_mine M_state M_history M_oldLives M_safe M_mined M_used_1 M_partOf_4 M_placeOf_5 M_partSize_6 M_ways M_with M_masks M_rests M_bits M_reach M_more M_reason M_big M_region) := by
    intro z_11 rz_11 h
    replace h := hJ_9 z_11 rz_11 h
    refine wa_istore C dX12_findReason_23 (by decide) rfl ?_
    refine wa_aload_n C 1 rfl dX12_findReason_25 rfl ?_
    refine wa_iconst C (z := 0) dX12_findReason_26 rfl ?_
    refine wa_putZ C (ws' := (mW M_thrown M_w M_h M_cells M_shape M_isBoard M_isBlank M_lives M_moves M_parts_3 M_numbers M_grade M_reasons 0 M_near M_degree M_mine M_state M_history M_oldLives M_safe M_mined M_used_1 M_partOf_4 M_placeOf_5 M_partSize_6 M_ways M_with M_masks M_rests M_bits M_reach M_more M_reason M_big M_region)) 0 32 mW_0 rfl (by decide) okX12 gw_1264 rfl rfl (Nat.le_of_ble_eq_true rfl) (Or.inl rfl) (mWp_0_32 _) dX12_findReason_27 ?_
    refine wa_iload C 0 rfl dX12_findReason_30 ?_
    obtain ⟨J_12, h, hJ_12⟩ := h
    have k_13 : ∀ (M_parts_14 : Int) (M_used_15 : Int → Int) (M_partOf_16 : Int → Int) (M_placeOf_17 : Int → Int) (M_partSize_18 : Int → Int), J_12 M_parts_14 M_used_15 M_partOf_16 M_placeOf_17 M_partSize_18 → WA p l e ({ frames := 8, cells := 0, slots := 0, locals := 480 } : Room) s m args below meth c 0 0 Q K ad 6 A 40 [(0, .ref (ad 0)), (1, .int (iI x1)), (2, .int (iI x2)), (3, .int (iI c_2)), (4, .int (iI z_11))] [] (mW M_thrown M_w M_h M_cells M_shape M_isBoard M_isBlank M_lives M_moves M_parts_14 M_numbers M_grade M_reasons 0 M_near M_degree M_mine M_state M_history M_oldLives M_safe M_mined M_used_15 M_partOf_16 M_placeOf_17 M_partSize_18 M_ways M_with M_masks M_rests M_bits M_reach M_more M_reason M_big M_region) := by
      intro M_parts_14 M_used_15 M_partOf_16 M_placeOf_17 M_partSize_18 h
      replace h := hJ_12 M_parts_14 M_used_15 M_partOf_16 M_placeOf_17 M_partSize_18 h
      refine wa_iload_n C 3 rfl dX12_findReason_40 rfl ?_
      obtain ⟨J_19, h, hJ_19⟩ := h
      have k_20 : ∀ (M_parts_21 : Int) (M_numbers_22 : Int) (M_total_23 : Int) (M_used_24 : Int → Int) (M_partOf_25 : Int → Int) (M_placeOf_26 : Int → Int) (M_partSize_27 : Int → Int) (M_ways_28 : Int → Int) (M_with_29 : Int → Int) (M_masks_30 : Int → Int) (M_rests_31 : Int → Int) (M_reach_32 : Int → Int) (M_more_33 : Int → Int), J_19 M_parts_21 M_numbers_22 M_total_23 M_used_24 M_partOf_25 M_placeOf_26 M_partSize_27 M_ways_28 M_with_29 M_masks_30 M_rests_31 M_reach_32 M_more_33 → WA p l e ({ frames := 8, cells := 0, slots := 0, locals := 480 } : Room) s m args below meth c 0 0 Q K ad 6 A 67 [(0, .ref (ad 0)), (1, .int (iI x1)), (2, .int (iI x2)), (3, .int (iI c_2))] [] (mW M_thrown M_w M_h M_cells M_shape M_isBoard M_isBlank M_lives M_moves M_parts_21 M_numbers_22 M_grade M_reasons M_total_23 M_near M_degree M_mine M_state M_history M_oldLives M_safe M_mined M_used_24 M_partOf_25 M_placeOf_26 M_partSize_27 M_ways_28 M_with_29 M_masks_30 M_rests_31 M_bits M_reach_32 M_more_33 M_reason M_big M_region) := by
        intro M_parts_21 M_numbers_22 M_total_23 M_used_24 M_partOf_25 M_placeOf_26 M_partSize_27 M_ways_28 M_with_29 M_masks_30 M_rests_31 M_reach_32 M_more_33 h
        replace h := hJ_19 M_parts_21 M_numbers_22 M_total_23 M_used_24 M_partOf_25 M_placeOf_26 M_partSize_27 M_ways_28 M_with_29 M_masks_30 M_rests_31 M_reach_32 M_more_33 h
        refine wa_aload_n C 0 rfl dX12_findReason_67 rfl ?_
        refine wa_getI C 0 3 mW_0 rfl rfl (by decide) okX12 gw_1235 dX12_findReason_68 (fun r_34 => ?_)
        refine wa_iconst C (z := 1) dX12_findReason_71 rfl ?_
        refine wa_isub C dX12_findReason_72 ?_
        obtain ⟨r_35, h⟩ := h
        refine wa_nmi (fun x5_36 ex5_36 => ?_)
        replace h := h x5_36 ex5_36
        have rx5_36 : inR x5_36 := by rw [ex5_36]; exact r_35
        refine wa_istore C dX12_findReason_73 (by decide) rfl ?_
        obtain ⟨Inv_37, ⟨n_38, h0Inv_37⟩, hInv_37⟩ := h
        have k_41 : ∀ (n_39 : Nat) (x5_42 : Int) (M_parts_43 : Int) (M_numbers_44 : Int) (M_used_45 : Int → Int) (M_partOf_46 : Int → Int) (M_placeOf_47 : Int → Int) (M_partSize_48 : Int → Int) (M_ways_49 : Int → Int) (M_with_50 : Int → Int) (M_masks_51 : Int → Int) (M_rests_52 : Int → Int) (M_reach_53 : Int → Int) (M_more_54 : Int → Int), inR x5_42 → Inv_37 n_39 x5_42 M_parts_43 M_numbers_44 M_used_45 M_partOf_46 M_placeOf_47 M_partSize_48 M_ways_49 M_with_50 M_masks_51 M_rests_52 M_reach_53 M_more_54 → WA p l e ({ frames := 8, cells := 0, slots := 0, locals := 480 } : Room) s m args below meth c 0 0 Q K ad 6 A 75 [(0, .ref (ad 0)), (1, .int (iI x1)), (2, .int (iI x2)), (3, .int (iI c_2)), (5, .int (iI x5_42))] [] (mW M_thrown M_w M_h M_cells M_shape M_isBoard M_isBlank M_lives M_moves M_parts_43 M_numbers_44 M_grade M_reasons M_total_23 M_near M_degree M_mine M_state M_history M_oldLives M_safe M_mined M_used_45 M_partOf_46 M_placeOf_47 M_partSize_48 M_ways_49 M_with_50 M_masks_51 M_rests_52 M_bits M_reach_53 M_more_54 M_reason M_big M_region) := by
          intro n_39
          induction n_39 using Nat.strongRecOn with
          | ind n_39 ih_40 =>
            intro x5_42 M_parts_43 M_numbers_44 M_used_45 M_partOf_46 M_placeOf_47 M_partSize_48 M_ways_49 M_with_50 M_masks_51 M_rests_52 M_reach_53 M_more_54 rx5_42 h
            replace h := hInv_37 n_39 x5_42 M_parts_43 M_numbers_44 M_used_45 M_partOf_46 M_placeOf_47 M_partSize_48 M_ways_49 M_with_50 M_masks_51 M_rests_52 M_reach_53 M_more_54 rx5_42 h
            refine wa_iload C 4 rfl dX12_findReason_75 ?_
            obtain ⟨J_55, h, hJ_55⟩ := h
            have k_56 : J_55 → WA p l e ({ frames := 8, cells := 0, slots := 0, locals := 480 } : Room) s m args below meth c 0 0 Q K ad 6 A 129 [(0, .ref (ad 0))] [] (mW M_thrown M_w M_h M_cells M_shape M_isBoard M_isBlank M_lives M_moves M_parts_43 M_numbers_44 M_grade M_reasons M_total_23 M_near M_degree M_mine M_state M_history M_oldLives M_safe M_mined M_used_45 M_partOf_46 M_placeOf_47 M_partSize_48 M_ways_49 M_with_50 M_masks_51 M_rests_52 M_bits M_reach_53 M_more_54 M_reason M_big M_region) := by
              intro h
              replace h := hJ_55 h
              refine wa_aload_n C 0 rfl dX12_findReason_129 rfl ?_
              refine wa_iconst C (z := 0) dX12_findReason_130 rfl ?_
              refine wa_putI C (ws' := (mW M_thrown M_w M_h M_cells M_shape M_isBoard M_isBlank M_lives M_moves M_parts_43 M_numbers_44 M_grade 0 M_total_23 M_near M_degree M_mine M_state M_history M_oldLives M_safe M_mined M_used_45 M_partOf_46 M_placeOf_47 M_partSize_48 M_ways_49 M_with_50 M_masks_51 M_rests_52 M_bits M_reach_53 M_more_54 M_reason M_big M_region)) 0 31 mW_0 rfl (by decide) okX12 gw_1263 rfl rfl (Nat.le_of_ble_eq_true rfl) (inR_k 0 rfl) (mWp_0_31 _) dX12_findReason_131 ?_
              refine wa_iconst C (z := 0) dX12_findReason_134 rfl ?_
              refine wa_istore C dX12_findReason_135 (by decide) rfl ?_
              obtain ⟨Inv_57, ⟨n_58, h0Inv_57⟩, hInv_57⟩ := h
              have k_61 : ∀ (n_59 : Nat) (x5_62 : Int) (M_reasons_63 : Int) (M_reason_64 : Int → Int), inR x5_62 → Inv_57 n_59 x5_62 M_reasons_63 M_reason_64 → WA p l e ({ frames := 8, cells := 0, slots := 0, locals := 480 } : Room) s m args below meth c 0 0 Q K ad 6 A 137 [(0, .ref (ad 0)), (5, .int (iI x5_62))] [] (mW M_thrown M_w M_h M_cells M_shape M_isBoard M_isBlank M_lives M_moves M_parts_43 M_numbers_44 M_grade M_reasons_63 M_total_23 M_near M_degree M_mine M_state M_history M_oldLives M_safe M_mined M_used_45 M_partOf_46 M_placeOf_47 M_partSize_48 M_ways_49 M_with_50 M_masks_51 M_rests_52 M_bits M_reach_53 M_more_54 M_reason_64 M_big M_region) := by
                intro n_59
                induction n_59 using Nat.strongRecOn with
                | ind n_59 ih_60 =>
                  intro x5_62 M_reasons_63 M_reason_64 rx5_62 h
                  replace h := hInv_57 n_59 x5_62 M_reasons_63 M_reason_64 rx5_62 h
                  refine wa_iload C 1 rfl dX12_findReason_137 ?_
                  refine wa_aload_n C 0 rfl dX12_findReason_139 rfl ?_
                  refine wa_getI C 0 3 mW_0 rfl rfl (by decide) okX12 gw_1235 dX12_findReason_140 (fun r_65 => ?_)
                  refine wa_icmp_ge C (tgt := 183) rx5_62 r_34 dX12_findReason_143 (by decide) (fun c_66 => ?_) (fun c_66 => ?_)
                  · replace h := h.1 c_66
                    exact ret dX12_findReason_183 ⟨_, _, _, _, _, _, _, _, _, _, _, _, _, _, _, rfl, h⟩
                  · replace h := h.2 c_66
                    refine wa_aload_n C 0 rfl dX12_findReason_146 rfl ?_
                    refine wa_getR C 0 17 mW_0 rfl rfl (by decide) okX12 gw_1249 dX12_findReason_147 ?_
                    refine wa_iload C 1 rfl dX12_findReason_150 ?_
                    obtain ⟨t_67, h⟩ := h
                    refine wa_bald C 9 mW_9 dX12_findReason_152 t_67.1 t_67.2 (fun v_68 ev_68 rv_68 => ?_)
                    replace h := h v_68 ev_68 rv_68
                    obtain ⟨J_69, h, hJ_69⟩ := h
                    have k_70 : ∀ (M_reasons_71 : Int) (M_reason_72 : Int → Int), J_69 M_reasons_71 M_reason_72 → WA p l e ({ frames := 8, cells := 0, slots := 0, locals := 480 } : Room) s m args below meth c 0 0 Q K ad 6 A 177 [(0, .ref (ad 0)), (5, .int (iI x5_62))] [] (mW M_thrown M_w M_h M_cells M_shape M_isBoard M_isBlank M_lives M_moves M_parts_43 M_numbers_44 M_grade M_reasons_71 M_total_23 M_near M_degree M_mine M_state M_history M_oldLives M_safe M_mined M_used_45 M_partOf_46 M_placeOf_47 M_partSize_48 M_ways_49 M_with_50 M_masks_51 M_rests_52 M_bits M_reach_53 M_more_54 M_reason_72 M_big M_region) := by
                      intro M_reasons_71 M_reason_72 h
                      replace h := hJ_69 M_reasons_71 M_reason_72 h
                      obtain ⟨r_73, h⟩ := h
                      refine wa_iinc C (lv' := fun w9 => [(5, .int (iI w9)), (0, .ref (ad 0))]) 1 rfl dX12_findReason_177 (by decide) (fun _ => rfl) (fun x5_74 ex5_74 => ?_)
                      replace h := h x5_74 ex5_74
                      have rx5_74 : inR x5_74 := by rw [ex5_74]; exact r_73
                      refine wa_goto C (tgt := 137) dX12_findReason_180 (by decide) ?_
                      obtain ⟨n_75, ln_75, h⟩ := h
                      refine wa_sub C [1, 0] rfl ?_
                      exact ih_60 n_75 ln_75 x5_74 M_reasons_71 M_reason_72 rx5_74 h
                    refine wa_if_eq C (tgt := 177) (inR_b rv_68) dX12_findReason_153 (by decide) (fun c_76 => ?_) (fun c_76 => ?_)
                    · replace h := h.1 c_76
                      refine wa_sub C [0, 1] rfl ?_
                      exact k_70 M_reasons_63 M_reason_64 h
                    · replace h := h.2 c_76
                      refine wa_aload_n C 0 rfl dX12_findReason_156 rfl ?_
                      refine wa_getR C 0 33 mW_0 rfl rfl (by decide) okX12 gw_1265 dX12_findReason_157 ?_
                      refine wa_aload_n C 0 rfl dX12_findReason_160 rfl ?_
                      refine wa_getI C 0 31 mW_0 rfl rfl (by decide) okX12 gw_1263 dX12_findReason_161 (fun r_77 => ?_)
                      refine wa_iload C 1 rfl dX12_findReason_164 ?_
                      obtain ⟨t_78, h⟩ := h
                      refine wa_iast C (ws' := fun w9 => (mW M_thrown M_w M_h M_cells M_shape M_isBoard M_isBlank M_lives M_moves M_parts_43 M_numbers_44 M_grade M_reasons_63 M_total_23 M_near M_degree M_mine M_state M_history M_oldLives M_safe M_mined M_used_45 M_partOf_46 M_placeOf_47 M_partSize_48 M_ways_49 M_with_50 M_masks_51 M_rests_52 M_bits M_reach_53 M_more_54 w9 M_big M_region)) 20 mW_20 dX12_findReason_166 t_78.1 t_78.2 rx5_62 mWs_20 (fun M_reason_79 eM_reason_79 => ?_)
                      replace h := h M_reason_79 eM_reason_79
                      refine wa_aload_n C 0 rfl dX12_findReason_167 rfl ?_
                      refine wa_dup C dX12_findReason_168 rfl ?_
                      refine wa_getI C 0 31 mW_0 rfl rfl (by decide) okX12 gw_1263 dX12_findReason_169 (fun r_80 => ?_)
                      refine wa_iconst C (z := 1) dX12_findReason_172 rfl ?_
                      refine wa_iadd C dX12_findReason_173 ?_
                      obtain ⟨r_81, h⟩ := h
                      refine wa_nmi (fun M_reasons_82 eM_reasons_82 => ?_)
                      replace h := h M_reasons_82 eM_reasons_82
                      have rM_reasons_82 : inR M_reasons_82 := by rw [eM_reasons_82]; exact r_81
                      refine wa_putI C (ws' := (mW M_thrown M_w M_h M_cells M_shape M_isBoard M_isBlank M_lives M_moves M_parts_43 M_numbers_44 M_grade M_reasons_82 M_total_23 M_near M_degree M_mine M_state M_history M_oldLives M_safe M_mined M_used_45 M_partOf_46 M_placeOf_47 M_partSize_48 M_ways_49 M_with_50 M_masks_51 M_rests_52 M_bits M_reach_53 M_more_54 M_reason_79 M_big M_region)) 0 31 mW_0 rfl (by decide) okX12 gw_1263 rfl rfl (Nat.le_of_ble_eq_true rfl) rM_reasons_82 (mWp_0_31 _) dX12_findReason_174 ?_
                      refine wa_sub C [0, 1] rfl ?_
                      exact k_70 M_reasons_82 M_reason_79 h
              refine wa_sub C [1, 0] rfl ?_
              exact k_61 n_58 0 0 M_reason (inR_k 0 rfl) h0Inv_57
            refine wa_if_lt C (tgt := 129) rx5_42 dX12_findReason_77 (by decide) (fun c_83 => ?_) (fun c_83 => ?_)
            · replace h := h.1 c_83
              refine wa_sub C [0] rfl ?_
              exact k_56 h
            · replace h := h.2 c_83
              refine wa_iload_n C 3 rfl dX12_findReason_80 rfl ?_
              refine wa_if_eq C (tgt := 129) (inR_b bc_2) dX12_findReason_81 (by decide) (fun c_84 => ?_) (fun c_84 => ?_)
              · replace h := h.1 c_84
                refine wa_sub C [0] rfl ?_
                exact k_56 h
              · replace h := h.2 c_84
                refine wa_aload_n C 0 rfl dX12_findReason_84 rfl ?_
                refine wa_getR C 0 17 mW_0 rfl rfl (by decide) okX12 gw_1249 dX12_findReason_85 ?_
                refine wa_iload C 4 rfl dX12_findReason_88 ?_
                obtain ⟨t_85, h⟩ := h
                refine wa_bald C 9 mW_9 dX12_findReason_90 t_85.1 t_85.2 (fun v_86 ev_86 rv_86 => ?_)
                replace h := h v_86 ev_86 rv_86
                obtain ⟨J_87, h, hJ_87⟩ := h
                have k_88 : ∀ (M_parts_89 : Int) (M_numbers_90 : Int) (M_used_91 : Int → Int) (M_partOf_92 : Int → Int) (M_placeOf_93 : Int → Int) (M_partSize_94 : Int → Int) (M_ways_95 : Int → Int) (M_with_96 : Int → Int) (M_masks_97 : Int → Int) (M_rests_98 : Int → Int) (M_reach_99 : Int → Int) (M_more_100 : Int → Int), J_87 M_parts_89 M_numbers_90 M_used_91 M_partOf_92 M_placeOf_93 M_partSize_94 M_ways_95 M_with_96 M_masks_97 M_rests_98 M_reach_99 M_more_100 → WA p l e ({ frames := 8, cells := 0, slots := 0, locals := 480 } : Room) s m args below meth c 0 0 Q K ad 6 A 123 [(0, .ref (ad 0)), (1, .int (iI x1)), (2, .int (iI x2)), (3, .int (iI c_2)), (5, .int (iI x5_42))] [] (mW M_thrown M_w M_h M_cells M_shape M_isBoard M_isBlank M_lives M_moves M_parts_89 M_numbers_90 M_grade M_reasons M_total_23 M_near M_degree M_mine M_state M_history M_oldLives M_safe M_mined M_used_91 M_partOf_92 M_placeOf_93 M_partSize_94 M_ways_95 M_with_96 M_masks_97 M_rests_98 M_bits M_reach_99 M_more_100 M_reason M_big M_region) := by
                  intro M_parts_89 M_numbers_90 M_used_91 M_partOf_92 M_placeOf_93 M_partSize_94 M_ways_95 M_with_96 M_masks_97 M_rests_98 M_reach_99 M_more_100 h
                  replace h := hJ_87 M_parts_89 M_numbers_90 M_used_91 M_partOf_92 M_placeOf_93 M_partSize_94 M_ways_95 M_with_96 M_masks_97 M_rests_98 M_reach_99 M_more_100 h
                  obtain ⟨r_101, h⟩ := h
                  refine wa_iinc C (lv' := fun w9 => [(5, .int (iI w9)), (0, .ref (ad 0)), (1, .int (iI x1)), (2, .int (iI x2)), (3, .int (iI c_2))]) 4 rfl dX12_findReason_123 (by decide) (fun _ => rfl) (fun x5_102 ex5_102 => ?_)
                  replace h := h x5_102 ex5_102
                  have rx5_102 : inR x5_102 := by rw [ex5_102]; exact r_101
                  refine wa_goto C (tgt := 75) dX12_findReason_126 (by decide) ?_
                  obtain ⟨n_103, ln_103, h⟩ := h
                  refine wa_sub C [1, 2, 3, 4, 0] rfl ?_
                  exact ih_40 n_103 ln_103 x5_102 M_parts_89 M_numbers_90 M_used_91 M_partOf_92 M_placeOf_93 M_partSize_94 M_ways_95 M_with_96 M_masks_97 M_rests_98 M_reach_99 M_more_100 rx5_102 h
                refine wa_if_eq C (tgt := 123) (inR_b rv_86) dX12_findReason_91 (by decide) (fun c_104 => ?_) (fun c_104 => ?_)
                · replace h := h.1 c_104
                  refine wa_sub C [0, 1, 2, 3, 4] rfl ?_
                  exact k_88 M_parts_43 M_numbers_44 M_used_45 M_partOf_46 M_placeOf_47 M_partSize_48 M_ways_49 M_with_50 M_masks_51 M_rests_52 M_reach_53 M_more_54 h
                · replace h := h.2 c_104
                  refine wa_aload_n C 0 rfl dX12_findReason_94 rfl ?_
                  refine wa_getR C 0 17 mW_0 rfl rfl (by decide) okX12 gw_1249 dX12_findReason_95 ?_
                  refine wa_iload C 4 rfl dX12_findReason_98 ?_
                  refine wa_iconst C (z := 0) dX12_findReason_100 rfl ?_
                  obtain ⟨t_105, h⟩ := h
                  refine wa_bast C (ws' := fun w9 => (mW M_thrown M_w M_h M_cells M_shape M_isBoard M_isBlank M_lives M_moves M_parts_43 M_numbers_44 M_grade M_reasons M_total_23 M_near M_degree M_mine M_state M_history M_oldLives M_safe M_mined w9 M_partOf_46 M_placeOf_47 M_partSize_48 M_ways_49 M_with_50 M_masks_51 M_rests_52 M_bits M_reach_53 M_more_54 M_reason M_big M_region)) 9 mW_9 dX12_findReason_101 t_105.1 t_105.2 (Or.inl rfl) mWs_9 (fun M_used_106 eM_used_106 => ?_)
                  replace h := h M_used_106 eM_used_106
                  refine wa_aload_n C 0 rfl dX12_findReason_102 rfl ?_
                  refine wa_getR C 0 17 mW_0 rfl rfl (by decide) okX12 gw_1249 dX12_findReason_103 ?_
                  refine wa_iload C 4 rfl dX12_findReason_106 ?_
                  refine wa_aload_n C 0 rfl dX12_findReason_108 rfl ?_
                  refine wa_iload_n C 1 rfl dX12_findReason_109 rfl ?_
                  refine wa_iload_n C 2 rfl dX12_findReason_110 rfl ?_
                  refine wa_callVi C (k := 0) (As := [.int (iI x1), .int (iI x2)]) (rest := [.int (iI x5_42), .ref (ad 9)]) (c_X12_isForced l K ad x1 x2 rx1 bx2 _ h) gw_1588 gw_1585 mW_0 rfl gw_1587 gs_99 gw_12 q_X12_isForced rfl rfl rfl ⟨by decide, by decide⟩ rfl (Nat.le_of_ble_eq_true rfl) dX12_findReason_111 (fun c_107 u9 rc_107 hp => ?_)
                  obtain ⟨bc_107, M_parts_108, M_numbers_109, M_partOf_110, M_placeOf_111, M_partSize_112, M_ways_113, M_with_114, M_masks_115, M_rests_116, M_reach_117, M_more_118, rfl, h⟩ := hp
                  replace h := h bc_107
                  obtain ⟨J_119, h, hJ_119⟩ := h
                  have k_120 : ∀ (z_121 : Int), inR z_121 → J_119 z_121 → WA p l e ({ frames := 8, cells := 0, slots := 0, locals := 480 } : Room) s m args below meth c 0 0 Q K ad 6 A 122 [(0, .ref (ad 0)), (1, .int (iI x1)), (2, .int (iI x2)), (3, .int (iI c_2)), (5, .int (iI x5_42))] [.int (iI z_121), .int (iI x5_42), .ref (ad 9)] (mW M_thrown M_w M_h M_cells M_shape M_isBoard M_isBlank M_lives M_moves M_parts_108 M_numbers_109 M_grade M_reasons M_total_23 M_near M_degree M_mine M_state M_history M_oldLives M_safe M_mined M_used_106 M_partOf_110 M_placeOf_111 M_partSize_112 M_ways_113 M_with_114 M_masks_115 M_rests_116 M_bits M_reach_117 M_more_118 M_reason M_big M_region) := by
                    intro z_121 rz_121 h
                    replace h := hJ_119 z_121 rz_121 h
                    obtain ⟨t_122, h⟩ := h
                    obtain ⟨b_123, h⟩ := h
                    refine wa_bast C (ws' := fun w9 => (mW M_thrown M_w M_h M_cells M_shape M_isBoard M_isBlank M_lives M_moves M_parts_108 M_numbers_109 M_grade M_reasons M_total_23 M_near M_degree M_mine M_state M_history M_oldLives M_safe M_mined w9 M_partOf_110 M_placeOf_111 M_partSize_112 M_ways_113 M_with_114 M_masks_115 M_rests_116 M_bits M_reach_117 M_more_118 M_reason M_big M_region)) 9 mW_9 dX12_findReason_122 t_122.1 t_122.2 b_123 mWs_9 (fun M_used_124 eM_used_124 => ?_)
                    replace h := h M_used_124 eM_used_124
                    refine wa_sub C [0, 1, 2, 3, 4] rfl ?_
                    exact k_88 M_parts_108 M_numbers_109 M_used_124 M_partOf_110 M_placeOf_111 M_partSize_112 M_ways_113 M_with_114 M_masks_115 M_rests_116 M_reach_117 M_more_118 h
                  refine wa_if_ne C (tgt := 121) (inR_b bc_107) dX12_findReason_114 (by decide) (fun c_125 => ?_) (fun c_125 => ?_)
                  · replace h := h.1 c_125
                    refine wa_iconst C (z := 0) dX12_findReason_121 rfl ?_
                    refine wa_sub C [0, 1, 2, 3, 4] rfl ?_
                    exact k_120 0 (inR_k 0 rfl) h
                  · replace h := h.2 c_125
                    refine wa_iconst C (z := 1) dX12_findReason_117 rfl ?_
                    refine wa_goto C (tgt := 122) dX12_findReason_118 (by decide) ?_
                    refine wa_sub C [0, 1, 2, 3, 4] rfl ?_
                    exact k_120 1 (inR_k 1 rfl) h
        refine wa_sub C [1, 2, 3, 4, 0] rfl ?_
        exact k_41 n_38 x5_36 M_parts_21 M_numbers_22 M_used_24 M_partOf_25 M_placeOf_26 M_partSize_27 M_ways_28 M_with_29 M_masks_30 M_rests_31 M_reach_32 M_more_33 rx5_36 h0Inv_37
      refine wa_if_eq C (tgt := 67) (inR_b bc_2) dX12_findReason_41 (by decide) (fun c_126 => ?_) (fun c_126 => ?_)
      · replace h := h.1 c_126
        refine wa_sub C [0, 1, 2, 3] rfl ?_
        exact k_20 M_parts_14 M_numbers 0 M_used_15 M_partOf_16 M_placeOf_17 M_partSize_18 M_ways M_with M_masks M_rests M_reach M_more h
      · replace h := h.2 c_126
        refine wa_iload C 4 rfl dX12_findReason_44 ?_
        obtain ⟨J_127, h, hJ_127⟩ := h
        have k_128 : ∀ (M_parts_129 : Int) (M_numbers_130 : Int) (M_partOf_131 : Int → Int) (M_placeOf_132 : Int → Int) (M_partSize_133 : Int → Int) (M_ways_134 : Int → Int) (M_with_135 : Int → Int) (M_masks_136 : Int → Int) (M_rests_137 : Int → Int) (M_reach_138 : Int → Int) (M_more_139 : Int → Int), J_127 M_parts_129 M_numbers_130 M_partOf_131 M_placeOf_132 M_partSize_133 M_ways_134 M_with_135 M_masks_136 M_rests_137 M_reach_138 M_more_139 → WA p l e ({ frames := 8, cells := 0, slots := 0, locals := 480 } : Room) s m args below meth c 0 0 Q K ad 6 A 58 [(0, .ref (ad 0)), (1, .int (iI x1)), (2, .int (iI x2)), (3, .int (iI c_2))] [] (mW M_thrown M_w M_h M_cells M_shape M_isBoard M_isBlank M_lives M_moves M_parts_129 M_numbers_130 M_grade M_reasons 0 M_near M_degree M_mine M_state M_history M_oldLives M_safe M_mined M_used_15 M_partOf_131 M_placeOf_132 M_partSize_133 M_ways_134 M_with_135 M_masks_136 M_rests_137 M_bits M_reach_138 M_more_139 M_reason M_big M_region) := by
          intro M_parts_129 M_numbers_130 M_partOf_131 M_placeOf_132 M_partSize_133 M_ways_134 M_with_135 M_masks_136 M_rests_137 M_reach_138 M_more_139 h
          replace h := hJ_127 M_parts_129 M_numbers_130 M_partOf_131 M_placeOf_132 M_partSize_133 M_ways_134 M_with_135 M_masks_136 M_rests_137 M_reach_138 M_more_139 h
          refine wa_aload_n C 0 rfl dX12_findReason_58 rfl ?_
          refine wa_callVv C (k := 0) (As := []) (rest := []) (c_X12_useAll l K ad  _ h) gw_1463 gw_1460 mW_0 rfl gw_1462 gs_76 gw_12 q_X12_useAll rfl rfl rfl ⟨by decide, by decide⟩ rfl (Nat.le_of_ble_eq_true rfl) dX12_findReason_59 (fun u9 hp => ?_)
          obtain ⟨M_used_140, rfl, h⟩ := hp
          refine wa_aload_n C 0 rfl dX12_findReason_62 rfl ?_
          refine wa_iconst C (z := 1) dX12_findReason_63 rfl ?_
          refine wa_putZ C (ws' := (mW M_thrown M_w M_h M_cells M_shape M_isBoard M_isBlank M_lives M_moves M_parts_129 M_numbers_130 M_grade M_reasons 1 M_near M_degree M_mine M_state M_history M_oldLives M_safe M_mined M_used_140 M_partOf_131 M_placeOf_132 M_partSize_133 M_ways_134 M_with_135 M_masks_136 M_rests_137 M_bits M_reach_138 M_more_139 M_reason M_big M_region)) 0 32 mW_0 rfl (by decide) okX12 gw_1264 rfl rfl (Nat.le_of_ble_eq_true rfl) (Or.inr rfl) (mWp_0_32 _) dX12_findReason_64 ?_
          refine wa_sub C [0, 1, 2, 3] rfl ?_
          exact k_20 M_parts_129 M_numbers_130 1 M_used_140 M_partOf_131 M_placeOf_132 M_partSize_133 M_ways_134 M_with_135 M_masks_136 M_rests_137 M_reach_138 M_more_139 h
        refine wa_if_eq C (tgt := 58) rz_11 dX12_findReason_46 (by decide) (fun c_141 => ?_) (fun c_141 => ?_)
        · replace h := h.1 c_141
          refine wa_sub C [0, 1, 2, 3] rfl ?_
          exact k_128 M_parts_14 M_numbers M_partOf_16 M_placeOf_17 M_partSize_18 M_ways M_with M_masks M_rests M_reach M_more h
        · replace h := h.2 c_141
          refine wa_aload_n C 0 rfl dX12_findReason_49 rfl ?_
          refine wa_iload_n C 1 rfl dX12_findReason_50 rfl ?_
          refine wa_iload_n C 2 rfl dX12_findReason_51 rfl ?_
          refine wa_callVi C (k := 0) (As := [.int (iI x1), .int (iI x2)]) (rest := []) (c_X12_isForced l K ad x1 x2 rx1 bx2 _ h) gw_1588 gw_1585 mW_0 rfl gw_1587 gs_99 gw_12 q_X12_isForced rfl rfl rfl ⟨by decide, by decide⟩ rfl (Nat.le_of_ble_eq_true rfl) dX12_findReason_52 (fun c_142 u9 rc_142 hp => ?_)
          obtain ⟨bc_142, M_parts_143, M_numbers_144, M_partOf_145, M_placeOf_146, M_partSize_147, M_ways_148, M_with_149, M_masks_150, M_rests_151, M_reach_152, M_more_153, rfl, h⟩ := hp
          replace h := h bc_142
          refine wa_if_ne C (tgt := 67) (inR_b bc_142) dX12_findReason_55 (by decide) (fun c_154 => ?_) (fun c_154 => ?_)
          · replace h := h.1 c_154
            refine wa_sub C [0, 1, 2, 3] rfl ?_
            exact k_20 M_parts_143 M_numbers_144 0 M_used_15 M_partOf_145 M_placeOf_146 M_partSize_147 M_ways_148 M_with_149 M_masks_150 M_rests_151 M_reach_152 M_more_153 h
          · replace h := h.2 c_154
            refine wa_sub C [0, 1, 2, 3] rfl ?_
            exact k_128 M_parts_143 M_numbers_144 M_partOf_145 M_placeOf_146 M_partSize_147 M_ways_148 M_with_149 M_masks_150 M_rests_151 M_reach_152 M_more_153 h
    refine wa_if_eq C (tgt := 40) rz_11 dX12_findReason_32 (by decide) (fun c_155 => ?_) (fun c_155 => ?_)
    · replace h := h.1 c_155
      refine wa_sub C [1, 2, 3, 4, 0] rfl ?_
      exact k_13 M_parts_3 M_used_1 M_partOf_4 M_placeOf_5 M_partSize_6 h
    · replace h := h.2 c_155
      refine wa_aload_n C 1 rfl dX12_findReason_35 rfl ?_
      refine wa_iload_n C 2 rfl dX12_findReason_36 rfl ?_
      refine wa_callVv C (k := 0) (As := [.int (iI x1)]) (rest := []) (c_X12_usePart l K ad x1 rx1 _ h) gw_1584 gw_1581 mW_0 rfl gw_1583 gs_98 gw_12 q_X12_usePart rfl rfl rfl ⟨by decide, by decide⟩ rfl (Nat.le_of_ble_eq_true rfl) dX12_findReason_37 (fun u9 hp => ?_)
      obtain ⟨M_parts_156, M_used_157, M_partOf_158, M_placeOf_159, M_partSize_160, rfl, h⟩ := hp
      refine wa_sub C [1, 2, 3, 4, 0] rfl ?_
      exact k_13 M_parts_156 M_used_157 M_partOf_158 M_placeOf_159 M_partSize_160 h
  refine wa_if_lt C (tgt := 22) rv_8 dX12_findReason_15 (by decide) (fun c_161 => ?_) (fun c_161 => ?_)
  · replace h := h.1 c_161
    refine wa_iconst C (z := 0) dX12_findReason_22 rfl ?_
    refine wa_sub C [1, 2, 3, 0] rfl ?_
    exact k_10 0 (inR_k 0 rfl) h
  · replace h := h.2 c_161
    refine wa_iconst C (z := 1) dX12_findReason_18 rfl ?_
    refine wa_goto C (tgt := 23) dX12_findReason_19 (by decide) ?_
    refine wa_sub C [1, 2, 3, 0] rfl ?_
    exact k_10 1 (inR_k 1 rfl) h
def P_X12_hint (post : Int → (Int) → (Int) → (Int) → (Int) → (Int) → (Int) → (Int → Int) → (Int → Int) → (Int → Int) → (Int → Int) → (Int → Int) → (Int → Int) → (Int → Int) → (Int → Int) → (Int → Int) → (Int → Int) → (Int → Int) → (Int → Int) → (Int → Int) → Prop) (M_thrown : Int) (M_w : Int) (M_h : Int) (M_cells : Int) (M_shape : Int) (M_isBoard : Int) (M_parts : Int) (M_numbers : Int) (M_grade : Int) (M_reasons : Int) (M_total : Int) (M_near : Int → Int) (M_degree : Int → Int) (M_mine : Int → Int) (M_state : Int → Int) (M_safe : Int → Int) (M_mined : Int → Int) (M_used : Int → Int) (M_partOf : Int → Int) (M_placeOf : Int → Int) (M_partSize : Int → Int) (M_ways : Int → Int) (M_with : Int → Int) (M_masks : Int → Int) (M_rests : Int → Int) (M_bits : Int → Int) (M_reach : Int → Int) (M_more : Int → Int) (M_reason : Int → Int) : Prop :=
  (¬ M_isBoard = 0 → (P_X12_noReason (fun (M_grade_3 : Int) (M_reasons_4 : Int) (M_total_5 : Int) => (∃ Inv_6 : Nat → (Int) → (Int) → (Int) → (Int) → (Int) → (Int → Int) → (Int → Int) → (Int → Int) → (Int → Int) → (Int → Int) → (Int → Int) → (Int → Int) → (Int → Int) → (Int → Int) → (Int → Int) → (Int → Int) → (Int → Int) → Prop, (∃ n_7 : Nat, Inv_6 n_7 (-1) 1 M_parts M_numbers M_grade_3 M_safe M_mined M_used M_partOf M_placeOf M_partSize M_ways M_with M_masks M_rests M_reach M_more) ∧ ∀ (n_8 : Nat) (x1_11 : Int) (x2_12 : Int) (M_parts_13 : Int) (M_numbers_14 : Int) (M_grade_15 : Int) (M_safe_16 : Int → Int) (M_mined_17 : Int → Int) (M_used_18 : Int → Int) (M_partOf_19 : Int → Int) (M_placeOf_20 : Int → Int) (M_partSize_21 : Int → Int) (M_ways_22 : Int → Int) (M_with_23 : Int → Int) (M_masks_24 : Int → Int) (M_rests_25 : Int → Int) (M_reach_26 : Int → Int) (M_more_27 : Int → Int), inR x1_11 → inR x2_12 → Inv_6 n_8 x1_11 x2_12 M_parts_13 M_numbers_14 M_grade_15 M_safe_16 M_mined_17 M_used_18 M_partOf_19 M_placeOf_20 M_partSize_21 M_ways_22 M_with_23 M_masks_24 M_rests_25 M_reach_26 M_more_27 → (∃ J_28 : Prop, ((3 < x2_12 → (J_28)) ∧ (¬ 3 < x2_12 → ((0 ≤ x1_11 → (J_28)) ∧ (¬ 0 ≤ x1_11 → (P_X12_findUpTo (fun (M_parts_60 : Int) (M_numbers_61 : Int) (M_safe_62 : Int → Int) (M_mined_63 : Int → Int) (M_used_64 : Int → Int) (M_partOf_65 : Int → Int) (M_placeOf_66 : Int → Int) (M_partSize_67 : Int → Int) (M_ways_68 : Int → Int) (M_with_69 : Int → Int) (M_masks_70 : Int → Int) (M_rests_71 : Int → Int) (M_reach_72 : Int → Int) (M_more_73 : Int → Int) => (P_X12_firstFound (fun (c_74 : Int) => inR c_74 → (∃ J_75 : (Int) → Prop, ((c_74 < 0 → (J_75 M_grade_15)) ∧ (¬ c_74 < 0 → (J_75 x2_12))) ∧ (∀ (M_grade_77 : Int), J_75 M_grade_77 → (inR (x2_12 + 1) ∧ (∀ x2_79 : Int, x2_79 = (x2_12 + 1) → (∃ n_80 : Nat, n_80 < n_8 ∧ Inv_6 n_80 c_74 x2_79 M_parts_60 M_numbers_61 M_grade_77 M_safe_62 M_mined_63 M_used_64 M_partOf_65 M_placeOf_66 M_partSize_67 M_ways_68 M_with_69 M_masks_70 M_rests_71 M_reach_72 M_more_73)))))) M_cells M_state M_safe_62 M_mined_63 )) M_w M_h M_cells M_shape M_parts_13 M_numbers_14 M_near M_degree M_mine M_state M_safe_16 M_mined_17 M_used_18 M_partOf_19 M_placeOf_20 M_partSize_21 M_ways_22 M_with_23 M_masks_24 M_rests_25 M_bits M_reach_26 M_more_27 x2_12))))) ∧ (J_28 → ((0 ≤ x1_11 → ((0 ≤ x1_11 ∧ x1_11 < 144) ∧ (∀ v_32 : Int, v_32 = M_safe_16 x1_11 → (v_32 = 0 ∨ v_32 = 1) → (∃ J_33 : (Int) → Prop, ((¬ v_32 = 0 → (J_33 0)) ∧ (v_32 = 0 → (J_33 1))) ∧ (∀ (z_35 : Int), inR z_35 → J_33 z_35 → ((z_35 = 0 ∨ z_35 = 1) ∧ (P_X12_findReason (fun (M_parts_37 : Int) (M_numbers_38 : Int) (M_reasons_39 : Int) (M_total_40 : Int) (M_used_41 : Int → Int) (M_partOf_42 : Int → Int) (M_placeOf_43 : Int → Int) (M_partSize_44 : Int → Int) (M_ways_45 : Int → Int) (M_with_46 : Int → Int) (M_masks_47 : Int → Int) (M_rests_48 : Int → Int) (M_reach_49 : Int → Int) (M_more_50 : Int → Int) (M_reason_51 : Int → Int) => (∃ J_52 : (Int) → Prop, ((z_35 = 0 → (J_52 0)) ∧ (¬ z_35 = 0 → (J_52 1))) ∧ (∀ (z_54 : Int), inR z_54 → J_52 z_54 → (inR ((1 + (2 * x1_11)) + z_54) ∧ (post ((1 + (2 * x1_11)) + z_54) 0 M_parts_37 M_numbers_38 M_grade_15 M_reasons_39 M_total_40 M_safe_16 M_mined_17 M_used_41 M_partOf_42 M_placeOf_43 M_partSize_44 M_ways_45 M_with_46 M_masks_47 M_rests_48 M_reach_49 M_more_50 M_reason_51))))) M_cells M_parts_13 M_numbers_14 M_reasons_4 M_total_5 M_near M_degree M_mine M_state M_used_18 M_partOf_19 M_placeOf_20 M_partSize_21 M_ways_22 M_with_23 M_masks_24 M_rests_25 M_bits M_reach_26 M_more_27 M_reason x1_11 z_35))))))) ∧ (¬ 0 ≤ x1_11 → (post 0 0 M_parts_13 M_numbers_14 M_grade_15 M_reasons_4 M_total_5 M_safe_16 M_mined_17 M_used_18 M_partOf_19 M_placeOf_20 M_partSize_21 M_ways_22 M_with_23 M_masks_24 M_rests_25 M_reach_26 M_more_27 M_reason))))))) M_grade M_reasons M_total )) ∧ (M_isBoard = 0 → (P_X12_fail (fun (c_82 : Int) (M_thrown_83 : Int) => inR c_82 → (post c_82 M_thrown_83 M_parts M_numbers M_grade M_reasons M_total M_safe M_mined M_used M_partOf M_placeOf M_partSize M_ways M_with M_masks M_rests M_reach M_more M_reason)) 0 1))
set_option maxRecDepth 100000 in
set_option maxHeartbeats 4000000 in
theorem c_X12_hint (l : Launch) (K : wK) (ad : Nat → Nat) {M_thrown : Int} {M_w : Int} {M_h : Int} {M_cells : Int} {M_shape : Int} {M_isBoard : Int} {M_isBlank : Int} {M_lives : Int} {M_moves : Int} {M_parts : Int} {M_numbers : Int} {M_grade : Int} {M_reasons : Int} {M_total : Int} {M_near : Int → Int} {M_degree : Int → Int} {M_mine : Int → Int} {M_state : Int → Int} {M_history : Int → Int64} {M_oldLives : Int → Int} {M_safe : Int → Int} {M_mined : Int → Int} {M_used : Int → Int} {M_partOf : Int → Int} {M_placeOf : Int → Int} {M_partSize : Int → Int} {M_ways : Int → Int} {M_with : Int → Int} {M_masks : Int → Int} {M_rests : Int → Int} {M_bits : Int → Int} {M_reach : Int → Int} {M_more : Int → Int} {M_reason : Int → Int} {M_big : Int → Int64} {M_region : Int → Int}   (post : Int → (Int) → (Int) → (Int) → (Int) → (Int) → (Int) → (Int → Int) → (Int → Int) → (Int → Int) → (Int → Int) → (Int → Int) → (Int → Int) → (Int → Int) → (Int → Int) → (Int → Int) → (Int → Int) → (Int → Int) → (Int → Int) → (Int → Int) → Prop) (h : P_X12_hint post M_thrown M_w M_h M_cells M_shape M_isBoard M_parts M_numbers M_grade M_reasons M_total M_near M_degree M_mine M_state M_safe M_mined M_used M_partOf M_placeOf M_partSize M_ways M_with M_masks M_rests M_bits M_reach M_more M_reason) : mI l yX12_hint (Cond.code yX12_hint cX12_hint 3 (some .int) :: GT) ({ frames := 9, cells := 0, slots := 0, locals := 540 } : Room) [.ref (ad 0)] K ad (mW M_thrown M_w M_h M_cells M_shape M_isBoard M_isBlank M_lives M_moves M_parts M_numbers M_grade M_reasons M_total M_near M_degree M_mine M_state M_history M_oldLives M_safe M_mined M_used M_partOf M_placeOf M_partSize M_ways M_with M_masks M_rests M_bits M_reach M_more M_reason M_big M_region) (fun z9 u9 => ∃ M_thrown9 M_parts9 M_numbers9 M_grade9 M_reasons9 M_total9 M_safe9 M_mined9 M_used9 M_partOf9 M_placeOf9 M_partSize9 M_ways9 M_with9 M_masks9 M_rests9 M_reach9 M_more9 M_reason9, u9 = (mW M_thrown9 M_w M_h M_cells M_shape M_isBoard M_isBlank M_lives M_moves M_parts9 M_numbers9 M_grade9 M_reasons9 M_total9 M_near M_degree M_mine M_state M_history M_oldLives M_safe9 M_mined9 M_used9 M_partOf9 M_placeOf9 M_partSize9 M_ways9 M_with9 M_masks9 M_rests9 M_bits M_reach9 M_more9 M_reason9 M_big M_region) ∧ post z9 M_thrown9 M_parts9 M_numbers9 M_grade9 M_reasons9 M_total9 M_safe9 M_mined9 M_used9 M_partOf9 M_placeOf9 M_partSize9 M_ways9 M_with9 M_masks9 M_rests9 M_reach9 M_more9 M_reason9) := by
  refine mI_of (lv0 := [(0, .ref (ad 0))]) (by decide) (Nat.le_of_ble_eq_true rfl) rfl ?_
  intro p e s m args below meth c Q A C ret
  replace C : Cx p ({ frames := 9, cells := 0, slots := 0, locals := 540 } : Room) m c 0 0 cX12_hint 3 s args RX12 K A := C
  unfold P_X12_hint at h
  refine wa_aload_n C 0 rfl dX12_hint_0 rfl ?_
  refine wa_iconst C (z := 0) dX12_hint_1 rfl ?_
  refine wa_putI C (ws' := (mW 0 M_w M_h M_cells M_shape M_isBoard M_isBlank M_lives M_moves M_parts M_numbers M_grade M_reasons M_total M_near M_degree M_mine M_state M_history M_oldLives M_safe M_mined M_used M_partOf M_placeOf M_partSize M_ways M_with M_masks M_rests M_bits M_reach M_more M_reason M_big M_region)) 0 0 mW_0 rfl (by decide) okX12 gw_1232 rfl rfl (Nat.le_of_ble_eq_true rfl) (inR_k 0 rfl) (mWp_0_0 _) dX12_hint_2 ?_
  refine wa_aload_n C 0 rfl dX12_hint_5 rfl ?_
  refine wa_getZ C 0 5 mW_0 rfl rfl (by decide) okX12 gw_1237 dX12_hint_6 (fun r_1 => ?_)
  refine wa_if_ne C (tgt := 18) (inR_b r_1) dX12_hint_9 (by decide) (fun c_2 => ?_) (fun c_2 => ?_)
  · replace h := h.1 c_2
    refine wa_aload_n C 0 rfl dX12_hint_18 rfl ?_
    refine wa_callVv C (k := 0) (As := []) (rest := []) (c_X12_noReason l K ad  _ h) gw_1377 gw_1374 mW_0 rfl gw_1376 gs_55 gw_12 q_X12_noReason rfl rfl rfl ⟨by decide, by decide⟩ rfl (Nat.le_of_ble_eq_true rfl) dX12_hint_19 (fun u9 hp => ?_)
    obtain ⟨M_grade_3, M_reasons_4, M_total_5, rfl, h⟩ := hp
    refine wa_iconst C (z := -1) dX12_hint_22 rfl ?_
    refine wa_istore_n C dX12_hint_23 rfl (by decide) rfl ?_
    refine wa_iconst C (z := 1) dX12_hint_24 rfl ?_
    refine wa_istore_n C dX12_hint_25 rfl (by decide) rfl ?_
    obtain ⟨Inv_6, ⟨n_7, h0Inv_6⟩, hInv_6⟩ := h
    have k_10 : ∀ (n_8 : Nat) (x1_11 : Int) (x2_12 : Int) (M_parts_13 : Int) (M_numbers_14 : Int) (M_grade_15 : Int) (M_safe_16 : Int → Int) (M_mined_17 : Int → Int) (M_used_18 : Int → Int) (M_partOf_19 : Int → Int) (M_placeOf_20 : Int → Int) (M_partSize_21 : Int → Int) (M_ways_22 : Int → Int) (M_with_23 : Int → Int) (M_masks_24 : Int → Int) (M_rests_25 : Int → Int) (M_reach_26 : Int → Int) (M_more_27 : Int → Int), inR x1_11 → inR x2_12 → Inv_6 n_8 x1_11 x2_12 M_parts_13 M_numbers_14 M_grade_15 M_safe_16 M_mined_17 M_used_18 M_partOf_19 M_placeOf_20 M_partSize_21 M_ways_22 M_with_23 M_masks_24 M_rests_25 M_reach_26 M_more_27 → WA p l e ({ frames := 9, cells := 0, slots := 0, locals := 540 } : Room) s m args below meth c 0 0 Q K ad 3 A 26 [(0, .ref (ad 0)), (1, .int (iI x1_11)), (2, .int (iI x2_12))] [] (mW 0 M_w M_h M_cells M_shape M_isBoard M_isBlank M_lives M_moves M_parts_13 M_numbers_14 M_grade_15 M_reasons_4 M_total_5 M_near M_degree M_mine M_state M_history M_oldLives M_safe_16 M_mined_17 M_used_18 M_partOf_19 M_placeOf_20 M_partSize_21 M_ways_22 M_with_23 M_masks_24 M_rests_25 M_bits M_reach_26 M_more_27 M_reason M_big M_region) := by
      intro n_8
      induction n_8 using Nat.strongRecOn with
      | ind n_8 ih_9 =>
        intro x1_11 x2_12 M_parts_13 M_numbers_14 M_grade_15 M_safe_16 M_mined_17 M_used_18 M_partOf_19 M_placeOf_20 M_partSize_21 M_ways_22 M_with_23 M_masks_24 M_rests_25 M_reach_26 M_more_27 rx1_11 rx2_12 h
        replace h := hInv_6 n_8 x1_11 x2_12 M_parts_13 M_numbers_14 M_grade_15 M_safe_16 M_mined_17 M_used_18 M_partOf_19 M_placeOf_20 M_partSize_21 M_ways_22 M_with_23 M_masks_24 M_rests_25 M_reach_26 M_more_27 rx1_11 rx2_12 h
        refine wa_iload_n C 2 rfl dX12_hint_26 rfl ?_
        refine wa_iconst C (z := 3) dX12_hint_27 rfl ?_
        obtain ⟨J_28, h, hJ_28⟩ := h
        have k_29 : J_28 → WA p l e ({ frames := 9, cells := 0, slots := 0, locals := 540 } : Room) s m args below meth c 0 0 Q K ad 3 A 60 [(0, .ref (ad 0)), (1, .int (iI x1_11))] [] (mW 0 M_w M_h M_cells M_shape M_isBoard M_isBlank M_lives M_moves M_parts_13 M_numbers_14 M_grade_15 M_reasons_4 M_total_5 M_near M_degree M_mine M_state M_history M_oldLives M_safe_16 M_mined_17 M_used_18 M_partOf_19 M_placeOf_20 M_partSize_21 M_ways_22 M_with_23 M_masks_24 M_rests_25 M_bits M_reach_26 M_more_27 M_reason M_big M_region) := by
          intro h
          replace h := hJ_28 h
          refine wa_iload_n C 1 rfl dX12_hint_60 rfl ?_
          refine wa_if_ge C (tgt := 66) rx1_11 dX12_hint_61 (by decide) (fun c_30 => ?_) (fun c_30 => ?_)
          · replace h := h.1 c_30
            refine wa_aload_n C 0 rfl dX12_hint_66 rfl ?_
            refine wa_getR C 0 15 mW_0 rfl rfl (by decide) okX12 gw_1247 dX12_hint_67 ?_
            refine wa_iload_n C 1 rfl dX12_hint_70 rfl ?_
            obtain ⟨t_31, h⟩ := h
            refine wa_bald C 7 mW_7 dX12_hint_71 t_31.1 t_31.2 (fun v_32 ev_32 rv_32 => ?_)
            replace h := h v_32 ev_32 rv_32
            obtain ⟨J_33, h, hJ_33⟩ := h
            have k_34 : ∀ (z_35 : Int), inR z_35 → J_33 z_35 → WA p l e ({ frames := 9, cells := 0, slots := 0, locals := 540 } : Room) s m args below meth c 0 0 Q K ad 3 A 80 [(0, .ref (ad 0)), (1, .int (iI x1_11))] [.int (iI z_35)] (mW 0 M_w M_h M_cells M_shape M_isBoard M_isBlank M_lives M_moves M_parts_13 M_numbers_14 M_grade_15 M_reasons_4 M_total_5 M_near M_degree M_mine M_state M_history M_oldLives M_safe_16 M_mined_17 M_used_18 M_partOf_19 M_placeOf_20 M_partSize_21 M_ways_22 M_with_23 M_masks_24 M_rests_25 M_bits M_reach_26 M_more_27 M_reason M_big M_region) := by
              intro z_35 rz_35 h
              replace h := hJ_33 z_35 rz_35 h
              refine wa_istore_n C dX12_hint_80 rfl (by decide) rfl ?_
              refine wa_aload_n C 1 rfl dX12_hint_81 rfl ?_
              refine wa_iload_n C 2 rfl dX12_hint_82 rfl ?_
              refine wa_iload_n C 0 rfl dX12_hint_83 rfl ?_
              obtain ⟨b_36, h⟩ := h
              refine wa_callVv C (k := 0) (As := [.int (iI x1_11), .int (iI z_35)]) (rest := []) (c_X12_findReason l K ad x1_11 z_35 rx1_11 b_36 _ h) gw_1580 gw_1577 mW_0 rfl gw_1579 gs_97 gw_12 q_X12_findReason rfl rfl rfl ⟨by decide, by decide⟩ rfl (Nat.le_of_ble_eq_true rfl) dX12_hint_84 (fun u9 hp => ?_)
              obtain ⟨M_parts_37, M_numbers_38, M_reasons_39, M_total_40, M_used_41, M_partOf_42, M_placeOf_43, M_partSize_44, M_ways_45, M_with_46, M_masks_47, M_rests_48, M_reach_49, M_more_50, M_reason_51, rfl, h⟩ := hp
              refine wa_iconst C (z := 1) dX12_hint_87 rfl ?_
              refine wa_iconst C (z := 2) dX12_hint_88 rfl ?_
              refine wa_iload_n C 2 rfl dX12_hint_89 rfl ?_
              refine wa_imul C dX12_hint_90 ?_
              refine wa_iadd C dX12_hint_91 ?_
              refine wa_iload_n C 0 rfl dX12_hint_92 rfl ?_
              obtain ⟨J_52, h, hJ_52⟩ := h
              have k_53 : ∀ (z_54 : Int), inR z_54 → J_52 z_54 → WA p l e ({ frames := 9, cells := 0, slots := 0, locals := 540 } : Room) s m args below meth c 0 0 Q K ad 3 A 101 [] [.int (iI z_54), .int (iI (1 + (2 * x1_11)))] (mW 0 M_w M_h M_cells M_shape M_isBoard M_isBlank M_lives M_moves M_parts_37 M_numbers_38 M_grade_15 M_reasons_39 M_total_40 M_near M_degree M_mine M_state M_history M_oldLives M_safe_16 M_mined_17 M_used_41 M_partOf_42 M_placeOf_43 M_partSize_44 M_ways_45 M_with_46 M_masks_47 M_rests_48 M_bits M_reach_49 M_more_50 M_reason_51 M_big M_region) := by
                intro z_54 rz_54 h
                replace h := hJ_52 z_54 rz_54 h
                refine wa_iadd C dX12_hint_101 ?_
                obtain ⟨r_55, h⟩ := h
                exact ret dX12_hint_102 r_55 ⟨_, _, _, _, _, _, _, _, _, _, _, _, _, _, _, _, _, _, _, rfl, h⟩
              refine wa_if_eq C (tgt := 100) (inR_b b_36) dX12_hint_93 (by decide) (fun c_56 => ?_) (fun c_56 => ?_)
              · replace h := h.1 c_56
                refine wa_iconst C (z := 0) dX12_hint_100 rfl ?_
                refine wa_sub C [] rfl ?_
                exact k_53 0 (inR_k 0 rfl) h
              · replace h := h.2 c_56
                refine wa_iconst C (z := 1) dX12_hint_96 rfl ?_
                refine wa_goto C (tgt := 101) dX12_hint_97 (by decide) ?_
                refine wa_sub C [] rfl ?_
                exact k_53 1 (inR_k 1 rfl) h
            refine wa_if_ne C (tgt := 79) (inR_b rv_32) dX12_hint_72 (by decide) (fun c_57 => ?_) (fun c_57 => ?_)
            · replace h := h.1 c_57
              refine wa_iconst C (z := 0) dX12_hint_79 rfl ?_
              refine wa_sub C [0, 1] rfl ?_
              exact k_34 0 (inR_k 0 rfl) h
            · replace h := h.2 c_57
              refine wa_iconst C (z := 1) dX12_hint_75 rfl ?_
              refine wa_goto C (tgt := 80) dX12_hint_76 (by decide) ?_
              refine wa_sub C [0, 1] rfl ?_
              exact k_34 1 (inR_k 1 rfl) h
          · replace h := h.2 c_30
            refine wa_iconst C (z := 0) dX12_hint_64 rfl ?_
            exact ret dX12_hint_65 (inR_k 0 rfl) ⟨_, _, _, _, _, _, _, _, _, _, _, _, _, _, _, _, _, _, _, rfl, h⟩
        refine wa_icmp_gt C (tgt := 60) rx2_12 (inR_k 3 rfl) dX12_hint_28 (by decide) (fun c_58 => ?_) (fun c_58 => ?_)
        · replace h := h.1 c_58
          refine wa_sub C [0, 1] rfl ?_
          exact k_29 h
        · replace h := h.2 c_58
          refine wa_iload_n C 1 rfl dX12_hint_31 rfl ?_
          refine wa_if_ge C (tgt := 60) rx1_11 dX12_hint_32 (by decide) (fun c_59 => ?_) (fun c_59 => ?_)
          · replace h := h.1 c_59
            refine wa_sub C [0, 1] rfl ?_
            exact k_29 h
          · replace h := h.2 c_59
            refine wa_aload_n C 0 rfl dX12_hint_35 rfl ?_
            refine wa_iload_n C 2 rfl dX12_hint_36 rfl ?_
            refine wa_callVv C (k := 0) (As := [.int (iI x2_12)]) (rest := []) (c_X12_findUpTo l K ad x2_12 rx2_12 _ h) gw_1415 gw_1412 mW_0 rfl gw_1414 gs_64 gw_12 q_X12_findUpTo rfl rfl rfl ⟨by decide, by decide⟩ rfl (Nat.le_of_ble_eq_true rfl) dX12_hint_37 (fun u9 hp => ?_)
            obtain ⟨M_parts_60, M_numbers_61, M_safe_62, M_mined_63, M_used_64, M_partOf_65, M_placeOf_66, M_partSize_67, M_ways_68, M_with_69, M_masks_70, M_rests_71, M_reach_72, M_more_73, rfl, h⟩ := hp
            refine wa_aload_n C 0 rfl dX12_hint_40 rfl ?_
            refine wa_callVi C (k := 0) (As := []) (rest := []) (c_X12_firstFound l K ad  _ h) gw_1576 gw_1573 mW_0 rfl gw_1575 gs_96 gw_12 q_X12_firstFound rfl rfl rfl ⟨by decide, by decide⟩ rfl (Nat.le_of_ble_eq_true rfl) dX12_hint_41 (fun c_74 u9 rc_74 hp => ?_)
            obtain ⟨rfl, h⟩ := hp
            replace h := h rc_74
            refine wa_istore_n C dX12_hint_44 rfl (by decide) rfl ?_
            refine wa_iload_n C 0 rfl dX12_hint_45 rfl ?_
            obtain ⟨J_75, h, hJ_75⟩ := h
            have k_76 : ∀ (M_grade_77 : Int), J_75 M_grade_77 → WA p l e ({ frames := 9, cells := 0, slots := 0, locals := 540 } : Room) s m args below meth c 0 0 Q K ad 3 A 54 [(0, .ref (ad 0)), (1, .int (iI c_74)), (2, .int (iI x2_12))] [] (mW 0 M_w M_h M_cells M_shape M_isBoard M_isBlank M_lives M_moves M_parts_60 M_numbers_61 M_grade_77 M_reasons_4 M_total_5 M_near M_degree M_mine M_state M_history M_oldLives M_safe_62 M_mined_63 M_used_64 M_partOf_65 M_placeOf_66 M_partSize_67 M_ways_68 M_with_69 M_masks_70 M_rests_71 M_bits M_reach_72 M_more_73 M_reason M_big M_region) := by
              intro M_grade_77 h
              replace h := hJ_75 M_grade_77 h
              obtain ⟨r_78, h⟩ := h
              refine wa_iinc C (lv' := fun w9 => [(2, .int (iI w9)), (0, .ref (ad 0)), (1, .int (iI c_74))]) 2 rfl dX12_hint_54 (by decide) (fun _ => rfl) (fun x2_79 ex2_79 => ?_)
              replace h := h x2_79 ex2_79
              have rx2_79 : inR x2_79 := by rw [ex2_79]; exact r_78
              refine wa_goto C (tgt := 26) dX12_hint_57 (by decide) ?_
              obtain ⟨n_80, ln_80, h⟩ := h
              refine wa_sub C [1, 2, 0] rfl ?_
              exact ih_9 n_80 ln_80 c_74 x2_79 M_parts_60 M_numbers_61 M_grade_77 M_safe_62 M_mined_63 M_used_64 M_partOf_65 M_placeOf_66 M_partSize_67 M_ways_68 M_with_69 M_masks_70 M_rests_71 M_reach_72 M_more_73 rc_74 rx2_79 h
            refine wa_if_lt C (tgt := 54) rc_74 dX12_hint_46 (by decide) (fun c_81 => ?_) (fun c_81 => ?_)
            · replace h := h.1 c_81
              refine wa_sub C [1, 0, 2] rfl ?_
              exact k_76 M_grade_15 h
            · replace h := h.2 c_81
              refine wa_aload_n C 1 rfl dX12_hint_49 rfl ?_
              refine wa_iload_n C 2 rfl dX12_hint_50 rfl ?_
              refine wa_putI C (ws' := (mW 0 M_w M_h M_cells M_shape M_isBoard M_isBlank M_lives M_moves M_parts_60 M_numbers_61 x2_12 M_reasons_4 M_total_5 M_near M_degree M_mine M_state M_history M_oldLives M_safe_62 M_mined_63 M_used_64 M_partOf_65 M_placeOf_66 M_partSize_67 M_ways_68 M_with_69 M_masks_70 M_rests_71 M_bits M_reach_72 M_more_73 M_reason M_big M_region)) 0 30 mW_0 rfl (by decide) okX12 gw_1262 rfl rfl (Nat.le_of_ble_eq_true rfl) rx2_12 (mWp_0_30 _) dX12_hint_51 ?_
              refine wa_sub C [1, 0, 2] rfl ?_
              exact k_76 x2_12 h
    refine wa_sub C [2, 1, 0] rfl ?_
    exact k_10 n_7 (-1) 1 M_parts M_numbers M_grade_3 M_safe M_mined M_used M_partOf M_placeOf M_partSize M_ways M_with M_masks M_rests M_reach M_more (inR_k (-1) rfl) (inR_k 1 rfl) h0Inv_6
  · replace h := h.2 c_2
    refine wa_aload_n C 0 rfl dX12_hint_12 rfl ?_
    refine wa_iconst C (z := 1) dX12_hint_13 rfl ?_
    refine wa_callVi C (k := 0) (As := [.int (iI 1)]) (rest := []) (c_X12_fail l K ad 1 (inR_k 1 rfl) _ h) gw_1365 gw_1362 mW_0 rfl gw_1364 gs_52 gw_12 q_X12_fail rfl rfl rfl ⟨by decide, by decide⟩ rfl (Nat.le_of_ble_eq_true rfl) dX12_hint_14 (fun c_82 u9 rc_82 hp => ?_)
    obtain ⟨M_thrown_83, rfl, h⟩ := hp
    replace h := h rc_82
    exact ret dX12_hint_17 rc_82 ⟨_, _, _, _, _, _, _, _, _, _, _, _, _, _, _, _, _, _, _, rfl, h⟩
def P_X12_reason (post : Int → (Int) → Prop) (M_thrown : Int) (M_isBoard : Int) (M_grade : Int) (M_reasons : Int) (M_total : Int) (x1 : Int) : Prop :=
  (¬ M_isBoard = 0 → (P_X12_within (fun (c_3 : Int) => (c_3 = 0 ∨ c_3 = 1) → ((¬ c_3 = 0 → (∃ J_5 : (Int) → Prop, ((¬ x1 = 0 → ((¬ x1 = 1 → ((M_total = 0 → (J_5 0)) ∧ (¬ M_total = 0 → (J_5 1)))) ∧ (x1 = 1 → (J_5 M_reasons)))) ∧ (x1 = 0 → (J_5 M_grade))) ∧ (∀ (z_7 : Int), inR z_7 → J_5 z_7 → (post z_7 0)))) ∧ (c_3 = 0 → (P_X12_fail (fun (c_14 : Int) (M_thrown_15 : Int) => inR c_14 → (post c_14 M_thrown_15)) 0 2))))  x1 0 2)) ∧ (M_isBoard = 0 → (P_X12_fail (fun (c_16 : Int) (M_thrown_17 : Int) => inR c_16 → (post c_16 M_thrown_17)) 0 1))
set_option maxRecDepth 100000 in
set_option maxHeartbeats 4000000 in
theorem c_X12_reason (l : Launch) (K : wK) (ad : Nat → Nat) {M_thrown : Int} {M_w : Int} {M_h : Int} {M_cells : Int} {M_shape : Int} {M_isBoard : Int} {M_isBlank : Int} {M_lives : Int} {M_moves : Int} {M_parts : Int} {M_numbers : Int} {M_grade : Int} {M_reasons : Int} {M_total : Int} {M_near : Int → Int} {M_degree : Int → Int} {M_mine : Int → Int} {M_state : Int → Int} {M_history : Int → Int64} {M_oldLives : Int → Int} {M_safe : Int → Int} {M_mined : Int → Int} {M_used : Int → Int} {M_partOf : Int → Int} {M_placeOf : Int → Int} {M_partSize : Int → Int} {M_ways : Int → Int} {M_with : Int → Int} {M_masks : Int → Int} {M_rests : Int → Int} {M_bits : Int → Int} {M_reach : Int → Int} {M_more : Int → Int} {M_reason : Int → Int} {M_big : Int → Int64} {M_region : Int → Int} (x1 : Int) (rx1 : inR x1) (post : Int → (Int) → Prop) (h : P_X12_reason post M_thrown M_isBoard M_grade M_reasons M_total x1) : mI l yX12_reason (Cond.code yX12_reason cX12_reason 2 (some .int) :: GT) ({ frames := 3, cells := 0, slots := 0, locals := 180 } : Room) [.ref (ad 0), .int (iI x1)] K ad (mW M_thrown M_w M_h M_cells M_shape M_isBoard M_isBlank M_lives M_moves M_parts M_numbers M_grade M_reasons M_total M_near M_degree M_mine M_state M_history M_oldLives M_safe M_mined M_used M_partOf M_placeOf M_partSize M_ways M_with M_masks M_rests M_bits M_reach M_more M_reason M_big M_region) (fun z9 u9 => ∃ M_thrown9, u9 = (mW M_thrown9 M_w M_h M_cells M_shape M_isBoard M_isBlank M_lives M_moves M_parts M_numbers M_grade M_reasons M_total M_near M_degree M_mine M_state M_history M_oldLives M_safe M_mined M_used M_partOf M_placeOf M_partSize M_ways M_with M_masks M_rests M_bits M_reach M_more M_reason M_big M_region) ∧ post z9 M_thrown9) := by
  refine mI_of (lv0 := [(0, .ref (ad 0)), (1, .int (iI x1))]) (by decide) (Nat.le_of_ble_eq_true rfl) rfl ?_
  intro p e s m args below meth c Q A C ret
  replace C : Cx p ({ frames := 3, cells := 0, slots := 0, locals := 180 } : Room) m c 0 0 cX12_reason 2 s args RX12 K A := C
  unfold P_X12_reason at h
  refine wa_aload_n C 0 rfl dX12_reason_0 rfl ?_
  refine wa_iconst C (z := 0) dX12_reason_1 rfl ?_
  refine wa_putI C (ws' := (mW 0 M_w M_h M_cells M_shape M_isBoard M_isBlank M_lives M_moves M_parts M_numbers M_grade M_reasons M_total M_near M_degree M_mine M_state M_history M_oldLives M_safe M_mined M_used M_partOf M_placeOf M_partSize M_ways M_with M_masks M_rests M_bits M_reach M_more M_reason M_big M_region)) 0 0 mW_0 rfl (by decide) okX12 gw_1232 rfl rfl (Nat.le_of_ble_eq_true rfl) (inR_k 0 rfl) (mWp_0_0 _) dX12_reason_2 ?_
  refine wa_aload_n C 0 rfl dX12_reason_5 rfl ?_
  refine wa_getZ C 0 5 mW_0 rfl rfl (by decide) okX12 gw_1237 dX12_reason_6 (fun r_1 => ?_)
  refine wa_if_ne C (tgt := 18) (inR_b r_1) dX12_reason_9 (by decide) (fun c_2 => ?_) (fun c_2 => ?_)
  · replace h := h.1 c_2
    refine wa_iload_n C 1 rfl dX12_reason_18 rfl ?_
    refine wa_iconst C (z := 0) dX12_reason_19 rfl ?_
    refine wa_iconst C (z := 2) dX12_reason_20 rfl ?_
    refine wa_callSi C (As := [.int (iI x1), .int (iI 0), .int (iI 2)]) (rest := []) (c_X12_within l K ad x1 0 2 rx1 (inR_k 0 rfl) (inR_k 2 rfl) _ h) gw_1354 gw_1352 gw_1353 gw_12 q_X12_within rfl rfl rfl ⟨by decide, by decide⟩ rfl (Nat.le_of_ble_eq_true rfl) dX12_reason_21 (fun c_3 u9 rc_3 hp => ?_)
    obtain ⟨bc_3, rfl, h⟩ := hp
    replace h := h bc_3
    refine wa_if_ne C (tgt := 33) (inR_b bc_3) dX12_reason_24 (by decide) (fun c_4 => ?_) (fun c_4 => ?_)
    · replace h := h.1 c_4
      refine wa_iload_n C 1 rfl dX12_reason_33 rfl ?_
      obtain ⟨J_5, h, hJ_5⟩ := h
      have k_6 : ∀ (z_7 : Int), inR z_7 → J_5 z_7 → WA p l e ({ frames := 3, cells := 0, slots := 0, locals := 180 } : Room) s m args below meth c 0 0 Q K ad 2 A 68 [] [.int (iI z_7)] (mW 0 M_w M_h M_cells M_shape M_isBoard M_isBlank M_lives M_moves M_parts M_numbers M_grade M_reasons M_total M_near M_degree M_mine M_state M_history M_oldLives M_safe M_mined M_used M_partOf M_placeOf M_partSize M_ways M_with M_masks M_rests M_bits M_reach M_more M_reason M_big M_region) := by
        intro z_7 rz_7 h
        replace h := hJ_5 z_7 rz_7 h
        exact ret dX12_reason_68 rz_7 ⟨_, rfl, h⟩
      refine wa_if_ne C (tgt := 44) rx1 dX12_reason_34 (by decide) (fun c_8 => ?_) (fun c_8 => ?_)
      · replace h := h.1 c_8
        refine wa_iload_n C 1 rfl dX12_reason_44 rfl ?_
        refine wa_iconst C (z := 1) dX12_reason_45 rfl ?_
        refine wa_icmp_ne C (tgt := 56) rx1 (inR_k 1 rfl) dX12_reason_46 (by decide) (fun c_9 => ?_) (fun c_9 => ?_)
        · replace h := h.1 c_9
          refine wa_aload_n C 0 rfl dX12_reason_56 rfl ?_
          refine wa_getZ C 0 32 mW_0 rfl rfl (by decide) okX12 gw_1264 dX12_reason_57 (fun r_10 => ?_)
          refine wa_if_eq C (tgt := 67) (inR_b r_10) dX12_reason_60 (by decide) (fun c_11 => ?_) (fun c_11 => ?_)
          · replace h := h.1 c_11
            refine wa_iconst C (z := 0) dX12_reason_67 rfl ?_
            refine wa_sub C [] rfl ?_
            exact k_6 0 (inR_k 0 rfl) h
          · replace h := h.2 c_11
            refine wa_iconst C (z := 1) dX12_reason_63 rfl ?_
            refine wa_goto C (tgt := 68) dX12_reason_64 (by decide) ?_
            refine wa_sub C [] rfl ?_
            exact k_6 1 (inR_k 1 rfl) h
        · replace h := h.2 c_9
          refine wa_aload_n C 0 rfl dX12_reason_49 rfl ?_
          refine wa_getI C 0 31 mW_0 rfl rfl (by decide) okX12 gw_1263 dX12_reason_50 (fun r_12 => ?_)
          refine wa_goto C (tgt := 68) dX12_reason_53 (by decide) ?_
          refine wa_sub C [] rfl ?_
          exact k_6 M_reasons r_12 h
      · replace h := h.2 c_8
        refine wa_aload_n C 0 rfl dX12_reason_37 rfl ?_
        refine wa_getI C 0 30 mW_0 rfl rfl (by decide) okX12 gw_1262 dX12_reason_38 (fun r_13 => ?_)
        refine wa_goto C (tgt := 68) dX12_reason_41 (by decide) ?_
        refine wa_sub C [] rfl ?_
        exact k_6 M_grade r_13 h
    · replace h := h.2 c_4
      refine wa_aload_n C 0 rfl dX12_reason_27 rfl ?_
      refine wa_iconst C (z := 2) dX12_reason_28 rfl ?_
      refine wa_callVi C (k := 0) (As := [.int (iI 2)]) (rest := []) (c_X12_fail l K ad 2 (inR_k 2 rfl) _ h) gw_1365 gw_1362 mW_0 rfl gw_1364 gs_52 gw_12 q_X12_fail rfl rfl rfl ⟨by decide, by decide⟩ rfl (Nat.le_of_ble_eq_true rfl) dX12_reason_29 (fun c_14 u9 rc_14 hp => ?_)
      obtain ⟨M_thrown_15, rfl, h⟩ := hp
      replace h := h rc_14
      exact ret dX12_reason_32 rc_14 ⟨_, rfl, h⟩
  · replace h := h.2 c_2
    refine wa_aload_n C 0 rfl dX12_reason_12 rfl ?_
    refine wa_iconst C (z := 1) dX12_reason_13 rfl ?_
    refine wa_callVi C (k := 0) (As := [.int (iI 1)]) (rest := []) (c_X12_fail l K ad 1 (inR_k 1 rfl) _ h) gw_1365 gw_1362 mW_0 rfl gw_1364 gs_52 gw_12 q_X12_fail rfl rfl rfl ⟨by decide, by decide⟩ rfl (Nat.le_of_ble_eq_true rfl) dX12_reason_14 (fun c_16 u9 rc_16 hp => ?_)
    obtain ⟨M_thrown_17, rfl, h⟩ := hp
    replace h := h rc_16
    exact ret dX12_reason_17 rc_16 ⟨_, rfl, h⟩
def P_X12_reasonCell (post : Int → (Int) → Prop) (M_thrown : Int) (M_isBoard : Int) (M_reasons : Int) (M_reason : Int → Int) (x1 : Int) : Prop :=
  (¬ M_isBoard = 0 → (inR (M_reasons - 1) ∧ (P_X12_within (fun (c_5 : Int) => (c_5 = 0 ∨ c_5 = 1) → (∃ J_6 : (Int) → (Int) → Prop, ((c_5 = 0 → (P_X12_fail (fun (c_11 : Int) (M_thrown_12 : Int) => inR c_11 → (J_6 M_thrown_12 c_11)) 0 2)) ∧ (¬ c_5 = 0 → ((0 ≤ x1 ∧ x1 < 144) ∧ (∀ v_14 : Int, v_14 = M_reason x1 → inR v_14 → (J_6 0 v_14))))) ∧ (∀ (M_thrown_8 : Int) (z_9 : Int), inR z_9 → J_6 M_thrown_8 z_9 → (post z_9 M_thrown_8))))  x1 0 (M_reasons - 1)))) ∧ (M_isBoard = 0 → (P_X12_fail (fun (c_15 : Int) (M_thrown_16 : Int) => inR c_15 → (post c_15 M_thrown_16)) 0 1))
set_option maxRecDepth 100000 in
set_option maxHeartbeats 4000000 in
theorem c_X12_reasonCell (l : Launch) (K : wK) (ad : Nat → Nat) {M_thrown : Int} {M_w : Int} {M_h : Int} {M_cells : Int} {M_shape : Int} {M_isBoard : Int} {M_isBlank : Int} {M_lives : Int} {M_moves : Int} {M_parts : Int} {M_numbers : Int} {M_grade : Int} {M_reasons : Int} {M_total : Int} {M_near : Int → Int} {M_degree : Int → Int} {M_mine : Int → Int} {M_state : Int → Int} {M_history : Int → Int64} {M_oldLives : Int → Int} {M_safe : Int → Int} {M_mined : Int → Int} {M_used : Int → Int} {M_partOf : Int → Int} {M_placeOf : Int → Int} {M_partSize : Int → Int} {M_ways : Int → Int} {M_with : Int → Int} {M_masks : Int → Int} {M_rests : Int → Int} {M_bits : Int → Int} {M_reach : Int → Int} {M_more : Int → Int} {M_reason : Int → Int} {M_big : Int → Int64} {M_region : Int → Int} (x1 : Int) (rx1 : inR x1) (post : Int → (Int) → Prop) (h : P_X12_reasonCell post M_thrown M_isBoard M_reasons M_reason x1) : mI l yX12_reasonCell (Cond.code yX12_reasonCell cX12_reasonCell 2 (some .int) :: GT) ({ frames := 3, cells := 0, slots := 0, locals := 180 } : Room) [.ref (ad 0), .int (iI x1)] K ad (mW M_thrown M_w M_h M_cells M_shape M_isBoard M_isBlank M_lives M_moves M_parts M_numbers M_grade M_reasons M_total M_near M_degree M_mine M_state M_history M_oldLives M_safe M_mined M_used M_partOf M_placeOf M_partSize M_ways M_with M_masks M_rests M_bits M_reach M_more M_reason M_big M_region) (fun z9 u9 => ∃ M_thrown9, u9 = (mW M_thrown9 M_w M_h M_cells M_shape M_isBoard M_isBlank M_lives M_moves M_parts M_numbers M_grade M_reasons M_total M_near M_degree M_mine M_state M_history M_oldLives M_safe M_mined M_used M_partOf M_placeOf M_partSize M_ways M_with M_masks M_rests M_bits M_reach M_more M_reason M_big M_region) ∧ post z9 M_thrown9) := by
  refine mI_of (lv0 := [(0, .ref (ad 0)), (1, .int (iI x1))]) (by decide) (Nat.le_of_ble_eq_true rfl) rfl ?_
  intro p e s m args below meth c Q A C ret
  replace C : Cx p ({ frames := 3, cells := 0, slots := 0, locals := 180 } : Room) m c 0 0 cX12_reasonCell 2 s args RX12 K A := C
  unfold P_X12_reasonCell at h
  refine wa_aload_n C 0 rfl dX12_reasonCell_0 rfl ?_
  refine wa_iconst C (z := 0) dX12_reasonCell_1 rfl ?_
  refine wa_putI C (ws' := (mW 0 M_w M_h M_cells M_shape M_isBoard M_isBlank M_lives M_moves M_parts M_numbers M_grade M_reasons M_total M_near M_degree M_mine M_state M_history M_oldLives M_safe M_mined M_used M_partOf M_placeOf M_partSize M_ways M_with M_masks M_rests M_bits M_reach M_more M_reason M_big M_region)) 0 0 mW_0 rfl (by decide) okX12 gw_1232 rfl rfl (Nat.le_of_ble_eq_true rfl) (inR_k 0 rfl) (mWp_0_0 _) dX12_reasonCell_2 ?_
  refine wa_aload_n C 0 rfl dX12_reasonCell_5 rfl ?_
  refine wa_getZ C 0 5 mW_0 rfl rfl (by decide) okX12 gw_1237 dX12_reasonCell_6 (fun r_1 => ?_)
  refine wa_if_ne C (tgt := 18) (inR_b r_1) dX12_reasonCell_9 (by decide) (fun c_2 => ?_) (fun c_2 => ?_)
  · replace h := h.1 c_2
    refine wa_iload_n C 1 rfl dX12_reasonCell_18 rfl ?_
    refine wa_iconst C (z := 0) dX12_reasonCell_19 rfl ?_
    refine wa_aload_n C 0 rfl dX12_reasonCell_20 rfl ?_
    refine wa_getI C 0 31 mW_0 rfl rfl (by decide) okX12 gw_1263 dX12_reasonCell_21 (fun r_3 => ?_)
    refine wa_iconst C (z := 1) dX12_reasonCell_24 rfl ?_
    refine wa_isub C dX12_reasonCell_25 ?_
    obtain ⟨r_4, h⟩ := h
    refine wa_callSi C (As := [.int (iI x1), .int (iI 0), .int (iI (M_reasons - 1))]) (rest := []) (c_X12_within l K ad x1 0 (M_reasons - 1) rx1 (inR_k 0 rfl) r_4 _ h) gw_1354 gw_1352 gw_1353 gw_12 q_X12_within rfl rfl rfl ⟨by decide, by decide⟩ rfl (Nat.le_of_ble_eq_true rfl) dX12_reasonCell_26 (fun c_5 u9 rc_5 hp => ?_)
    obtain ⟨bc_5, rfl, h⟩ := hp
    replace h := h bc_5
    obtain ⟨J_6, h, hJ_6⟩ := h
    have k_7 : ∀ (M_thrown_8 : Int) (z_9 : Int), inR z_9 → J_6 M_thrown_8 z_9 → WA p l e ({ frames := 3, cells := 0, slots := 0, locals := 180 } : Room) s m args below meth c 0 0 Q K ad 2 A 46 [] [.int (iI z_9)] (mW M_thrown_8 M_w M_h M_cells M_shape M_isBoard M_isBlank M_lives M_moves M_parts M_numbers M_grade M_reasons M_total M_near M_degree M_mine M_state M_history M_oldLives M_safe M_mined M_used M_partOf M_placeOf M_partSize M_ways M_with M_masks M_rests M_bits M_reach M_more M_reason M_big M_region) := by
      intro M_thrown_8 z_9 rz_9 h
      replace h := hJ_6 M_thrown_8 z_9 rz_9 h
      exact ret dX12_reasonCell_46 rz_9 ⟨_, rfl, h⟩
    refine wa_if_eq C (tgt := 41) (inR_b bc_5) dX12_reasonCell_29 (by decide) (fun c_10 => ?_) (fun c_10 => ?_)
    · replace h := h.1 c_10
      refine wa_aload_n C 0 rfl dX12_reasonCell_41 rfl ?_
      refine wa_iconst C (z := 2) dX12_reasonCell_42 rfl ?_
      refine wa_callVi C (k := 0) (As := [.int (iI 2)]) (rest := []) (c_X12_fail l K ad 2 (inR_k 2 rfl) _ h) gw_1365 gw_1362 mW_0 rfl gw_1364 gs_52 gw_12 q_X12_fail rfl rfl rfl ⟨by decide, by decide⟩ rfl (Nat.le_of_ble_eq_true rfl) dX12_reasonCell_43 (fun c_11 u9 rc_11 hp => ?_)
      obtain ⟨M_thrown_12, rfl, h⟩ := hp
      replace h := h rc_11
      refine wa_sub C [] rfl ?_
      exact k_7 M_thrown_12 c_11 rc_11 h
    · replace h := h.2 c_10
      refine wa_aload_n C 0 rfl dX12_reasonCell_32 rfl ?_
      refine wa_getR C 0 33 mW_0 rfl rfl (by decide) okX12 gw_1265 dX12_reasonCell_33 ?_
      refine wa_iload_n C 1 rfl dX12_reasonCell_36 rfl ?_
      obtain ⟨t_13, h⟩ := h
      refine wa_iald C 20 mW_20 dX12_reasonCell_37 t_13.1 t_13.2 (fun v_14 ev_14 rv_14 => ?_)
      replace h := h v_14 ev_14 rv_14
      refine wa_goto C (tgt := 46) dX12_reasonCell_38 (by decide) ?_
      refine wa_sub C [] rfl ?_
      exact k_7 0 v_14 rv_14 h
  · replace h := h.2 c_2
    refine wa_aload_n C 0 rfl dX12_reasonCell_12 rfl ?_
    refine wa_iconst C (z := 1) dX12_reasonCell_13 rfl ?_
    refine wa_callVi C (k := 0) (As := [.int (iI 1)]) (rest := []) (c_X12_fail l K ad 1 (inR_k 1 rfl) _ h) gw_1365 gw_1362 mW_0 rfl gw_1364 gs_52 gw_12 q_X12_fail rfl rfl rfl ⟨by decide, by decide⟩ rfl (Nat.le_of_ble_eq_true rfl) dX12_reasonCell_14 (fun c_15 u9 rc_15 hp => ?_)
    obtain ⟨M_thrown_16, rfl, h⟩ := hp
    replace h := h rc_15
    exact ret dX12_reasonCell_17 rc_15 ⟨_, rfl, h⟩
def P_X12_follows (post : Int → (Int) → (Int) → (Int) → (Int → Int) → (Int → Int) → (Int → Int) → (Int → Int) → (Int → Int) → (Int → Int) → (Int → Int) → (Int → Int) → (Int → Int) → (Int → Int) → Prop) (M_thrown : Int) (M_w : Int) (M_h : Int) (M_cells : Int) (M_isBoard : Int) (M_parts : Int) (M_numbers : Int) (M_reasons : Int) (M_total : Int) (M_near : Int → Int) (M_degree : Int → Int) (M_mine : Int → Int) (M_state : Int → Int) (M_used : Int → Int) (M_partOf : Int → Int) (M_placeOf : Int → Int) (M_partSize : Int → Int) (M_ways : Int → Int) (M_with : Int → Int) (M_masks : Int → Int) (M_rests : Int → Int) (M_bits : Int → Int) (M_reach : Int → Int) (M_more : Int → Int) (M_reason : Int → Int) (x1 : Int) (x2 : Int) (x3 : Int) : Prop :=
  P_X12_has (fun (c_1 : Int) (M_thrown_2 : Int) => (c_1 = 0 ∨ c_1 = 1) → ((¬ c_1 = 0 → (inR ((M_w * x1) + x2) ∧ (∀ x4_6 : Int, x4_6 = ((M_w * x1) + x2) → (∃ Inv_7 : Nat → (Int) → (Int → Int) → Prop, (∃ n_8 : Nat, Inv_7 n_8 0 M_used) ∧ ∀ (n_9 : Nat) (x5_12 : Int) (M_used_13 : Int → Int), inR x5_12 → Inv_7 n_9 x5_12 M_used_13 → ((M_cells ≤ x5_12 → (∃ Inv_16 : Nat → (Int) → (Int → Int) → Prop, (∃ n_17 : Nat, Inv_16 n_17 0 M_used_13) ∧ ∀ (n_18 : Nat) (x5_21 : Int) (M_used_22 : Int → Int), inR x5_21 → Inv_16 n_18 x5_21 M_used_22 → ((M_reasons ≤ x5_21 → (P_X12_isUnknown (fun (c_25 : Int) => (c_25 = 0 ∨ c_25 = 1) → (∃ J_26 : (Int) → (Int) → (Int → Int) → (Int → Int) → (Int → Int) → (Int → Int) → (Int → Int) → (Int → Int) → (Int → Int) → Prop, ((c_25 = 0 → (J_26 M_parts M_numbers M_partOf M_placeOf M_partSize M_ways M_with M_masks M_rests)) ∧ (¬ c_25 = 0 → (P_X12_countParts (fun (c_45 : Int) (M_parts_46 : Int) (M_numbers_47 : Int) (M_partOf_48 : Int → Int) (M_placeOf_49 : Int → Int) (M_partSize_50 : Int → Int) (M_ways_51 : Int → Int) (M_with_52 : Int → Int) (M_masks_53 : Int → Int) (M_rests_54 : Int → Int) => (c_45 = 0 ∨ c_45 = 1) → ((¬ c_45 = 0 → (∃ J_56 : (Int) → Prop, ((¬ x3 = 0 → (J_56 0)) ∧ (x3 = 0 → (J_56 1))) ∧ (∀ (z_58 : Int), inR z_58 → J_56 z_58 → ((z_58 = 0 ∨ z_58 = 1) ∧ (P_X12_isPossible (fun (c_61 : Int) (M_reach_62 : Int → Int) (M_more_63 : Int → Int) => (c_61 = 0 ∨ c_61 = 1) → (∃ J_64 : (Int) → Prop, ((¬ c_61 = 0 → (J_64 0)) ∧ (c_61 = 0 → (J_64 1))) ∧ (∀ (z_66 : Int), inR z_66 → J_64 z_66 → ((z_66 = 0 ∨ z_66 = 1) ∧ (post z_66 M_thrown_2 M_parts_46 M_numbers_47 M_used_22 M_partOf_48 M_placeOf_49 M_partSize_50 M_ways_51 M_with_52 M_masks_53 M_rests_54 M_reach_62 M_more_63))))) M_cells M_parts_46 M_mine M_state M_partOf_48 M_placeOf_49 M_partSize_50 M_ways_51 M_with_52 M_reach M_more x4_6 z_58 M_total))))) ∧ (c_45 = 0 → (J_26 M_parts_46 M_numbers_47 M_partOf_48 M_placeOf_49 M_partSize_50 M_ways_51 M_with_52 M_masks_53 M_rests_54)))) M_cells M_parts M_numbers M_near M_degree M_mine M_state M_used_22 M_partOf M_placeOf M_partSize M_ways M_with M_masks M_rests M_bits ))) ∧ (∀ (M_parts_28 : Int) (M_numbers_29 : Int) (M_partOf_30 : Int → Int) (M_placeOf_31 : Int → Int) (M_partSize_32 : Int → Int) (M_ways_33 : Int → Int) (M_with_34 : Int → Int) (M_masks_35 : Int → Int) (M_rests_36 : Int → Int), J_26 M_parts_28 M_numbers_29 M_partOf_30 M_placeOf_31 M_partSize_32 M_ways_33 M_with_34 M_masks_35 M_rests_36 → (P_X12_fail (fun (c_37 : Int) (M_thrown_38 : Int) => inR c_37 → (∃ J_39 : (Int) → Prop, ((c_37 ≤ 0 → (J_39 0)) ∧ (¬ c_37 ≤ 0 → (J_39 1))) ∧ (∀ (z_41 : Int), inR z_41 → J_39 z_41 → ((z_41 = 0 ∨ z_41 = 1) ∧ (post z_41 M_thrown_38 M_parts_28 M_numbers_29 M_used_22 M_partOf_30 M_placeOf_31 M_partSize_32 M_ways_33 M_with_34 M_masks_35 M_rests_36 M_reach M_more))))) M_thrown_2 3)))) M_state x4_6)) ∧ (¬ M_reasons ≤ x5_21 → ((0 ≤ x5_21 ∧ x5_21 < 144) ∧ (∀ v_71 : Int, v_71 = M_reason x5_21 → inR v_71 → ((0 ≤ x5_21 ∧ x5_21 < 144) ∧ (∀ v_73 : Int, v_73 = M_reason x5_21 → inR v_73 → ((0 ≤ v_73 ∧ v_73 < 144) ∧ (∀ v_75 : Int, v_75 = M_state v_73 → inR v_75 → (∃ J_76 : (Int) → Prop, ((¬ v_75 = 1 → (J_76 0)) ∧ (v_75 = 1 → (J_76 1))) ∧ (∀ (z_78 : Int), inR z_78 → J_76 z_78 → ((0 ≤ v_71 ∧ v_71 < 144) ∧ ((z_78 = 0 ∨ z_78 = 1) ∧ (∀ M_used_81 : Int → Int, M_used_81 = upZ M_used_22 v_71 z_78 → (inR (x5_21 + 1) ∧ (∀ x5_83 : Int, x5_83 = (x5_21 + 1) → (∃ n_84 : Nat, n_84 < n_18 ∧ Inv_16 n_84 x5_83 M_used_81)))))))))))))))))) ∧ (¬ M_cells ≤ x5_12 → ((0 ≤ x5_12 ∧ x5_12 < 144) ∧ (∀ M_used_87 : Int → Int, M_used_87 = upZ M_used_13 x5_12 0 → (inR (x5_12 + 1) ∧ (∀ x5_89 : Int, x5_89 = (x5_12 + 1) → (∃ n_90 : Nat, n_90 < n_9 ∧ Inv_7 n_90 x5_89 M_used_87))))))))))) ∧ (c_1 = 0 → (post 0 M_thrown_2 M_parts M_numbers M_used M_partOf M_placeOf M_partSize M_ways M_with M_masks M_rests M_reach M_more)))) 0 M_w M_h M_isBoard x1 x2
set_option maxRecDepth 100000 in
set_option maxHeartbeats 4000000 in
theorem c_X12_follows (l : Launch) (K : wK) (ad : Nat → Nat) {M_thrown : Int} {M_w : Int} {M_h : Int} {M_cells : Int} {M_shape : Int} {M_isBoard : Int} {M_isBlank : Int} {M_lives : Int} {M_moves : Int} {M_parts : Int} {M_numbers : Int} {M_grade : Int} {M_reasons : Int} {M_total : Int} {M_near : Int → Int} {M_degree : Int → Int} {M_mine : Int → Int} {M_state : Int → Int} {M_history : Int → Int64} {M_oldLives : Int → Int} {M_safe : Int → Int} {M_mined : Int → Int} {M_used : Int → Int} {M_partOf : Int → Int} {M_placeOf : Int → Int} {M_partSize : Int → Int} {M_ways : Int → Int} {M_with : Int → Int} {M_masks : Int → Int} {M_rests : Int → Int} {M_bits : Int → Int} {M_reach : Int → Int} {M_more : Int → Int} {M_reason : Int → Int} {M_big : Int → Int64} {M_region : Int → Int} (x1 : Int) (x2 : Int) (x3 : Int) (rx1 : inR x1) (rx2 : inR x2) (bx3 : x3 = 0 ∨ x3 = 1) (post : Int → (Int) → (Int) → (Int) → (Int → Int) → (Int → Int) → (Int → Int) → (Int → Int) → (Int → Int) → (Int → Int) → (Int → Int) → (Int → Int) → (Int → Int) → (Int → Int) → Prop) (h : P_X12_follows post M_thrown M_w M_h M_cells M_isBoard M_parts M_numbers M_reasons M_total M_near M_degree M_mine M_state M_used M_partOf M_placeOf M_partSize M_ways M_with M_masks M_rests M_bits M_reach M_more M_reason x1 x2 x3) : mI l yX12_follows (Cond.code yX12_follows cX12_follows 6 (some .boolean) :: GT) ({ frames := 7, cells := 0, slots := 0, locals := 420 } : Room) [.ref (ad 0), .int (iI x1), .int (iI x2), .int (iI x3)] K ad (mW M_thrown M_w M_h M_cells M_shape M_isBoard M_isBlank M_lives M_moves M_parts M_numbers M_grade M_reasons M_total M_near M_degree M_mine M_state M_history M_oldLives M_safe M_mined M_used M_partOf M_placeOf M_partSize M_ways M_with M_masks M_rests M_bits M_reach M_more M_reason M_big M_region) (fun z9 u9 => (z9 = 0 ∨ z9 = 1) ∧ ∃ M_thrown9 M_parts9 M_numbers9 M_used9 M_partOf9 M_placeOf9 M_partSize9 M_ways9 M_with9 M_masks9 M_rests9 M_reach9 M_more9, u9 = (mW M_thrown9 M_w M_h M_cells M_shape M_isBoard M_isBlank M_lives M_moves M_parts9 M_numbers9 M_grade M_reasons M_total M_near M_degree M_mine M_state M_history M_oldLives M_safe M_mined M_used9 M_partOf9 M_placeOf9 M_partSize9 M_ways9 M_with9 M_masks9 M_rests9 M_bits M_reach9 M_more9 M_reason M_big M_region) ∧ post z9 M_thrown9 M_parts9 M_numbers9 M_used9 M_partOf9 M_placeOf9 M_partSize9 M_ways9 M_with9 M_masks9 M_rests9 M_reach9 M_more9) := by
  refine mZ_of (lv0 := [(0, .ref (ad 0)), (1, .int (iI x1)), (2, .int (iI x2)), (3, .int (iI x3))]) (by decide) (Nat.le_of_ble_eq_true rfl) rfl ?_
  intro p e s m args below meth c Q A C ret
  replace C : Cx p ({ frames := 7, cells := 0, slots := 0, locals := 420 } : Room) m c 0 0 cX12_follows 6 s args RX12 K A := C
  unfold P_X12_follows at h
  refine wa_aload_n C 0 rfl dX12_follows_0 rfl ?_
  refine wa_iconst C (z := 0) dX12_follows_1 rfl ?_
  refine wa_putI C (ws' := (mW 0 M_w M_h M_cells M_shape M_isBoard M_isBlank M_lives M_moves M_parts M_numbers M_grade M_reasons M_total M_near M_degree M_mine M_state M_history M_oldLives M_safe M_mined M_used M_partOf M_placeOf M_partSize M_ways M_with M_masks M_rests M_bits M_reach M_more M_reason M_big M_region)) 0 0 mW_0 rfl (by decide) okX12 gw_1232 rfl rfl (Nat.le_of_ble_eq_true rfl) (inR_k 0 rfl) (mWp_0_0 _) dX12_follows_2 ?_
  refine wa_aload_n C 0 rfl dX12_follows_5 rfl ?_
  refine wa_iload_n C 1 rfl dX12_follows_6 rfl ?_
  refine wa_iload_n C 2 rfl dX12_follows_7 rfl ?_
  refine wa_callVi C (k := 0) (As := [.int (iI x1), .int (iI x2)]) (rest := []) (c_X12_has l K ad x1 x2 rx1 rx2 _ h) gw_1539 gw_1536 mW_0 rfl gw_1538 gs_93 gw_12 q_X12_has rfl rfl rfl ⟨by decide, by decide⟩ rfl (Nat.le_of_ble_eq_true rfl) dX12_follows_8 (fun c_1 u9 rc_1 hp => ?_)
  obtain ⟨bc_1, M_thrown_2, rfl, h⟩ := hp
  replace h := h bc_1
  refine wa_if_ne C (tgt := 16) (inR_b bc_1) dX12_follows_11 (by decide) (fun c_3 => ?_) (fun c_3 => ?_)
  · replace h := h.1 c_3
    refine wa_aload_n C 0 rfl dX12_follows_16 rfl ?_
    refine wa_getI C 0 1 mW_0 rfl rfl (by decide) okX12 gw_1233 dX12_follows_17 (fun r_4 => ?_)
    refine wa_iload_n C 1 rfl dX12_follows_20 rfl ?_
    refine wa_imul C dX12_follows_21 ?_
    refine wa_iload_n C 2 rfl dX12_follows_22 rfl ?_
    refine wa_iadd C dX12_follows_23 ?_
    obtain ⟨r_5, h⟩ := h
    refine wa_nmi (fun x4_6 ex4_6 => ?_)
    replace h := h x4_6 ex4_6
    have rx4_6 : inR x4_6 := by rw [ex4_6]; exact r_5
    refine wa_istore C dX12_follows_24 (by decide) rfl ?_
    refine wa_iconst C (z := 0) dX12_follows_26 rfl ?_
    refine wa_istore C dX12_follows_27 (by decide) rfl ?_
    obtain ⟨Inv_7, ⟨n_8, h0Inv_7⟩, hInv_7⟩ := h
    have k_11 : ∀ (n_9 : Nat) (x5_12 : Int) (M_used_13 : Int → Int), inR x5_12 → Inv_7 n_9 x5_12 M_used_13 → WA p l e ({ frames := 7, cells := 0, slots := 0, locals := 420 } : Room) s m args below meth c 0 0 Q K ad 6 A 29 [(0, .ref (ad 0)), (3, .int (iI x3)), (4, .int (iI x4_6)), (5, .int (iI x5_12))] [] (mW M_thrown_2 M_w M_h M_cells M_shape M_isBoard M_isBlank M_lives M_moves M_parts M_numbers M_grade M_reasons M_total M_near M_degree M_mine M_state M_history M_oldLives M_safe M_mined M_used_13 M_partOf M_placeOf M_partSize M_ways M_with M_masks M_rests M_bits M_reach M_more M_reason M_big M_region) := by
      intro n_9
      induction n_9 using Nat.strongRecOn with
      | ind n_9 ih_10 =>
        intro x5_12 M_used_13 rx5_12 h
        replace h := hInv_7 n_9 x5_12 M_used_13 rx5_12 h
        refine wa_iload C 3 rfl dX12_follows_29 ?_
        refine wa_aload_n C 0 rfl dX12_follows_31 rfl ?_
        refine wa_getI C 0 3 mW_0 rfl rfl (by decide) okX12 gw_1235 dX12_follows_32 (fun r_14 => ?_)
        refine wa_icmp_ge C (tgt := 52) rx5_12 r_14 dX12_follows_35 (by decide) (fun c_15 => ?_) (fun c_15 => ?_)
        · replace h := h.1 c_15
          refine wa_iconst C (z := 0) dX12_follows_52 rfl ?_
          refine wa_istore C dX12_follows_53 (by decide) rfl ?_
          obtain ⟨Inv_16, ⟨n_17, h0Inv_16⟩, hInv_16⟩ := h
          have k_20 : ∀ (n_18 : Nat) (x5_21 : Int) (M_used_22 : Int → Int), inR x5_21 → Inv_16 n_18 x5_21 M_used_22 → WA p l e ({ frames := 7, cells := 0, slots := 0, locals := 420 } : Room) s m args below meth c 0 0 Q K ad 6 A 55 [(0, .ref (ad 0)), (3, .int (iI x3)), (4, .int (iI x4_6)), (5, .int (iI x5_21))] [] (mW M_thrown_2 M_w M_h M_cells M_shape M_isBoard M_isBlank M_lives M_moves M_parts M_numbers M_grade M_reasons M_total M_near M_degree M_mine M_state M_history M_oldLives M_safe M_mined M_used_22 M_partOf M_placeOf M_partSize M_ways M_with M_masks M_rests M_bits M_reach M_more M_reason M_big M_region) := by
            intro n_18
            induction n_18 using Nat.strongRecOn with
            | ind n_18 ih_19 =>
              intro x5_21 M_used_22 rx5_21 h
              replace h := hInv_16 n_18 x5_21 M_used_22 rx5_21 h
              refine wa_iload C 3 rfl dX12_follows_55 ?_
              refine wa_aload_n C 0 rfl dX12_follows_57 rfl ?_
              refine wa_getI C 0 31 mW_0 rfl rfl (by decide) okX12 gw_1263 dX12_follows_58 (fun r_23 => ?_)
              refine wa_icmp_ge C (tgt := 103) rx5_21 r_23 dX12_follows_61 (by decide) (fun c_24 => ?_) (fun c_24 => ?_)
              · replace h := h.1 c_24
                refine wa_aload_n C 0 rfl dX12_follows_103 rfl ?_
                refine wa_iload C 2 rfl dX12_follows_104 ?_
                refine wa_callVi C (k := 0) (As := [.int (iI x4_6)]) (rest := []) (c_X12_isUnknown l K ad x4_6 rx4_6 _ h) gw_1411 gw_1408 mW_0 rfl gw_1410 gs_63 gw_12 q_X12_isUnknown rfl rfl rfl ⟨by decide, by decide⟩ rfl (Nat.le_of_ble_eq_true rfl) dX12_follows_106 (fun c_25 u9 rc_25 hp => ?_)
                obtain ⟨bc_25, rfl, h⟩ := hp
                replace h := h bc_25
                obtain ⟨J_26, h, hJ_26⟩ := h
                have k_27 : ∀ (M_parts_28 : Int) (M_numbers_29 : Int) (M_partOf_30 : Int → Int) (M_placeOf_31 : Int → Int) (M_partSize_32 : Int → Int) (M_ways_33 : Int → Int) (M_with_34 : Int → Int) (M_masks_35 : Int → Int) (M_rests_36 : Int → Int), J_26 M_parts_28 M_numbers_29 M_partOf_30 M_placeOf_31 M_partSize_32 M_ways_33 M_with_34 M_masks_35 M_rests_36 → WA p l e ({ frames := 7, cells := 0, slots := 0, locals := 420 } : Room) s m args below meth c 0 0 Q K ad 6 A 119 [(0, .ref (ad 0))] [] (mW M_thrown_2 M_w M_h M_cells M_shape M_isBoard M_isBlank M_lives M_moves M_parts_28 M_numbers_29 M_grade M_reasons M_total M_near M_degree M_mine M_state M_history M_oldLives M_safe M_mined M_used_22 M_partOf_30 M_placeOf_31 M_partSize_32 M_ways_33 M_with_34 M_masks_35 M_rests_36 M_bits M_reach M_more M_reason M_big M_region) := by
                  intro M_parts_28 M_numbers_29 M_partOf_30 M_placeOf_31 M_partSize_32 M_ways_33 M_with_34 M_masks_35 M_rests_36 h
                  replace h := hJ_26 M_parts_28 M_numbers_29 M_partOf_30 M_placeOf_31 M_partSize_32 M_ways_33 M_with_34 M_masks_35 M_rests_36 h
                  refine wa_aload_n C 0 rfl dX12_follows_119 rfl ?_
                  refine wa_iconst C (z := 3) dX12_follows_120 rfl ?_
                  refine wa_callVi C (k := 0) (As := [.int (iI 3)]) (rest := []) (c_X12_fail l K ad 3 (inR_k 3 rfl) _ h) gw_1365 gw_1362 mW_0 rfl gw_1364 gs_52 gw_12 q_X12_fail rfl rfl rfl ⟨by decide, by decide⟩ rfl (Nat.le_of_ble_eq_true rfl) dX12_follows_121 (fun c_37 u9 rc_37 hp => ?_)
                  obtain ⟨M_thrown_38, rfl, h⟩ := hp
                  replace h := h rc_37
                  obtain ⟨J_39, h, hJ_39⟩ := h
                  have k_40 : ∀ (z_41 : Int), inR z_41 → J_39 z_41 → WA p l e ({ frames := 7, cells := 0, slots := 0, locals := 420 } : Room) s m args below meth c 0 0 Q K ad 6 A 132 [] [.int (iI z_41)] (mW M_thrown_38 M_w M_h M_cells M_shape M_isBoard M_isBlank M_lives M_moves M_parts_28 M_numbers_29 M_grade M_reasons M_total M_near M_degree M_mine M_state M_history M_oldLives M_safe M_mined M_used_22 M_partOf_30 M_placeOf_31 M_partSize_32 M_ways_33 M_with_34 M_masks_35 M_rests_36 M_bits M_reach M_more M_reason M_big M_region) := by
                    intro z_41 rz_41 h
                    replace h := hJ_39 z_41 rz_41 h
                    obtain ⟨b_42, h⟩ := h
                    exact ret dX12_follows_132 b_42 ⟨b_42, _, _, _, _, _, _, _, _, _, _, _, _, _, rfl, h⟩
                  refine wa_if_le C (tgt := 131) rc_37 dX12_follows_124 (by decide) (fun c_43 => ?_) (fun c_43 => ?_)
                  · replace h := h.1 c_43
                    refine wa_iconst C (z := 0) dX12_follows_131 rfl ?_
                    refine wa_sub C [] rfl ?_
                    exact k_40 0 (inR_k 0 rfl) h
                  · replace h := h.2 c_43
                    refine wa_iconst C (z := 1) dX12_follows_127 rfl ?_
                    refine wa_goto C (tgt := 132) dX12_follows_128 (by decide) ?_
                    refine wa_sub C [] rfl ?_
                    exact k_40 1 (inR_k 1 rfl) h
                refine wa_if_eq C (tgt := 119) (inR_b bc_25) dX12_follows_109 (by decide) (fun c_44 => ?_) (fun c_44 => ?_)
                · replace h := h.1 c_44
                  refine wa_sub C [0] rfl ?_
                  exact k_27 M_parts M_numbers M_partOf M_placeOf M_partSize M_ways M_with M_masks M_rests h
                · replace h := h.2 c_44
                  refine wa_aload_n C 0 rfl dX12_follows_112 rfl ?_
                  refine wa_callVi C (k := 0) (As := []) (rest := []) (c_X12_countParts l K ad  _ h) gw_1467 gw_1464 mW_0 rfl gw_1466 gs_77 gw_12 q_X12_countParts rfl rfl rfl ⟨by decide, by decide⟩ rfl (Nat.le_of_ble_eq_true rfl) dX12_follows_113 (fun c_45 u9 rc_45 hp => ?_)
                  obtain ⟨bc_45, M_parts_46, M_numbers_47, M_partOf_48, M_placeOf_49, M_partSize_50, M_ways_51, M_with_52, M_masks_53, M_rests_54, rfl, h⟩ := hp
                  replace h := h bc_45
                  refine wa_if_ne C (tgt := 133) (inR_b bc_45) dX12_follows_116 (by decide) (fun c_55 => ?_) (fun c_55 => ?_)
                  · replace h := h.1 c_55
                    refine wa_aload_n C 0 rfl dX12_follows_133 rfl ?_
                    refine wa_iload C 2 rfl dX12_follows_134 ?_
                    refine wa_iload_n C 1 rfl dX12_follows_136 rfl ?_
                    obtain ⟨J_56, h, hJ_56⟩ := h
                    have k_57 : ∀ (z_58 : Int), inR z_58 → J_56 z_58 → WA p l e ({ frames := 7, cells := 0, slots := 0, locals := 420 } : Room) s m args below meth c 0 0 Q K ad 6 A 145 [(0, .ref (ad 0))] [.int (iI z_58), .int (iI x4_6), .ref (ad 0)] (mW M_thrown_2 M_w M_h M_cells M_shape M_isBoard M_isBlank M_lives M_moves M_parts_46 M_numbers_47 M_grade M_reasons M_total M_near M_degree M_mine M_state M_history M_oldLives M_safe M_mined M_used_22 M_partOf_48 M_placeOf_49 M_partSize_50 M_ways_51 M_with_52 M_masks_53 M_rests_54 M_bits M_reach M_more M_reason M_big M_region) := by
                      intro z_58 rz_58 h
                      replace h := hJ_56 z_58 rz_58 h
                      refine wa_aload_n C 0 rfl dX12_follows_145 rfl ?_
                      refine wa_getZ C 0 32 mW_0 rfl rfl (by decide) okX12 gw_1264 dX12_follows_146 (fun r_59 => ?_)
                      obtain ⟨b_60, h⟩ := h
                      refine wa_callVi C (k := 0) (As := [.int (iI x4_6), .int (iI z_58), .int (iI M_total)]) (rest := []) (c_X12_isPossible l K ad x4_6 z_58 M_total rx4_6 b_60 r_59 _ h) gw_1592 gw_1589 mW_0 rfl gw_1591 gs_100 gw_12 q_X12_isPossible rfl rfl rfl ⟨by decide, by decide⟩ rfl (Nat.le_of_ble_eq_true rfl) dX12_follows_149 (fun c_61 u9 rc_61 hp => ?_)
                      obtain ⟨bc_61, M_reach_62, M_more_63, rfl, h⟩ := hp
                      replace h := h bc_61
                      obtain ⟨J_64, h, hJ_64⟩ := h
                      have k_65 : ∀ (z_66 : Int), inR z_66 → J_64 z_66 → WA p l e ({ frames := 7, cells := 0, slots := 0, locals := 420 } : Room) s m args below meth c 0 0 Q K ad 6 A 160 [] [.int (iI z_66)] (mW M_thrown_2 M_w M_h M_cells M_shape M_isBoard M_isBlank M_lives M_moves M_parts_46 M_numbers_47 M_grade M_reasons M_total M_near M_degree M_mine M_state M_history M_oldLives M_safe M_mined M_used_22 M_partOf_48 M_placeOf_49 M_partSize_50 M_ways_51 M_with_52 M_masks_53 M_rests_54 M_bits M_reach_62 M_more_63 M_reason M_big M_region) := by
                        intro z_66 rz_66 h
                        replace h := hJ_64 z_66 rz_66 h
                        obtain ⟨b_67, h⟩ := h
                        exact ret dX12_follows_160 b_67 ⟨b_67, _, _, _, _, _, _, _, _, _, _, _, _, _, rfl, h⟩
                      refine wa_if_ne C (tgt := 159) (inR_b bc_61) dX12_follows_152 (by decide) (fun c_68 => ?_) (fun c_68 => ?_)
                      · replace h := h.1 c_68
                        refine wa_iconst C (z := 0) dX12_follows_159 rfl ?_
                        refine wa_sub C [] rfl ?_
                        exact k_65 0 (inR_k 0 rfl) h
                      · replace h := h.2 c_68
                        refine wa_iconst C (z := 1) dX12_follows_155 rfl ?_
                        refine wa_goto C (tgt := 160) dX12_follows_156 (by decide) ?_
                        refine wa_sub C [] rfl ?_
                        exact k_65 1 (inR_k 1 rfl) h
                    refine wa_if_ne C (tgt := 144) (inR_b bx3) dX12_follows_137 (by decide) (fun c_69 => ?_) (fun c_69 => ?_)
                    · replace h := h.1 c_69
                      refine wa_iconst C (z := 0) dX12_follows_144 rfl ?_
                      refine wa_sub C [0] rfl ?_
                      exact k_57 0 (inR_k 0 rfl) h
                    · replace h := h.2 c_69
                      refine wa_iconst C (z := 1) dX12_follows_140 rfl ?_
                      refine wa_goto C (tgt := 145) dX12_follows_141 (by decide) ?_
                      refine wa_sub C [0] rfl ?_
                      exact k_57 1 (inR_k 1 rfl) h
                  · replace h := h.2 c_55
                    refine wa_sub C [0] rfl ?_
                    exact k_27 M_parts_46 M_numbers_47 M_partOf_48 M_placeOf_49 M_partSize_50 M_ways_51 M_with_52 M_masks_53 M_rests_54 h
              · replace h := h.2 c_24
                refine wa_aload_n C 0 rfl dX12_follows_64 rfl ?_
                refine wa_getR C 0 17 mW_0 rfl rfl (by decide) okX12 gw_1249 dX12_follows_65 ?_
                refine wa_aload_n C 0 rfl dX12_follows_68 rfl ?_
                refine wa_getR C 0 33 mW_0 rfl rfl (by decide) okX12 gw_1265 dX12_follows_69 ?_
                refine wa_iload C 3 rfl dX12_follows_72 ?_
                obtain ⟨t_70, h⟩ := h
                refine wa_iald C 20 mW_20 dX12_follows_74 t_70.1 t_70.2 (fun v_71 ev_71 rv_71 => ?_)
                replace h := h v_71 ev_71 rv_71
                refine wa_aload_n C 0 rfl dX12_follows_75 rfl ?_
                refine wa_getR C 0 10 mW_0 rfl rfl (by decide) okX12 gw_1242 dX12_follows_76 ?_
                refine wa_aload_n C 0 rfl dX12_follows_79 rfl ?_
                refine wa_getR C 0 33 mW_0 rfl rfl (by decide) okX12 gw_1265 dX12_follows_80 ?_
                refine wa_iload C 3 rfl dX12_follows_83 ?_
                obtain ⟨t_72, h⟩ := h
                refine wa_iald C 20 mW_20 dX12_follows_85 t_72.1 t_72.2 (fun v_73 ev_73 rv_73 => ?_)
                replace h := h v_73 ev_73 rv_73
                obtain ⟨t_74, h⟩ := h
                refine wa_iald C 4 mW_4 dX12_follows_86 t_74.1 t_74.2 (fun v_75 ev_75 rv_75 => ?_)
                replace h := h v_75 ev_75 rv_75
                refine wa_iconst C (z := 1) dX12_follows_87 rfl ?_
                obtain ⟨J_76, h, hJ_76⟩ := h
                have k_77 : ∀ (z_78 : Int), inR z_78 → J_76 z_78 → WA p l e ({ frames := 7, cells := 0, slots := 0, locals := 420 } : Room) s m args below meth c 0 0 Q K ad 6 A 96 [(0, .ref (ad 0)), (3, .int (iI x3)), (4, .int (iI x4_6)), (5, .int (iI x5_21))] [.int (iI z_78), .int (iI v_71), .ref (ad 9)] (mW M_thrown_2 M_w M_h M_cells M_shape M_isBoard M_isBlank M_lives M_moves M_parts M_numbers M_grade M_reasons M_total M_near M_degree M_mine M_state M_history M_oldLives M_safe M_mined M_used_22 M_partOf M_placeOf M_partSize M_ways M_with M_masks M_rests M_bits M_reach M_more M_reason M_big M_region) := by
                  intro z_78 rz_78 h
                  replace h := hJ_76 z_78 rz_78 h
                  obtain ⟨t_79, h⟩ := h
                  obtain ⟨b_80, h⟩ := h
                  refine wa_bast C (ws' := fun w9 => (mW M_thrown_2 M_w M_h M_cells M_shape M_isBoard M_isBlank M_lives M_moves M_parts M_numbers M_grade M_reasons M_total M_near M_degree M_mine M_state M_history M_oldLives M_safe M_mined w9 M_partOf M_placeOf M_partSize M_ways M_with M_masks M_rests M_bits M_reach M_more M_reason M_big M_region)) 9 mW_9 dX12_follows_96 t_79.1 t_79.2 b_80 mWs_9 (fun M_used_81 eM_used_81 => ?_)
                  replace h := h M_used_81 eM_used_81
                  obtain ⟨r_82, h⟩ := h
                  refine wa_iinc C (lv' := fun w9 => [(5, .int (iI w9)), (0, .ref (ad 0)), (3, .int (iI x3)), (4, .int (iI x4_6))]) 3 rfl dX12_follows_97 (by decide) (fun _ => rfl) (fun x5_83 ex5_83 => ?_)
                  replace h := h x5_83 ex5_83
                  have rx5_83 : inR x5_83 := by rw [ex5_83]; exact r_82
                  refine wa_goto C (tgt := 55) dX12_follows_100 (by decide) ?_
                  obtain ⟨n_84, ln_84, h⟩ := h
                  refine wa_sub C [1, 2, 3, 0] rfl ?_
                  exact ih_19 n_84 ln_84 x5_83 M_used_81 rx5_83 h
                refine wa_icmp_ne C (tgt := 95) rv_75 (inR_k 1 rfl) dX12_follows_88 (by decide) (fun c_85 => ?_) (fun c_85 => ?_)
                · replace h := h.1 c_85
                  refine wa_iconst C (z := 0) dX12_follows_95 rfl ?_
                  refine wa_sub C [0, 1, 2, 3] rfl ?_
                  exact k_77 0 (inR_k 0 rfl) h
                · replace h := h.2 c_85
                  refine wa_iconst C (z := 1) dX12_follows_91 rfl ?_
                  refine wa_goto C (tgt := 96) dX12_follows_92 (by decide) ?_
                  refine wa_sub C [0, 1, 2, 3] rfl ?_
                  exact k_77 1 (inR_k 1 rfl) h
          refine wa_sub C [1, 2, 3, 0] rfl ?_
          exact k_20 n_17 0 M_used_13 (inR_k 0 rfl) h0Inv_16
        · replace h := h.2 c_15
          refine wa_aload_n C 0 rfl dX12_follows_38 rfl ?_
          refine wa_getR C 0 17 mW_0 rfl rfl (by decide) okX12 gw_1249 dX12_follows_39 ?_
          refine wa_iload C 3 rfl dX12_follows_42 ?_
          refine wa_iconst C (z := 0) dX12_follows_44 rfl ?_
          obtain ⟨t_86, h⟩ := h
          refine wa_bast C (ws' := fun w9 => (mW M_thrown_2 M_w M_h M_cells M_shape M_isBoard M_isBlank M_lives M_moves M_parts M_numbers M_grade M_reasons M_total M_near M_degree M_mine M_state M_history M_oldLives M_safe M_mined w9 M_partOf M_placeOf M_partSize M_ways M_with M_masks M_rests M_bits M_reach M_more M_reason M_big M_region)) 9 mW_9 dX12_follows_45 t_86.1 t_86.2 (Or.inl rfl) mWs_9 (fun M_used_87 eM_used_87 => ?_)
          replace h := h M_used_87 eM_used_87
          obtain ⟨r_88, h⟩ := h
          refine wa_iinc C (lv' := fun w9 => [(5, .int (iI w9)), (0, .ref (ad 0)), (3, .int (iI x3)), (4, .int (iI x4_6))]) 3 rfl dX12_follows_46 (by decide) (fun _ => rfl) (fun x5_89 ex5_89 => ?_)
          replace h := h x5_89 ex5_89
          have rx5_89 : inR x5_89 := by rw [ex5_89]; exact r_88
          refine wa_goto C (tgt := 29) dX12_follows_49 (by decide) ?_
          obtain ⟨n_90, ln_90, h⟩ := h
          refine wa_sub C [1, 2, 3, 0] rfl ?_
          exact ih_10 n_90 ln_90 x5_89 M_used_87 rx5_89 h
    refine wa_sub C [2, 5, 1, 0] rfl ?_
    exact k_11 n_8 0 M_used (inR_k 0 rfl) h0Inv_7
  · replace h := h.2 c_3
    refine wa_iconst C (z := 0) dX12_follows_14 rfl ?_
    exact ret dX12_follows_15 (Or.inl rfl) ⟨(Or.inl rfl), _, _, _, _, _, _, _, _, _, _, _, _, _, rfl, h⟩
