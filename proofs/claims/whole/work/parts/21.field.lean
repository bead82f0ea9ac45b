theorem dJ7_fill_53178_0 : decode cJ7_fill_53178 0 = .ok (.iconst 0, 1) := by decide +kernel
theorem dJ7_fill_53178_1 : decode cJ7_fill_53178 1 = .ok (.istore_n 2, 1) := by decide +kernel
theorem dJ7_fill_53178_2 : decode cJ7_fill_53178 2 = .ok (.aload_n 0, 1) := by decide +kernel
theorem dJ7_fill_53178_3 : decode cJ7_fill_53178 3 = .ok (.arraylength, 1) := by decide +kernel
theorem dJ7_fill_53178_4 : decode cJ7_fill_53178 4 = .ok (.istore_n 3, 1) := by decide +kernel
theorem dJ7_fill_53178_5 : decode cJ7_fill_53178 5 = .ok (.iload_n 2, 1) := by decide +kernel
theorem dJ7_fill_53178_6 : decode cJ7_fill_53178 6 = .ok (.iload_n 3, 1) := by decide +kernel
theorem dJ7_fill_53178_7 : decode cJ7_fill_53178 7 = .ok (.if_icmp .ge 13, 3) := by decide +kernel
theorem dJ7_fill_53178_10 : decode cJ7_fill_53178 10 = .ok (.aload_n 0, 1) := by decide +kernel
theorem dJ7_fill_53178_11 : decode cJ7_fill_53178 11 = .ok (.iload_n 2, 1) := by decide +kernel
theorem dJ7_fill_53178_12 : decode cJ7_fill_53178 12 = .ok (.iload_n 1, 1) := by decide +kernel
theorem dJ7_fill_53178_13 : decode cJ7_fill_53178 13 = .ok (.iastore, 1) := by decide +kernel
theorem dJ7_fill_53178_14 : decode cJ7_fill_53178 14 = .ok (.iinc 2 1, 3) := by decide +kernel
theorem dJ7_fill_53178_17 : decode cJ7_fill_53178 17 = .ok (.goto (-12), 3) := by decide +kernel
theorem dJ7_fill_53178_20 : decode cJ7_fill_53178 20 = .ok (.return_, 1) := by decide +kernel
theorem dX2_closeAll_0 : decode cX2_closeAll 0 = .ok (.iconst 0, 1) := by decide +kernel
theorem dX2_closeAll_1 : decode cX2_closeAll 1 = .ok (.istore_n 1, 1) := by decide +kernel
theorem dX2_closeAll_2 : decode cX2_closeAll 2 = .ok (.iload_n 1, 1) := by decide +kernel
theorem dX2_closeAll_3 : decode cX2_closeAll 3 = .ok (.aload_n 0, 1) := by decide +kernel
theorem dX2_closeAll_4 : decode cX2_closeAll 4 = .ok (.getfield 12, 3) := by decide +kernel
theorem dX2_closeAll_7 : decode cX2_closeAll 7 = .ok (.getfield 61, 3) := by decide +kernel
theorem dX2_closeAll_10 : decode cX2_closeAll 10 = .ok (.if_icmp .ge 43, 3) := by decide +kernel
theorem dX2_closeAll_13 : decode cX2_closeAll 13 = .ok (.aload_n 0, 1) := by decide +kernel
theorem dX2_closeAll_14 : decode cX2_closeAll 14 = .ok (.getfield 26, 3) := by decide +kernel
theorem dX2_closeAll_17 : decode cX2_closeAll 17 = .ok (.iload_n 1, 1) := by decide +kernel
theorem dX2_closeAll_18 : decode cX2_closeAll 18 = .ok (.iconst 0, 1) := by decide +kernel
theorem dX2_closeAll_19 : decode cX2_closeAll 19 = .ok (.iastore, 1) := by decide +kernel
theorem dX2_closeAll_20 : decode cX2_closeAll 20 = .ok (.aload_n 0, 1) := by decide +kernel
theorem dX2_closeAll_21 : decode cX2_closeAll 21 = .ok (.getfield 32, 3) := by decide +kernel
theorem dX2_closeAll_24 : decode cX2_closeAll 24 = .ok (.iload_n 1, 1) := by decide +kernel
theorem dX2_closeAll_25 : decode cX2_closeAll 25 = .ok (.aload_n 0, 1) := by decide +kernel
theorem dX2_closeAll_26 : decode cX2_closeAll 26 = .ok (.getfield 12, 3) := by decide +kernel
theorem dX2_closeAll_29 : decode cX2_closeAll 29 = .ok (.getfield 64, 3) := by decide +kernel
theorem dX2_closeAll_32 : decode cX2_closeAll 32 = .ok (.iload_n 1, 1) := by decide +kernel
theorem dX2_closeAll_33 : decode cX2_closeAll 33 = .ok (.iaload, 1) := by decide +kernel
theorem dX2_closeAll_34 : decode cX2_closeAll 34 = .ok (.iload_n 1, 1) := by decide +kernel
theorem dX2_closeAll_35 : decode cX2_closeAll 35 = .ok (.bipush 8, 2) := by decide +kernel
theorem dX2_closeAll_37 : decode cX2_closeAll 37 = .ok (.imul, 1) := by decide +kernel
theorem dX2_closeAll_38 : decode cX2_closeAll 38 = .ok (.isub, 1) := by decide +kernel
theorem dX2_closeAll_39 : decode cX2_closeAll 39 = .ok (.iastore, 1) := by decide +kernel
theorem dX2_closeAll_40 : decode cX2_closeAll 40 = .ok (.aload_n 0, 1) := by decide +kernel
theorem dX2_closeAll_41 : decode cX2_closeAll 41 = .ok (.getfield 35, 3) := by decide +kernel
theorem dX2_closeAll_44 : decode cX2_closeAll 44 = .ok (.iload_n 1, 1) := by decide +kernel
theorem dX2_closeAll_45 : decode cX2_closeAll 45 = .ok (.iconst 0, 1) := by decide +kernel
theorem dX2_closeAll_46 : decode cX2_closeAll 46 = .ok (.iastore, 1) := by decide +kernel
theorem dX2_closeAll_47 : decode cX2_closeAll 47 = .ok (.iinc 1 1, 3) := by decide +kernel
theorem dX2_closeAll_50 : decode cX2_closeAll 50 = .ok (.goto (-48), 3) := by decide +kernel
theorem dX2_closeAll_53 : decode cX2_closeAll 53 = .ok (.aload_n 0, 1) := by decide +kernel
theorem dX2_closeAll_54 : decode cX2_closeAll 54 = .ok (.getfield 29, 3) := by decide +kernel
theorem dX2_closeAll_57 : decode cX2_closeAll 57 = .ok (.iconst 0, 1) := by decide +kernel
theorem dX2_closeAll_58 : decode cX2_closeAll 58 = .ok (.invokestatic 67, 3) := by decide +kernel
theorem dX2_closeAll_61 : decode cX2_closeAll 61 = .ok (.aload_n 0, 1) := by decide +kernel
theorem dX2_closeAll_62 : decode cX2_closeAll 62 = .ok (.getfield 29, 3) := by decide +kernel
theorem dX2_closeAll_65 : decode cX2_closeAll 65 = .ok (.iconst 0, 1) := by decide +kernel
theorem dX2_closeAll_66 : decode cX2_closeAll 66 = .ok (.aload_n 0, 1) := by decide +kernel
theorem dX2_closeAll_67 : decode cX2_closeAll 67 = .ok (.getfield 12, 3) := by decide +kernel
theorem dX2_closeAll_70 : decode cX2_closeAll 70 = .ok (.getfield 61, 3) := by decide +kernel
theorem dX2_closeAll_73 : decode cX2_closeAll 73 = .ok (.iastore, 1) := by decide +kernel
theorem dX2_closeAll_74 : decode cX2_closeAll 74 = .ok (.aload_n 0, 1) := by decide +kernel
theorem dX2_closeAll_75 : decode cX2_closeAll 75 = .ok (.iconst 0, 1) := by decide +kernel
theorem dX2_closeAll_76 : decode cX2_closeAll 76 = .ok (.putfield 73, 3) := by decide +kernel
theorem dX2_closeAll_79 : decode cX2_closeAll 79 = .ok (.aload_n 0, 1) := by decide +kernel
theorem dX2_closeAll_80 : decode cX2_closeAll 80 = .ok (.iconst 0, 1) := by decide +kernel
theorem dX2_closeAll_81 : decode cX2_closeAll 81 = .ok (.putfield 76, 3) := by decide +kernel
theorem dX2_closeAll_84 : decode cX2_closeAll 84 = .ok (.return_, 1) := by decide +kernel
theorem dX2_begin_0 : decode cX2_begin 0 = .ok (.aload_n 0, 1) := by decide +kernel
theorem dX2_begin_1 : decode cX2_begin 1 = .ok (.getfield 12, 3) := by decide +kernel
theorem dX2_begin_4 : decode cX2_begin 4 = .ok (.iload_n 1, 1) := by decide +kernel
theorem dX2_begin_5 : decode cX2_begin 5 = .ok (.iload_n 2, 1) := by decide +kernel
theorem dX2_begin_6 : decode cX2_begin 6 = .ok (.iload_n 3, 1) := by decide +kernel
theorem dX2_begin_7 : decode cX2_begin 7 = .ok (.invokevirtual 50, 3) := by decide +kernel
theorem dX2_begin_10 : decode cX2_begin 10 = .ok (.iconst 0, 1) := by decide +kernel
theorem dX2_begin_11 : decode cX2_begin 11 = .ok (.istore 4, 2) := by decide +kernel
theorem dX2_begin_13 : decode cX2_begin 13 = .ok (.iload 4, 2) := by decide +kernel
theorem dX2_begin_15 : decode cX2_begin 15 = .ok (.sipush 144, 3) := by decide +kernel
theorem dX2_begin_18 : decode cX2_begin 18 = .ok (.if_icmp .ge 25, 3) := by decide +kernel
theorem dX2_begin_21 : decode cX2_begin 21 = .ok (.aload_n 0, 1) := by decide +kernel
theorem dX2_begin_22 : decode cX2_begin 22 = .ok (.getfield 18, 3) := by decide +kernel
theorem dX2_begin_25 : decode cX2_begin 25 = .ok (.iload 4, 2) := by decide +kernel
theorem dX2_begin_27 : decode cX2_begin 27 = .ok (.iconst 0, 1) := by decide +kernel
theorem dX2_begin_28 : decode cX2_begin 28 = .ok (.bastore, 1) := by decide +kernel
theorem dX2_begin_29 : decode cX2_begin 29 = .ok (.aload_n 0, 1) := by decide +kernel
theorem dX2_begin_30 : decode cX2_begin 30 = .ok (.getfield 22, 3) := by decide +kernel
theorem dX2_begin_33 : decode cX2_begin 33 = .ok (.iload 4, 2) := by decide +kernel
theorem dX2_begin_35 : decode cX2_begin 35 = .ok (.iconst 0, 1) := by decide +kernel
theorem dX2_begin_36 : decode cX2_begin 36 = .ok (.iastore, 1) := by decide +kernel
theorem dX2_begin_37 : decode cX2_begin 37 = .ok (.iinc 4 1, 3) := by decide +kernel
theorem dX2_begin_40 : decode cX2_begin 40 = .ok (.goto (-27), 3) := by decide +kernel
theorem dX2_begin_43 : decode cX2_begin 43 = .ok (.aload_n 0, 1) := by decide +kernel
theorem dX2_begin_44 : decode cX2_begin 44 = .ok (.iconst 0, 1) := by decide +kernel
theorem dX2_begin_45 : decode cX2_begin 45 = .ok (.putfield 54, 3) := by decide +kernel
theorem dX2_begin_48 : decode cX2_begin 48 = .ok (.aload_n 0, 1) := by decide +kernel
theorem dX2_begin_49 : decode cX2_begin 49 = .ok (.invokevirtual 58, 3) := by decide +kernel
theorem dX2_begin_52 : decode cX2_begin 52 = .ok (.return_, 1) := by decide +kernel
theorem dX2_setMine_0 : decode cX2_setMine 0 = .ok (.aload_n 0, 1) := by decide +kernel
theorem dX2_setMine_1 : decode cX2_setMine 1 = .ok (.getfield 18, 3) := by decide +kernel
theorem dX2_setMine_4 : decode cX2_setMine 4 = .ok (.iload_n 1, 1) := by decide +kernel
theorem dX2_setMine_5 : decode cX2_setMine 5 = .ok (.baload, 1) := by decide +kernel
theorem dX2_setMine_6 : decode cX2_setMine 6 = .ok (.iload_n 2, 1) := by decide +kernel
theorem dX2_setMine_7 : decode cX2_setMine 7 = .ok (.if_icmp .ne 4, 3) := by decide +kernel
theorem dX2_setMine_10 : decode cX2_setMine 10 = .ok (.return_, 1) := by decide +kernel
theorem dX2_setMine_11 : decode cX2_setMine 11 = .ok (.iload_n 2, 1) := by decide +kernel
theorem dX2_setMine_12 : decode cX2_setMine 12 = .ok (.ifCond .eq 7, 3) := by decide +kernel
theorem dX2_setMine_15 : decode cX2_setMine 15 = .ok (.iconst 1, 1) := by decide +kernel
theorem dX2_setMine_16 : decode cX2_setMine 16 = .ok (.goto 4, 3) := by decide +kernel
theorem dX2_setMine_19 : decode cX2_setMine 19 = .ok (.iconst (-1), 1) := by decide +kernel
theorem dX2_setMine_20 : decode cX2_setMine 20 = .ok (.istore_n 3, 1) := by decide +kernel
theorem dX2_setMine_21 : decode cX2_setMine 21 = .ok (.aload_n 0, 1) := by decide +kernel
theorem dX2_setMine_22 : decode cX2_setMine 22 = .ok (.getfield 18, 3) := by decide +kernel
theorem dX2_setMine_25 : decode cX2_setMine 25 = .ok (.iload_n 1, 1) := by decide +kernel
theorem dX2_setMine_26 : decode cX2_setMine 26 = .ok (.iload_n 2, 1) := by decide +kernel
theorem dX2_setMine_27 : decode cX2_setMine 27 = .ok (.bastore, 1) := by decide +kernel
theorem dX2_setMine_28 : decode cX2_setMine 28 = .ok (.aload_n 0, 1) := by decide +kernel
theorem dX2_setMine_29 : decode cX2_setMine 29 = .ok (.dup, 1) := by decide +kernel
theorem dX2_setMine_30 : decode cX2_setMine 30 = .ok (.getfield 54, 3) := by decide +kernel
theorem dX2_setMine_33 : decode cX2_setMine 33 = .ok (.iload_n 3, 1) := by decide +kernel
theorem dX2_setMine_34 : decode cX2_setMine 34 = .ok (.iadd, 1) := by decide +kernel
theorem dX2_setMine_35 : decode cX2_setMine 35 = .ok (.putfield 54, 3) := by decide +kernel
theorem dX2_setMine_38 : decode cX2_setMine 38 = .ok (.iload_n 1, 1) := by decide +kernel
theorem dX2_setMine_39 : decode cX2_setMine 39 = .ok (.bipush 8, 2) := by decide +kernel
theorem dX2_setMine_41 : decode cX2_setMine 41 = .ok (.imul, 1) := by decide +kernel
theorem dX2_setMine_42 : decode cX2_setMine 42 = .ok (.istore 4, 2) := by decide +kernel
theorem dX2_setMine_44 : decode cX2_setMine 44 = .ok (.iload 4, 2) := by decide +kernel
theorem dX2_setMine_46 : decode cX2_setMine 46 = .ok (.aload_n 0, 1) := by decide +kernel
theorem dX2_setMine_47 : decode cX2_setMine 47 = .ok (.getfield 12, 3) := by decide +kernel
theorem dX2_setMine_50 : decode cX2_setMine 50 = .ok (.getfield 64, 3) := by decide +kernel
theorem dX2_setMine_53 : decode cX2_setMine 53 = .ok (.iload_n 1, 1) := by decide +kernel
theorem dX2_setMine_54 : decode cX2_setMine 54 = .ok (.iaload, 1) := by decide +kernel
theorem dX2_setMine_55 : decode cX2_setMine 55 = .ok (.if_icmp .ge 28, 3) := by decide +kernel
theorem dX2_setMine_58 : decode cX2_setMine 58 = .ok (.aload_n 0, 1) := by decide +kernel
theorem dX2_setMine_59 : decode cX2_setMine 59 = .ok (.getfield 22, 3) := by decide +kernel
theorem dX2_setMine_62 : decode cX2_setMine 62 = .ok (.aload_n 0, 1) := by decide +kernel
theorem dX2_setMine_63 : decode cX2_setMine 63 = .ok (.getfield 12, 3) := by decide +kernel
theorem dX2_setMine_66 : decode cX2_setMine 66 = .ok (.getfield 79, 3) := by decide +kernel
theorem dX2_setMine_69 : decode cX2_setMine 69 = .ok (.iload 4, 2) := by decide +kernel
theorem dX2_setMine_71 : decode cX2_setMine 71 = .ok (.iaload, 1) := by decide +kernel
theorem dX2_setMine_72 : decode cX2_setMine 72 = .ok (.dup2, 1) := by decide +kernel
theorem dX2_setMine_73 : decode cX2_setMine 73 = .ok (.iaload, 1) := by decide +kernel
theorem dX2_setMine_74 : decode cX2_setMine 74 = .ok (.iload_n 3, 1) := by decide +kernel
theorem dX2_setMine_75 : decode cX2_setMine 75 = .ok (.iadd, 1) := by decide +kernel
theorem dX2_setMine_76 : decode cX2_setMine 76 = .ok (.iastore, 1) := by decide +kernel
theorem dX2_setMine_77 : decode cX2_setMine 77 = .ok (.iinc 4 1, 3) := by decide +kernel
theorem dX2_setMine_80 : decode cX2_setMine 80 = .ok (.goto (-36), 3) := by decide +kernel
theorem dX2_setMine_83 : decode cX2_setMine 83 = .ok (.return_, 1) := by decide +kernel
theorem dX2_isUnknown_0 : decode cX2_isUnknown 0 = .ok (.aload_n 0, 1) := by decide +kernel
theorem dX2_isUnknown_1 : decode cX2_isUnknown 1 = .ok (.getfield 26, 3) := by decide +kernel
theorem dX2_isUnknown_4 : decode cX2_isUnknown 4 = .ok (.iload_n 1, 1) := by decide +kernel
theorem dX2_isUnknown_5 : decode cX2_isUnknown 5 = .ok (.iaload, 1) := by decide +kernel
theorem dX2_isUnknown_6 : decode cX2_isUnknown 6 = .ok (.iconst 1, 1) := by decide +kernel
theorem dX2_isUnknown_7 : decode cX2_isUnknown 7 = .ok (.if_icmp .gt 7, 3) := by decide +kernel
theorem dX2_isUnknown_10 : decode cX2_isUnknown 10 = .ok (.iconst 1, 1) := by decide +kernel
theorem dX2_isUnknown_11 : decode cX2_isUnknown 11 = .ok (.goto 4, 3) := by decide +kernel
theorem dX2_isUnknown_14 : decode cX2_isUnknown 14 = .ok (.iconst 0, 1) := by decide +kernel
theorem dX2_isUnknown_15 : decode cX2_isUnknown 15 = .ok (.ireturn, 1) := by decide +kernel
theorem dX2_unknownCells_0 : decode cX2_unknownCells 0 = .ok (.aload_n 0, 1) := by decide +kernel
theorem dX2_unknownCells_1 : decode cX2_unknownCells 1 = .ok (.getfield 29, 3) := by decide +kernel
theorem dX2_unknownCells_4 : decode cX2_unknownCells 4 = .ok (.iconst 0, 1) := by decide +kernel
theorem dX2_unknownCells_5 : decode cX2_unknownCells 5 = .ok (.iaload, 1) := by decide +kernel
theorem dX2_unknownCells_6 : decode cX2_unknownCells 6 = .ok (.aload_n 0, 1) := by decide +kernel
theorem dX2_unknownCells_7 : decode cX2_unknownCells 7 = .ok (.getfield 29, 3) := by decide +kernel
theorem dX2_unknownCells_10 : decode cX2_unknownCells 10 = .ok (.iconst 1, 1) := by decide +kernel
theorem dX2_unknownCells_11 : decode cX2_unknownCells 11 = .ok (.iaload, 1) := by decide +kernel
theorem dX2_unknownCells_12 : decode cX2_unknownCells 12 = .ok (.iadd, 1) := by decide +kernel
theorem dX2_unknownCells_13 : decode cX2_unknownCells 13 = .ok (.ireturn, 1) := by decide +kernel
theorem dX2_minesLeft_0 : decode cX2_minesLeft 0 = .ok (.aload_n 0, 1) := by decide +kernel
theorem dX2_minesLeft_1 : decode cX2_minesLeft 1 = .ok (.getfield 54, 3) := by decide +kernel
theorem dX2_minesLeft_4 : decode cX2_minesLeft 4 = .ok (.aload_n 0, 1) := by decide +kernel
theorem dX2_minesLeft_5 : decode cX2_minesLeft 5 = .ok (.getfield 29, 3) := by decide +kernel
theorem dX2_minesLeft_8 : decode cX2_minesLeft 8 = .ok (.iconst 3, 1) := by decide +kernel
theorem dX2_minesLeft_9 : decode cX2_minesLeft 9 = .ok (.iaload, 1) := by decide +kernel
theorem dX2_minesLeft_10 : decode cX2_minesLeft 10 = .ok (.isub, 1) := by decide +kernel
theorem dX2_minesLeft_11 : decode cX2_minesLeft 11 = .ok (.ireturn, 1) := by decide +kernel
theorem dX2_lives_0 : decode cX2_lives 0 = .ok (.iconst 3, 1) := by decide +kernel
theorem dX2_lives_1 : decode cX2_lives 1 = .ok (.aload_n 0, 1) := by decide +kernel
theorem dX2_lives_2 : decode cX2_lives 2 = .ok (.getfield 29, 3) := by decide +kernel
theorem dX2_lives_5 : decode cX2_lives 5 = .ok (.iconst 3, 1) := by decide +kernel
theorem dX2_lives_6 : decode cX2_lives 6 = .ok (.iaload, 1) := by decide +kernel
theorem dX2_lives_7 : decode cX2_lives 7 = .ok (.isub, 1) := by decide +kernel
theorem dX2_lives_8 : decode cX2_lives 8 = .ok (.ireturn, 1) := by decide +kernel
theorem dX2_isSolved_0 : decode cX2_isSolved 0 = .ok (.aload_n 0, 1) := by decide +kernel
theorem dX2_isSolved_1 : decode cX2_isSolved 1 = .ok (.getfield 29, 3) := by decide +kernel
theorem dX2_isSolved_4 : decode cX2_isSolved 4 = .ok (.iconst 2, 1) := by decide +kernel
theorem dX2_isSolved_5 : decode cX2_isSolved 5 = .ok (.iaload, 1) := by decide +kernel
theorem dX2_isSolved_6 : decode cX2_isSolved 6 = .ok (.aload_n 0, 1) := by decide +kernel
theorem dX2_isSolved_7 : decode cX2_isSolved 7 = .ok (.getfield 12, 3) := by decide +kernel
theorem dX2_isSolved_10 : decode cX2_isSolved 10 = .ok (.getfield 61, 3) := by decide +kernel
theorem dX2_isSolved_13 : decode cX2_isSolved 13 = .ok (.aload_n 0, 1) := by decide +kernel
theorem dX2_isSolved_14 : decode cX2_isSolved 14 = .ok (.getfield 54, 3) := by decide +kernel
theorem dX2_isSolved_17 : decode cX2_isSolved 17 = .ok (.isub, 1) := by decide +kernel
theorem dX2_isSolved_18 : decode cX2_isSolved 18 = .ok (.if_icmp .ne 7, 3) := by decide +kernel
theorem dX2_isSolved_21 : decode cX2_isSolved 21 = .ok (.iconst 1, 1) := by decide +kernel
theorem dX2_isSolved_22 : decode cX2_isSolved 22 = .ok (.goto 4, 3) := by decide +kernel
theorem dX2_isSolved_25 : decode cX2_isSolved 25 = .ok (.iconst 0, 1) := by decide +kernel
theorem dX2_isSolved_26 : decode cX2_isSolved 26 = .ok (.ireturn, 1) := by decide +kernel
theorem dX2_allowsMove_0 : decode cX2_allowsMove 0 = .ok (.aload_n 0, 1) := by decide +kernel
theorem dX2_allowsMove_1 : decode cX2_allowsMove 1 = .ok (.invokevirtual 82, 3) := by decide +kernel
theorem dX2_allowsMove_4 : decode cX2_allowsMove 4 = .ok (.ifCond .le 17, 3) := by decide +kernel
theorem dX2_allowsMove_7 : decode cX2_allowsMove 7 = .ok (.aload_n 0, 1) := by decide +kernel
theorem dX2_allowsMove_8 : decode cX2_allowsMove 8 = .ok (.getfield 73, 3) := by decide +kernel
theorem dX2_allowsMove_11 : decode cX2_allowsMove 11 = .ok (.sipush 512, 3) := by decide +kernel
theorem dX2_allowsMove_14 : decode cX2_allowsMove 14 = .ok (.if_icmp .ge 7, 3) := by decide +kernel
theorem dX2_allowsMove_17 : decode cX2_allowsMove 17 = .ok (.iconst 1, 1) := by decide +kernel
theorem dX2_allowsMove_18 : decode cX2_allowsMove 18 = .ok (.goto 4, 3) := by decide +kernel
theorem dX2_allowsMove_21 : decode cX2_allowsMove 21 = .ok (.iconst 0, 1) := by decide +kernel
theorem dX2_allowsMove_22 : decode cX2_allowsMove 22 = .ok (.ireturn, 1) := by decide +kernel
theorem dX2_isReadyToChord_0 : decode cX2_isReadyToChord 0 = .ok (.aload_n 0, 1) := by decide +kernel
theorem dX2_isReadyToChord_1 : decode cX2_isReadyToChord 1 = .ok (.getfield 26, 3) := by decide +kernel
theorem dX2_isReadyToChord_4 : decode cX2_isReadyToChord 4 = .ok (.iload_n 1, 1) := by decide +kernel
theorem dX2_isReadyToChord_5 : decode cX2_isReadyToChord 5 = .ok (.iaload, 1) := by decide +kernel
theorem dX2_isReadyToChord_6 : decode cX2_isReadyToChord 6 = .ok (.iconst 2, 1) := by decide +kernel
theorem dX2_isReadyToChord_7 : decode cX2_isReadyToChord 7 = .ok (.if_icmp .eq 5, 3) := by decide +kernel
theorem dX2_isReadyToChord_10 : decode cX2_isReadyToChord 10 = .ok (.iconst 0, 1) := by decide +kernel
theorem dX2_isReadyToChord_11 : decode cX2_isReadyToChord 11 = .ok (.ireturn, 1) := by decide +kernel
theorem dX2_isReadyToChord_12 : decode cX2_isReadyToChord 12 = .ok (.iconst 0, 1) := by decide +kernel
theorem dX2_isReadyToChord_13 : decode cX2_isReadyToChord 13 = .ok (.istore_n 2, 1) := by decide +kernel
theorem dX2_isReadyToChord_14 : decode cX2_isReadyToChord 14 = .ok (.iload_n 1, 1) := by decide +kernel
theorem dX2_isReadyToChord_15 : decode cX2_isReadyToChord 15 = .ok (.bipush 8, 2) := by decide +kernel
theorem dX2_isReadyToChord_17 : decode cX2_isReadyToChord 17 = .ok (.imul, 1) := by decide +kernel
theorem dX2_isReadyToChord_18 : decode cX2_isReadyToChord 18 = .ok (.istore_n 3, 1) := by decide +kernel
theorem dX2_isReadyToChord_19 : decode cX2_isReadyToChord 19 = .ok (.iload_n 3, 1) := by decide +kernel
theorem dX2_isReadyToChord_20 : decode cX2_isReadyToChord 20 = .ok (.aload_n 0, 1) := by decide +kernel
theorem dX2_isReadyToChord_21 : decode cX2_isReadyToChord 21 = .ok (.getfield 12, 3) := by decide +kernel
theorem dX2_isReadyToChord_24 : decode cX2_isReadyToChord 24 = .ok (.getfield 64, 3) := by decide +kernel
theorem dX2_isReadyToChord_27 : decode cX2_isReadyToChord 27 = .ok (.iload_n 1, 1) := by decide +kernel
theorem dX2_isReadyToChord_28 : decode cX2_isReadyToChord 28 = .ok (.iaload, 1) := by decide +kernel
theorem dX2_isReadyToChord_29 : decode cX2_isReadyToChord 29 = .ok (.if_icmp .ge 30, 3) := by decide +kernel
theorem dX2_isReadyToChord_32 : decode cX2_isReadyToChord 32 = .ok (.aload_n 0, 1) := by decide +kernel
theorem dX2_isReadyToChord_33 : decode cX2_isReadyToChord 33 = .ok (.getfield 26, 3) := by decide +kernel
theorem dX2_isReadyToChord_36 : decode cX2_isReadyToChord 36 = .ok (.aload_n 0, 1) := by decide +kernel
theorem dX2_isReadyToChord_37 : decode cX2_isReadyToChord 37 = .ok (.getfield 12, 3) := by decide +kernel
theorem dX2_isReadyToChord_40 : decode cX2_isReadyToChord 40 = .ok (.getfield 79, 3) := by decide +kernel
theorem dX2_isReadyToChord_43 : decode cX2_isReadyToChord 43 = .ok (.iload_n 3, 1) := by decide +kernel
theorem dX2_isReadyToChord_44 : decode cX2_isReadyToChord 44 = .ok (.iaload, 1) := by decide +kernel
theorem dX2_isReadyToChord_45 : decode cX2_isReadyToChord 45 = .ok (.iaload, 1) := by decide +kernel
theorem dX2_isReadyToChord_46 : decode cX2_isReadyToChord 46 = .ok (.iconst 1, 1) := by decide +kernel
theorem dX2_isReadyToChord_47 : decode cX2_isReadyToChord 47 = .ok (.if_icmp .ne 6, 3) := by decide +kernel
theorem dX2_isReadyToChord_50 : decode cX2_isReadyToChord 50 = .ok (.iinc 2 1, 3) := by decide +kernel
theorem dX2_isReadyToChord_53 : decode cX2_isReadyToChord 53 = .ok (.iinc 3 1, 3) := by decide +kernel
theorem dX2_isReadyToChord_56 : decode cX2_isReadyToChord 56 = .ok (.goto (-37), 3) := by decide +kernel
theorem dX2_isReadyToChord_59 : decode cX2_isReadyToChord 59 = .ok (.iload_n 2, 1) := by decide +kernel
theorem dX2_isReadyToChord_60 : decode cX2_isReadyToChord 60 = .ok (.aload_n 0, 1) := by decide +kernel
theorem dX2_isReadyToChord_61 : decode cX2_isReadyToChord 61 = .ok (.getfield 32, 3) := by decide +kernel
theorem dX2_isReadyToChord_64 : decode cX2_isReadyToChord 64 = .ok (.iload_n 1, 1) := by decide +kernel
theorem dX2_isReadyToChord_65 : decode cX2_isReadyToChord 65 = .ok (.iaload, 1) := by decide +kernel
theorem dX2_isReadyToChord_66 : decode cX2_isReadyToChord 66 = .ok (.if_icmp .ge 24, 3) := by decide +kernel
theorem dX2_isReadyToChord_69 : decode cX2_isReadyToChord 69 = .ok (.iload_n 2, 1) := by decide +kernel
theorem dX2_isReadyToChord_70 : decode cX2_isReadyToChord 70 = .ok (.aload_n 0, 1) := by decide +kernel
theorem dX2_isReadyToChord_71 : decode cX2_isReadyToChord 71 = .ok (.getfield 35, 3) := by decide +kernel
theorem dX2_isReadyToChord_74 : decode cX2_isReadyToChord 74 = .ok (.iload_n 1, 1) := by decide +kernel
theorem dX2_isReadyToChord_75 : decode cX2_isReadyToChord 75 = .ok (.iaload, 1) := by decide +kernel
theorem dX2_isReadyToChord_76 : decode cX2_isReadyToChord 76 = .ok (.iadd, 1) := by decide +kernel
theorem dX2_isReadyToChord_77 : decode cX2_isReadyToChord 77 = .ok (.aload_n 0, 1) := by decide +kernel
theorem dX2_isReadyToChord_78 : decode cX2_isReadyToChord 78 = .ok (.getfield 22, 3) := by decide +kernel
theorem dX2_isReadyToChord_81 : decode cX2_isReadyToChord 81 = .ok (.iload_n 1, 1) := by decide +kernel
theorem dX2_isReadyToChord_82 : decode cX2_isReadyToChord 82 = .ok (.iaload, 1) := by decide +kernel
theorem dX2_isReadyToChord_83 : decode cX2_isReadyToChord 83 = .ok (.if_icmp .ne 7, 3) := by decide +kernel
theorem dX2_isReadyToChord_86 : decode cX2_isReadyToChord 86 = .ok (.iconst 1, 1) := by decide +kernel
theorem dX2_isReadyToChord_87 : decode cX2_isReadyToChord 87 = .ok (.goto 4, 3) := by decide +kernel
theorem dX2_isReadyToChord_90 : decode cX2_isReadyToChord 90 = .ok (.iconst 0, 1) := by decide +kernel
theorem dX2_isReadyToChord_91 : decode cX2_isReadyToChord 91 = .ok (.ireturn, 1) := by decide +kernel
theorem dX2_beginMove_0 : decode cX2_beginMove 0 = .ok (.aload_n 0, 1) := by decide +kernel
theorem dX2_beginMove_1 : decode cX2_beginMove 1 = .ok (.getfield 73, 3) := by decide +kernel
theorem dX2_beginMove_4 : decode cX2_beginMove 4 = .ok (.sipush 512, 3) := by decide +kernel
theorem dX2_beginMove_7 : decode cX2_beginMove 7 = .ok (.if_icmp .ge 26, 3) := by decide +kernel
theorem dX2_beginMove_10 : decode cX2_beginMove 10 = .ok (.aload_n 0, 1) := by decide +kernel
theorem dX2_beginMove_11 : decode cX2_beginMove 11 = .ok (.getfield 38, 3) := by decide +kernel
theorem dX2_beginMove_14 : decode cX2_beginMove 14 = .ok (.aload_n 0, 1) := by decide +kernel
theorem dX2_beginMove_15 : decode cX2_beginMove 15 = .ok (.getfield 73, 3) := by decide +kernel
theorem dX2_beginMove_18 : decode cX2_beginMove 18 = .ok (.aload_n 0, 1) := by decide +kernel
theorem dX2_beginMove_19 : decode cX2_beginMove 19 = .ok (.getfield 76, 3) := by decide +kernel
theorem dX2_beginMove_22 : decode cX2_beginMove 22 = .ok (.iastore, 1) := by decide +kernel
theorem dX2_beginMove_23 : decode cX2_beginMove 23 = .ok (.aload_n 0, 1) := by decide +kernel
theorem dX2_beginMove_24 : decode cX2_beginMove 24 = .ok (.dup, 1) := by decide +kernel
theorem dX2_beginMove_25 : decode cX2_beginMove 25 = .ok (.getfield 73, 3) := by decide +kernel
theorem dX2_beginMove_28 : decode cX2_beginMove 28 = .ok (.iconst 1, 1) := by decide +kernel
theorem dX2_beginMove_29 : decode cX2_beginMove 29 = .ok (.iadd, 1) := by decide +kernel
theorem dX2_beginMove_30 : decode cX2_beginMove 30 = .ok (.putfield 73, 3) := by decide +kernel
theorem dX2_beginMove_33 : decode cX2_beginMove 33 = .ok (.return_, 1) := by decide +kernel
theorem dX2_put_0 : decode cX2_put 0 = .ok (.aload_n 0, 1) := by decide +kernel
theorem dX2_put_1 : decode cX2_put 1 = .ok (.getfield 26, 3) := by decide +kernel
theorem dX2_put_4 : decode cX2_put 4 = .ok (.iload_n 1, 1) := by decide +kernel
theorem dX2_put_5 : decode cX2_put 5 = .ok (.iaload, 1) := by decide +kernel
theorem dX2_put_6 : decode cX2_put 6 = .ok (.istore_n 3, 1) := by decide +kernel
theorem dX2_put_7 : decode cX2_put 7 = .ok (.aload_n 0, 1) := by decide +kernel
theorem dX2_put_8 : decode cX2_put 8 = .ok (.getfield 29, 3) := by decide +kernel
theorem dX2_put_11 : decode cX2_put 11 = .ok (.iload_n 3, 1) := by decide +kernel
theorem dX2_put_12 : decode cX2_put 12 = .ok (.dup2, 1) := by decide +kernel
theorem dX2_put_13 : decode cX2_put 13 = .ok (.iaload, 1) := by decide +kernel
theorem dX2_put_14 : decode cX2_put 14 = .ok (.iconst 1, 1) := by decide +kernel
theorem dX2_put_15 : decode cX2_put 15 = .ok (.isub, 1) := by decide +kernel
theorem dX2_put_16 : decode cX2_put 16 = .ok (.iastore, 1) := by decide +kernel
theorem dX2_put_17 : decode cX2_put 17 = .ok (.aload_n 0, 1) := by decide +kernel
theorem dX2_put_18 : decode cX2_put 18 = .ok (.getfield 29, 3) := by decide +kernel
theorem dX2_put_21 : decode cX2_put 21 = .ok (.iload_n 2, 1) := by decide +kernel
theorem dX2_put_22 : decode cX2_put 22 = .ok (.dup2, 1) := by decide +kernel
theorem dX2_put_23 : decode cX2_put 23 = .ok (.iaload, 1) := by decide +kernel
theorem dX2_put_24 : decode cX2_put 24 = .ok (.iconst 1, 1) := by decide +kernel
theorem dX2_put_25 : decode cX2_put 25 = .ok (.iadd, 1) := by decide +kernel
theorem dX2_put_26 : decode cX2_put 26 = .ok (.iastore, 1) := by decide +kernel
theorem dX2_put_27 : decode cX2_put 27 = .ok (.aload_n 0, 1) := by decide +kernel
theorem dX2_put_28 : decode cX2_put 28 = .ok (.getfield 26, 3) := by decide +kernel
theorem dX2_put_31 : decode cX2_put 31 = .ok (.iload_n 1, 1) := by decide +kernel
theorem dX2_put_32 : decode cX2_put 32 = .ok (.iload_n 2, 1) := by decide +kernel
theorem dX2_put_33 : decode cX2_put 33 = .ok (.iastore, 1) := by decide +kernel
theorem dX2_put_34 : decode cX2_put 34 = .ok (.iload_n 2, 1) := by decide +kernel
theorem dX2_put_35 : decode cX2_put 35 = .ok (.iconst 1, 1) := by decide +kernel
theorem dX2_put_36 : decode cX2_put 36 = .ok (.if_icmp .gt 7, 3) := by decide +kernel
theorem dX2_put_39 : decode cX2_put 39 = .ok (.iconst 1, 1) := by decide +kernel
theorem dX2_put_40 : decode cX2_put 40 = .ok (.goto 4, 3) := by decide +kernel
theorem dX2_put_43 : decode cX2_put 43 = .ok (.iconst 0, 1) := by decide +kernel
theorem dX2_put_44 : decode cX2_put 44 = .ok (.iload_n 3, 1) := by decide +kernel
theorem dX2_put_45 : decode cX2_put 45 = .ok (.iconst 1, 1) := by decide +kernel
theorem dX2_put_46 : decode cX2_put 46 = .ok (.if_icmp .gt 7, 3) := by decide +kernel
theorem dX2_put_49 : decode cX2_put 49 = .ok (.iconst 1, 1) := by decide +kernel
theorem dX2_put_50 : decode cX2_put 50 = .ok (.goto 4, 3) := by decide +kernel
theorem dX2_put_53 : decode cX2_put 53 = .ok (.iconst 0, 1) := by decide +kernel
theorem dX2_put_54 : decode cX2_put 54 = .ok (.isub, 1) := by decide +kernel
theorem dX2_put_55 : decode cX2_put 55 = .ok (.istore 4, 2) := by decide +kernel
theorem dX2_put_57 : decode cX2_put 57 = .ok (.iload_n 2, 1) := by decide +kernel
theorem dX2_put_58 : decode cX2_put 58 = .ok (.iconst 3, 1) := by decide +kernel
theorem dX2_put_59 : decode cX2_put 59 = .ok (.if_icmp .ne 7, 3) := by decide +kernel
theorem dX2_put_62 : decode cX2_put 62 = .ok (.iconst 1, 1) := by decide +kernel
theorem dX2_put_63 : decode cX2_put 63 = .ok (.goto 4, 3) := by decide +kernel
theorem dX2_put_66 : decode cX2_put 66 = .ok (.iconst 0, 1) := by decide +kernel
theorem dX2_put_67 : decode cX2_put 67 = .ok (.iload_n 3, 1) := by decide +kernel
theorem dX2_put_68 : decode cX2_put 68 = .ok (.iconst 3, 1) := by decide +kernel
theorem dX2_put_69 : decode cX2_put 69 = .ok (.if_icmp .ne 7, 3) := by decide +kernel
theorem dX2_put_72 : decode cX2_put 72 = .ok (.iconst 1, 1) := by decide +kernel
theorem dX2_put_73 : decode cX2_put 73 = .ok (.goto 4, 3) := by decide +kernel
theorem dX2_put_76 : decode cX2_put 76 = .ok (.iconst 0, 1) := by decide +kernel
theorem dX2_put_77 : decode cX2_put 77 = .ok (.isub, 1) := by decide +kernel
theorem dX2_put_78 : decode cX2_put 78 = .ok (.istore 5, 2) := by decide +kernel
theorem dX2_put_80 : decode cX2_put 80 = .ok (.iload 4, 2) := by decide +kernel
theorem dX2_put_82 : decode cX2_put 82 = .ok (.ifCond .ne 9, 3) := by decide +kernel
theorem dX2_put_85 : decode cX2_put 85 = .ok (.iload 5, 2) := by decide +kernel
theorem dX2_put_87 : decode cX2_put 87 = .ok (.ifCond .ne 4, 3) := by decide +kernel
theorem dX2_put_90 : decode cX2_put 90 = .ok (.return_, 1) := by decide +kernel
theorem dX2_put_91 : decode cX2_put 91 = .ok (.iload_n 1, 1) := by decide +kernel
theorem dX2_put_92 : decode cX2_put 92 = .ok (.bipush 8, 2) := by decide +kernel
theorem dX2_put_94 : decode cX2_put 94 = .ok (.imul, 1) := by decide +kernel
theorem dX2_put_95 : decode cX2_put 95 = .ok (.istore 6, 2) := by decide +kernel
theorem dX2_put_97 : decode cX2_put 97 = .ok (.iload 6, 2) := by decide +kernel
theorem dX2_put_99 : decode cX2_put 99 = .ok (.aload_n 0, 1) := by decide +kernel
theorem dX2_put_100 : decode cX2_put 100 = .ok (.getfield 12, 3) := by decide +kernel
theorem dX2_put_103 : decode cX2_put 103 = .ok (.getfield 64, 3) := by decide +kernel
theorem dX2_put_106 : decode cX2_put 106 = .ok (.iload_n 1, 1) := by decide +kernel
theorem dX2_put_107 : decode cX2_put 107 = .ok (.iaload, 1) := by decide +kernel
theorem dX2_put_108 : decode cX2_put 108 = .ok (.if_icmp .ge 49, 3) := by decide +kernel
theorem dX2_put_111 : decode cX2_put 111 = .ok (.aload_n 0, 1) := by decide +kernel
theorem dX2_put_112 : decode cX2_put 112 = .ok (.getfield 32, 3) := by decide +kernel
theorem dX2_put_115 : decode cX2_put 115 = .ok (.aload_n 0, 1) := by decide +kernel
theorem dX2_put_116 : decode cX2_put 116 = .ok (.getfield 12, 3) := by decide +kernel
theorem dX2_put_119 : decode cX2_put 119 = .ok (.getfield 79, 3) := by decide +kernel
theorem dX2_put_122 : decode cX2_put 122 = .ok (.iload 6, 2) := by decide +kernel
theorem dX2_put_124 : decode cX2_put 124 = .ok (.iaload, 1) := by decide +kernel
theorem dX2_put_125 : decode cX2_put 125 = .ok (.dup2, 1) := by decide +kernel
theorem dX2_put_126 : decode cX2_put 126 = .ok (.iaload, 1) := by decide +kernel
theorem dX2_put_127 : decode cX2_put 127 = .ok (.iload 4, 2) := by decide +kernel
theorem dX2_put_129 : decode cX2_put 129 = .ok (.iadd, 1) := by decide +kernel
theorem dX2_put_130 : decode cX2_put 130 = .ok (.iastore, 1) := by decide +kernel
theorem dX2_put_131 : decode cX2_put 131 = .ok (.aload_n 0, 1) := by decide +kernel
theorem dX2_put_132 : decode cX2_put 132 = .ok (.getfield 35, 3) := by decide +kernel
theorem dX2_put_135 : decode cX2_put 135 = .ok (.aload_n 0, 1) := by decide +kernel
theorem dX2_put_136 : decode cX2_put 136 = .ok (.getfield 12, 3) := by decide +kernel
theorem dX2_put_139 : decode cX2_put 139 = .ok (.getfield 79, 3) := by decide +kernel
theorem dX2_put_142 : decode cX2_put 142 = .ok (.iload 6, 2) := by decide +kernel
theorem dX2_put_144 : decode cX2_put 144 = .ok (.iaload, 1) := by decide +kernel
theorem dX2_put_145 : decode cX2_put 145 = .ok (.dup2, 1) := by decide +kernel
theorem dX2_put_146 : decode cX2_put 146 = .ok (.iaload, 1) := by decide +kernel
theorem dX2_put_147 : decode cX2_put 147 = .ok (.iload 5, 2) := by decide +kernel
theorem dX2_put_149 : decode cX2_put 149 = .ok (.iadd, 1) := by decide +kernel
theorem dX2_put_150 : decode cX2_put 150 = .ok (.iastore, 1) := by decide +kernel
theorem dX2_put_151 : decode cX2_put 151 = .ok (.iinc 6 1, 3) := by decide +kernel
theorem dX2_put_154 : decode cX2_put 154 = .ok (.goto (-57), 3) := by decide +kernel
theorem dX2_put_157 : decode cX2_put 157 = .ok (.return_, 1) := by decide +kernel
theorem dX2_takeBackMove_0 : decode cX2_takeBackMove 0 = .ok (.aload_n 0, 1) := by decide +kernel
theorem dX2_takeBackMove_1 : decode cX2_takeBackMove 1 = .ok (.getfield 73, 3) := by decide +kernel
theorem dX2_takeBackMove_4 : decode cX2_takeBackMove 4 = .ok (.ifCond .gt 4, 3) := by decide +kernel
theorem dX2_takeBackMove_7 : decode cX2_takeBackMove 7 = .ok (.return_, 1) := by decide +kernel
theorem dX2_takeBackMove_8 : decode cX2_takeBackMove 8 = .ok (.aload_n 0, 1) := by decide +kernel
theorem dX2_takeBackMove_9 : decode cX2_takeBackMove 9 = .ok (.dup, 1) := by decide +kernel
theorem dX2_takeBackMove_10 : decode cX2_takeBackMove 10 = .ok (.getfield 73, 3) := by decide +kernel
theorem dX2_takeBackMove_13 : decode cX2_takeBackMove 13 = .ok (.iconst 1, 1) := by decide +kernel
theorem dX2_takeBackMove_14 : decode cX2_takeBackMove 14 = .ok (.isub, 1) := by decide +kernel
theorem dX2_takeBackMove_15 : decode cX2_takeBackMove 15 = .ok (.putfield 73, 3) := by decide +kernel
theorem dX2_takeBackMove_18 : decode cX2_takeBackMove 18 = .ok (.aload_n 0, 1) := by decide +kernel
theorem dX2_takeBackMove_19 : decode cX2_takeBackMove 19 = .ok (.getfield 76, 3) := by decide +kernel
theorem dX2_takeBackMove_22 : decode cX2_takeBackMove 22 = .ok (.iconst 1, 1) := by decide +kernel
theorem dX2_takeBackMove_23 : decode cX2_takeBackMove 23 = .ok (.isub, 1) := by decide +kernel
theorem dX2_takeBackMove_24 : decode cX2_takeBackMove 24 = .ok (.istore_n 1, 1) := by decide +kernel
theorem dX2_takeBackMove_25 : decode cX2_takeBackMove 25 = .ok (.iload_n 1, 1) := by decide +kernel
theorem dX2_takeBackMove_26 : decode cX2_takeBackMove 26 = .ok (.aload_n 0, 1) := by decide +kernel
theorem dX2_takeBackMove_27 : decode cX2_takeBackMove 27 = .ok (.getfield 38, 3) := by decide +kernel
theorem dX2_takeBackMove_30 : decode cX2_takeBackMove 30 = .ok (.aload_n 0, 1) := by decide +kernel
theorem dX2_takeBackMove_31 : decode cX2_takeBackMove 31 = .ok (.getfield 73, 3) := by decide +kernel
theorem dX2_takeBackMove_34 : decode cX2_takeBackMove 34 = .ok (.iaload, 1) := by decide +kernel
theorem dX2_takeBackMove_35 : decode cX2_takeBackMove 35 = .ok (.if_icmp .lt 29, 3) := by decide +kernel
theorem dX2_takeBackMove_38 : decode cX2_takeBackMove 38 = .ok (.aload_n 0, 1) := by decide +kernel
theorem dX2_takeBackMove_39 : decode cX2_takeBackMove 39 = .ok (.aload_n 0, 1) := by decide +kernel
theorem dX2_takeBackMove_40 : decode cX2_takeBackMove 40 = .ok (.getfield 41, 3) := by decide +kernel
theorem dX2_takeBackMove_43 : decode cX2_takeBackMove 43 = .ok (.iload_n 1, 1) := by decide +kernel
theorem dX2_takeBackMove_44 : decode cX2_takeBackMove 44 = .ok (.iaload, 1) := by decide +kernel
theorem dX2_takeBackMove_45 : decode cX2_takeBackMove 45 = .ok (.iconst 4, 1) := by decide +kernel
theorem dX2_takeBackMove_46 : decode cX2_takeBackMove 46 = .ok (.idiv, 1) := by decide +kernel
theorem dX2_takeBackMove_47 : decode cX2_takeBackMove 47 = .ok (.aload_n 0, 1) := by decide +kernel
theorem dX2_takeBackMove_48 : decode cX2_takeBackMove 48 = .ok (.getfield 41, 3) := by decide +kernel
theorem dX2_takeBackMove_51 : decode cX2_takeBackMove 51 = .ok (.iload_n 1, 1) := by decide +kernel
theorem dX2_takeBackMove_52 : decode cX2_takeBackMove 52 = .ok (.iaload, 1) := by decide +kernel
theorem dX2_takeBackMove_53 : decode cX2_takeBackMove 53 = .ok (.iconst 4, 1) := by decide +kernel
theorem dX2_takeBackMove_54 : decode cX2_takeBackMove 54 = .ok (.irem, 1) := by decide +kernel
theorem dX2_takeBackMove_55 : decode cX2_takeBackMove 55 = .ok (.invokevirtual 86, 3) := by decide +kernel
theorem dX2_takeBackMove_58 : decode cX2_takeBackMove 58 = .ok (.iinc 1 (-1), 3) := by decide +kernel
theorem dX2_takeBackMove_61 : decode cX2_takeBackMove 61 = .ok (.goto (-36), 3) := by decide +kernel
theorem dX2_takeBackMove_64 : decode cX2_takeBackMove 64 = .ok (.aload_n 0, 1) := by decide +kernel
theorem dX2_takeBackMove_65 : decode cX2_takeBackMove 65 = .ok (.aload_n 0, 1) := by decide +kernel
theorem dX2_takeBackMove_66 : decode cX2_takeBackMove 66 = .ok (.getfield 38, 3) := by decide +kernel
theorem dX2_takeBackMove_69 : decode cX2_takeBackMove 69 = .ok (.aload_n 0, 1) := by decide +kernel
theorem dX2_takeBackMove_70 : decode cX2_takeBackMove 70 = .ok (.getfield 73, 3) := by decide +kernel
theorem dX2_takeBackMove_73 : decode cX2_takeBackMove 73 = .ok (.iaload, 1) := by decide +kernel
theorem dX2_takeBackMove_74 : decode cX2_takeBackMove 74 = .ok (.putfield 76, 3) := by decide +kernel
theorem dX2_takeBackMove_77 : decode cX2_takeBackMove 77 = .ok (.return_, 1) := by decide +kernel
theorem dX2_change_0 : decode cX2_change 0 = .ok (.aload_n 0, 1) := by decide +kernel
theorem dX2_change_1 : decode cX2_change 1 = .ok (.getfield 76, 3) := by decide +kernel
theorem dX2_change_4 : decode cX2_change 4 = .ok (.sipush 656, 3) := by decide +kernel
theorem dX2_change_7 : decode cX2_change 7 = .ok (.if_icmp .ge 38, 3) := by decide +kernel
theorem dX2_change_10 : decode cX2_change 10 = .ok (.aload_n 0, 1) := by decide +kernel
theorem dX2_change_11 : decode cX2_change 11 = .ok (.getfield 41, 3) := by decide +kernel
theorem dX2_change_14 : decode cX2_change 14 = .ok (.aload_n 0, 1) := by decide +kernel
theorem dX2_change_15 : decode cX2_change 15 = .ok (.getfield 76, 3) := by decide +kernel
theorem dX2_change_18 : decode cX2_change 18 = .ok (.iload_n 1, 1) := by decide +kernel
theorem dX2_change_19 : decode cX2_change 19 = .ok (.iconst 4, 1) := by decide +kernel
theorem dX2_change_20 : decode cX2_change 20 = .ok (.imul, 1) := by decide +kernel
theorem dX2_change_21 : decode cX2_change 21 = .ok (.aload_n 0, 1) := by decide +kernel
theorem dX2_change_22 : decode cX2_change 22 = .ok (.getfield 26, 3) := by decide +kernel
theorem dX2_change_25 : decode cX2_change 25 = .ok (.iload_n 1, 1) := by decide +kernel
theorem dX2_change_26 : decode cX2_change 26 = .ok (.iaload, 1) := by decide +kernel
theorem dX2_change_27 : decode cX2_change 27 = .ok (.iadd, 1) := by decide +kernel
theorem dX2_change_28 : decode cX2_change 28 = .ok (.iastore, 1) := by decide +kernel
theorem dX2_change_29 : decode cX2_change 29 = .ok (.aload_n 0, 1) := by decide +kernel
theorem dX2_change_30 : decode cX2_change 30 = .ok (.dup, 1) := by decide +kernel
theorem dX2_change_31 : decode cX2_change 31 = .ok (.getfield 76, 3) := by decide +kernel
theorem dX2_change_34 : decode cX2_change 34 = .ok (.iconst 1, 1) := by decide +kernel
theorem dX2_change_35 : decode cX2_change 35 = .ok (.iadd, 1) := by decide +kernel
theorem dX2_change_36 : decode cX2_change 36 = .ok (.putfield 76, 3) := by decide +kernel
theorem dX2_change_39 : decode cX2_change 39 = .ok (.aload_n 0, 1) := by decide +kernel
theorem dX2_change_40 : decode cX2_change 40 = .ok (.iload_n 1, 1) := by decide +kernel
theorem dX2_change_41 : decode cX2_change 41 = .ok (.iload_n 2, 1) := by decide +kernel
theorem dX2_change_42 : decode cX2_change 42 = .ok (.invokevirtual 86, 3) := by decide +kernel
theorem dX2_change_45 : decode cX2_change 45 = .ok (.return_, 1) := by decide +kernel
theorem dX2_uncoverSafeAround_0 : decode cX2_uncoverSafeAround 0 = .ok (.iload_n 2, 1) := by decide +kernel
theorem dX2_uncoverSafeAround_1 : decode cX2_uncoverSafeAround 1 = .ok (.istore_n 3, 1) := by decide +kernel
theorem dX2_uncoverSafeAround_2 : decode cX2_uncoverSafeAround 2 = .ok (.iload_n 1, 1) := by decide +kernel
theorem dX2_uncoverSafeAround_3 : decode cX2_uncoverSafeAround 3 = .ok (.bipush 8, 2) := by decide +kernel
theorem dX2_uncoverSafeAround_5 : decode cX2_uncoverSafeAround 5 = .ok (.imul, 1) := by decide +kernel
theorem dX2_uncoverSafeAround_6 : decode cX2_uncoverSafeAround 6 = .ok (.istore 4, 2) := by decide +kernel
theorem dX2_uncoverSafeAround_8 : decode cX2_uncoverSafeAround 8 = .ok (.iload 4, 2) := by decide +kernel
theorem dX2_uncoverSafeAround_10 : decode cX2_uncoverSafeAround 10 = .ok (.aload_n 0, 1) := by decide +kernel
theorem dX2_uncoverSafeAround_11 : decode cX2_uncoverSafeAround 11 = .ok (.getfield 12, 3) := by decide +kernel
theorem dX2_uncoverSafeAround_14 : decode cX2_uncoverSafeAround 14 = .ok (.getfield 64, 3) := by decide +kernel
theorem dX2_uncoverSafeAround_17 : decode cX2_uncoverSafeAround 17 = .ok (.iload_n 1, 1) := by decide +kernel
theorem dX2_uncoverSafeAround_18 : decode cX2_uncoverSafeAround 18 = .ok (.iaload, 1) := by decide +kernel
theorem dX2_uncoverSafeAround_19 : decode cX2_uncoverSafeAround 19 = .ok (.if_icmp .ge 65, 3) := by decide +kernel
theorem dX2_uncoverSafeAround_22 : decode cX2_uncoverSafeAround 22 = .ok (.aload_n 0, 1) := by decide +kernel
theorem dX2_uncoverSafeAround_23 : decode cX2_uncoverSafeAround 23 = .ok (.getfield 12, 3) := by decide +kernel
theorem dX2_uncoverSafeAround_26 : decode cX2_uncoverSafeAround 26 = .ok (.getfield 79, 3) := by decide +kernel
theorem dX2_uncoverSafeAround_29 : decode cX2_uncoverSafeAround 29 = .ok (.iload 4, 2) := by decide +kernel
theorem dX2_uncoverSafeAround_31 : decode cX2_uncoverSafeAround 31 = .ok (.iaload, 1) := by decide +kernel
theorem dX2_uncoverSafeAround_32 : decode cX2_uncoverSafeAround 32 = .ok (.istore 5, 2) := by decide +kernel
theorem dX2_uncoverSafeAround_34 : decode cX2_uncoverSafeAround 34 = .ok (.aload_n 0, 1) := by decide +kernel
theorem dX2_uncoverSafeAround_35 : decode cX2_uncoverSafeAround 35 = .ok (.iload 5, 2) := by decide +kernel
theorem dX2_uncoverSafeAround_37 : decode cX2_uncoverSafeAround 37 = .ok (.invokevirtual 108, 3) := by decide +kernel
theorem dX2_uncoverSafeAround_40 : decode cX2_uncoverSafeAround 40 = .ok (.ifCond .eq 38, 3) := by decide +kernel
theorem dX2_uncoverSafeAround_43 : decode cX2_uncoverSafeAround 43 = .ok (.aload_n 0, 1) := by decide +kernel
theorem dX2_uncoverSafeAround_44 : decode cX2_uncoverSafeAround 44 = .ok (.getfield 18, 3) := by decide +kernel
theorem dX2_uncoverSafeAround_47 : decode cX2_uncoverSafeAround 47 = .ok (.iload 5, 2) := by decide +kernel
theorem dX2_uncoverSafeAround_49 : decode cX2_uncoverSafeAround 49 = .ok (.baload, 1) := by decide +kernel
theorem dX2_uncoverSafeAround_50 : decode cX2_uncoverSafeAround 50 = .ok (.ifCond .ne 28, 3) := by decide +kernel
theorem dX2_uncoverSafeAround_53 : decode cX2_uncoverSafeAround 53 = .ok (.iload_n 3, 1) := by decide +kernel
theorem dX2_uncoverSafeAround_54 : decode cX2_uncoverSafeAround 54 = .ok (.sipush 144, 3) := by decide +kernel
theorem dX2_uncoverSafeAround_57 : decode cX2_uncoverSafeAround 57 = .ok (.if_icmp .ge 21, 3) := by decide +kernel
theorem dX2_uncoverSafeAround_60 : decode cX2_uncoverSafeAround 60 = .ok (.aload_n 0, 1) := by decide +kernel
theorem dX2_uncoverSafeAround_61 : decode cX2_uncoverSafeAround 61 = .ok (.iload 5, 2) := by decide +kernel
theorem dX2_uncoverSafeAround_63 : decode cX2_uncoverSafeAround 63 = .ok (.iconst 2, 1) := by decide +kernel
theorem dX2_uncoverSafeAround_64 : decode cX2_uncoverSafeAround 64 = .ok (.invokevirtual 90, 3) := by decide +kernel
theorem dX2_uncoverSafeAround_67 : decode cX2_uncoverSafeAround 67 = .ok (.aload_n 0, 1) := by decide +kernel
theorem dX2_uncoverSafeAround_68 : decode cX2_uncoverSafeAround 68 = .ok (.getfield 44, 3) := by decide +kernel
theorem dX2_uncoverSafeAround_71 : decode cX2_uncoverSafeAround 71 = .ok (.iload_n 3, 1) := by decide +kernel
theorem dX2_uncoverSafeAround_72 : decode cX2_uncoverSafeAround 72 = .ok (.iload 5, 2) := by decide +kernel
theorem dX2_uncoverSafeAround_74 : decode cX2_uncoverSafeAround 74 = .ok (.iastore, 1) := by decide +kernel
theorem dX2_uncoverSafeAround_75 : decode cX2_uncoverSafeAround 75 = .ok (.iinc 3 1, 3) := by decide +kernel
theorem dX2_uncoverSafeAround_78 : decode cX2_uncoverSafeAround 78 = .ok (.iinc 4 1, 3) := by decide +kernel
theorem dX2_uncoverSafeAround_81 : decode cX2_uncoverSafeAround 81 = .ok (.goto (-73), 3) := by decide +kernel
theorem dX2_uncoverSafeAround_84 : decode cX2_uncoverSafeAround 84 = .ok (.iload_n 3, 1) := by decide +kernel
theorem dX2_uncoverSafeAround_85 : decode cX2_uncoverSafeAround 85 = .ok (.ireturn, 1) := by decide +kernel
theorem dX2_uncover_0 : decode cX2_uncover 0 = .ok (.aload_n 0, 1) := by decide +kernel
theorem dX2_uncover_1 : decode cX2_uncover 1 = .ok (.getfield 18, 3) := by decide +kernel
theorem dX2_uncover_4 : decode cX2_uncover 4 = .ok (.iload_n 1, 1) := by decide +kernel
theorem dX2_uncover_5 : decode cX2_uncover 5 = .ok (.baload, 1) := by decide +kernel
theorem dX2_uncover_6 : decode cX2_uncover 6 = .ok (.ifCond .eq 10, 3) := by decide +kernel
theorem dX2_uncover_9 : decode cX2_uncover 9 = .ok (.aload_n 0, 1) := by decide +kernel
theorem dX2_uncover_10 : decode cX2_uncover 10 = .ok (.iload_n 1, 1) := by decide +kernel
theorem dX2_uncover_11 : decode cX2_uncover 11 = .ok (.iconst 3, 1) := by decide +kernel
theorem dX2_uncover_12 : decode cX2_uncover 12 = .ok (.invokevirtual 90, 3) := by decide +kernel
theorem dX2_uncover_15 : decode cX2_uncover 15 = .ok (.return_, 1) := by decide +kernel
theorem dX2_uncover_16 : decode cX2_uncover 16 = .ok (.aload_n 0, 1) := by decide +kernel
theorem dX2_uncover_17 : decode cX2_uncover 17 = .ok (.iload_n 1, 1) := by decide +kernel
theorem dX2_uncover_18 : decode cX2_uncover 18 = .ok (.iconst 2, 1) := by decide +kernel
theorem dX2_uncover_19 : decode cX2_uncover 19 = .ok (.invokevirtual 90, 3) := by decide +kernel
theorem dX2_uncover_22 : decode cX2_uncover 22 = .ok (.aload_n 0, 1) := by decide +kernel
theorem dX2_uncover_23 : decode cX2_uncover 23 = .ok (.getfield 44, 3) := by decide +kernel
theorem dX2_uncover_26 : decode cX2_uncover 26 = .ok (.iconst 0, 1) := by decide +kernel
theorem dX2_uncover_27 : decode cX2_uncover 27 = .ok (.iload_n 1, 1) := by decide +kernel
theorem dX2_uncover_28 : decode cX2_uncover 28 = .ok (.iastore, 1) := by decide +kernel
theorem dX2_uncover_29 : decode cX2_uncover 29 = .ok (.iconst 1, 1) := by decide +kernel
theorem dX2_uncover_30 : decode cX2_uncover 30 = .ok (.istore_n 2, 1) := by decide +kernel
theorem dX2_uncover_31 : decode cX2_uncover 31 = .ok (.iconst 0, 1) := by decide +kernel
theorem dX2_uncover_32 : decode cX2_uncover 32 = .ok (.istore_n 3, 1) := by decide +kernel
theorem dX2_uncover_33 : decode cX2_uncover 33 = .ok (.iload_n 3, 1) := by decide +kernel
theorem dX2_uncover_34 : decode cX2_uncover 34 = .ok (.iload_n 2, 1) := by decide +kernel
theorem dX2_uncover_35 : decode cX2_uncover 35 = .ok (.if_icmp .ge 42, 3) := by decide +kernel
theorem dX2_uncover_38 : decode cX2_uncover 38 = .ok (.iload_n 3, 1) := by decide +kernel
theorem dX2_uncover_39 : decode cX2_uncover 39 = .ok (.sipush 144, 3) := by decide +kernel
theorem dX2_uncover_42 : decode cX2_uncover 42 = .ok (.if_icmp .ge 35, 3) := by decide +kernel
theorem dX2_uncover_45 : decode cX2_uncover 45 = .ok (.aload_n 0, 1) := by decide +kernel
theorem dX2_uncover_46 : decode cX2_uncover 46 = .ok (.getfield 22, 3) := by decide +kernel
theorem dX2_uncover_49 : decode cX2_uncover 49 = .ok (.aload_n 0, 1) := by decide +kernel
theorem dX2_uncover_50 : decode cX2_uncover 50 = .ok (.getfield 44, 3) := by decide +kernel
theorem dX2_uncover_53 : decode cX2_uncover 53 = .ok (.iload_n 3, 1) := by decide +kernel
theorem dX2_uncover_54 : decode cX2_uncover 54 = .ok (.iaload, 1) := by decide +kernel
theorem dX2_uncover_55 : decode cX2_uncover 55 = .ok (.iaload, 1) := by decide +kernel
theorem dX2_uncover_56 : decode cX2_uncover 56 = .ok (.ifCond .ne 15, 3) := by decide +kernel
theorem dX2_uncover_59 : decode cX2_uncover 59 = .ok (.aload_n 0, 1) := by decide +kernel
theorem dX2_uncover_60 : decode cX2_uncover 60 = .ok (.aload_n 0, 1) := by decide +kernel
theorem dX2_uncover_61 : decode cX2_uncover 61 = .ok (.getfield 44, 3) := by decide +kernel
theorem dX2_uncover_64 : decode cX2_uncover 64 = .ok (.iload_n 3, 1) := by decide +kernel
theorem dX2_uncover_65 : decode cX2_uncover 65 = .ok (.iaload, 1) := by decide +kernel
theorem dX2_uncover_66 : decode cX2_uncover 66 = .ok (.iload_n 2, 1) := by decide +kernel
theorem dX2_uncover_67 : decode cX2_uncover 67 = .ok (.invokevirtual 93, 3) := by decide +kernel
theorem dX2_uncover_70 : decode cX2_uncover 70 = .ok (.istore_n 2, 1) := by decide +kernel
theorem dX2_uncover_71 : decode cX2_uncover 71 = .ok (.iinc 3 1, 3) := by decide +kernel
theorem dX2_uncover_74 : decode cX2_uncover 74 = .ok (.goto (-41), 3) := by decide +kernel
theorem dX2_uncover_77 : decode cX2_uncover 77 = .ok (.return_, 1) := by decide +kernel
theorem dX2_uncoverAround_0 : decode cX2_uncoverAround 0 = .ok (.iload_n 1, 1) := by decide +kernel
theorem dX2_uncoverAround_1 : decode cX2_uncoverAround 1 = .ok (.bipush 8, 2) := by decide +kernel
theorem dX2_uncoverAround_3 : decode cX2_uncoverAround 3 = .ok (.imul, 1) := by decide +kernel
theorem dX2_uncoverAround_4 : decode cX2_uncoverAround 4 = .ok (.istore_n 2, 1) := by decide +kernel
theorem dX2_uncoverAround_5 : decode cX2_uncoverAround 5 = .ok (.iload_n 2, 1) := by decide +kernel
theorem dX2_uncoverAround_6 : decode cX2_uncoverAround 6 = .ok (.aload_n 0, 1) := by decide +kernel
theorem dX2_uncoverAround_7 : decode cX2_uncoverAround 7 = .ok (.getfield 12, 3) := by decide +kernel
theorem dX2_uncoverAround_10 : decode cX2_uncoverAround 10 = .ok (.getfield 64, 3) := by decide +kernel
theorem dX2_uncoverAround_13 : decode cX2_uncoverAround 13 = .ok (.iload_n 1, 1) := by decide +kernel
theorem dX2_uncoverAround_14 : decode cX2_uncoverAround 14 = .ok (.iaload, 1) := by decide +kernel
theorem dX2_uncoverAround_15 : decode cX2_uncoverAround 15 = .ok (.if_icmp .ge 39, 3) := by decide +kernel
theorem dX2_uncoverAround_18 : decode cX2_uncoverAround 18 = .ok (.aload_n 0, 1) := by decide +kernel
theorem dX2_uncoverAround_19 : decode cX2_uncoverAround 19 = .ok (.getfield 26, 3) := by decide +kernel
theorem dX2_uncoverAround_22 : decode cX2_uncoverAround 22 = .ok (.aload_n 0, 1) := by decide +kernel
theorem dX2_uncoverAround_23 : decode cX2_uncoverAround 23 = .ok (.getfield 12, 3) := by decide +kernel
theorem dX2_uncoverAround_26 : decode cX2_uncoverAround 26 = .ok (.getfield 79, 3) := by decide +kernel
theorem dX2_uncoverAround_29 : decode cX2_uncoverAround 29 = .ok (.iload_n 2, 1) := by decide +kernel
theorem dX2_uncoverAround_30 : decode cX2_uncoverAround 30 = .ok (.iaload, 1) := by decide +kernel
theorem dX2_uncoverAround_31 : decode cX2_uncoverAround 31 = .ok (.iaload, 1) := by decide +kernel
theorem dX2_uncoverAround_32 : decode cX2_uncoverAround 32 = .ok (.ifCond .ne 16, 3) := by decide +kernel
theorem dX2_uncoverAround_35 : decode cX2_uncoverAround 35 = .ok (.aload_n 0, 1) := by decide +kernel
theorem dX2_uncoverAround_36 : decode cX2_uncoverAround 36 = .ok (.aload_n 0, 1) := by decide +kernel
theorem dX2_uncoverAround_37 : decode cX2_uncoverAround 37 = .ok (.getfield 12, 3) := by decide +kernel
theorem dX2_uncoverAround_40 : decode cX2_uncoverAround 40 = .ok (.getfield 79, 3) := by decide +kernel
theorem dX2_uncoverAround_43 : decode cX2_uncoverAround 43 = .ok (.iload_n 2, 1) := by decide +kernel
theorem dX2_uncoverAround_44 : decode cX2_uncoverAround 44 = .ok (.iaload, 1) := by decide +kernel
theorem dX2_uncoverAround_45 : decode cX2_uncoverAround 45 = .ok (.invokevirtual 97, 3) := by decide +kernel
theorem dX2_uncoverAround_48 : decode cX2_uncoverAround 48 = .ok (.iinc 2 1, 3) := by decide +kernel
theorem dX2_uncoverAround_51 : decode cX2_uncoverAround 51 = .ok (.goto (-46), 3) := by decide +kernel
theorem dX2_uncoverAround_54 : decode cX2_uncoverAround 54 = .ok (.return_, 1) := by decide +kernel
theorem dX2_hasToOpen_0 : decode cX2_hasToOpen 0 = .ok (.aload_n 0, 1) := by decide +kernel
theorem dX2_hasToOpen_1 : decode cX2_hasToOpen 1 = .ok (.getfield 47, 3) := by decide +kernel
theorem dX2_hasToOpen_4 : decode cX2_hasToOpen 4 = .ok (.iload_n 1, 1) := by decide +kernel
theorem dX2_hasToOpen_5 : decode cX2_hasToOpen 5 = .ok (.baload, 1) := by decide +kernel
theorem dX2_hasToOpen_6 : decode cX2_hasToOpen 6 = .ok (.ifCond .ne 24, 3) := by decide +kernel
theorem dX2_hasToOpen_9 : decode cX2_hasToOpen 9 = .ok (.aload_n 0, 1) := by decide +kernel
theorem dX2_hasToOpen_10 : decode cX2_hasToOpen 10 = .ok (.getfield 18, 3) := by decide +kernel
theorem dX2_hasToOpen_13 : decode cX2_hasToOpen 13 = .ok (.iload_n 1, 1) := by decide +kernel
theorem dX2_hasToOpen_14 : decode cX2_hasToOpen 14 = .ok (.baload, 1) := by decide +kernel
theorem dX2_hasToOpen_15 : decode cX2_hasToOpen 15 = .ok (.ifCond .ne 15, 3) := by decide +kernel
theorem dX2_hasToOpen_18 : decode cX2_hasToOpen 18 = .ok (.aload_n 0, 1) := by decide +kernel
theorem dX2_hasToOpen_19 : decode cX2_hasToOpen 19 = .ok (.iload_n 1, 1) := by decide +kernel
theorem dX2_hasToOpen_20 : decode cX2_hasToOpen 20 = .ok (.invokevirtual 108, 3) := by decide +kernel
theorem dX2_hasToOpen_23 : decode cX2_hasToOpen 23 = .ok (.ifCond .eq 7, 3) := by decide +kernel
theorem dX2_hasToOpen_26 : decode cX2_hasToOpen 26 = .ok (.iconst 1, 1) := by decide +kernel
theorem dX2_hasToOpen_27 : decode cX2_hasToOpen 27 = .ok (.goto 4, 3) := by decide +kernel
theorem dX2_hasToOpen_30 : decode cX2_hasToOpen 30 = .ok (.iconst 0, 1) := by decide +kernel
theorem dX2_hasToOpen_31 : decode cX2_hasToOpen 31 = .ok (.ireturn, 1) := by decide +kernel
theorem dX2_passAround_0 : decode cX2_passAround 0 = .ok (.iload_n 2, 1) := by decide +kernel
theorem dX2_passAround_1 : decode cX2_passAround 1 = .ok (.istore_n 3, 1) := by decide +kernel
theorem dX2_passAround_2 : decode cX2_passAround 2 = .ok (.iload_n 1, 1) := by decide +kernel
theorem dX2_passAround_3 : decode cX2_passAround 3 = .ok (.bipush 8, 2) := by decide +kernel
theorem dX2_passAround_5 : decode cX2_passAround 5 = .ok (.imul, 1) := by decide +kernel
theorem dX2_passAround_6 : decode cX2_passAround 6 = .ok (.istore 4, 2) := by decide +kernel
theorem dX2_passAround_8 : decode cX2_passAround 8 = .ok (.iload 4, 2) := by decide +kernel
theorem dX2_passAround_10 : decode cX2_passAround 10 = .ok (.aload_n 0, 1) := by decide +kernel
theorem dX2_passAround_11 : decode cX2_passAround 11 = .ok (.getfield 12, 3) := by decide +kernel
theorem dX2_passAround_14 : decode cX2_passAround 14 = .ok (.getfield 64, 3) := by decide +kernel
theorem dX2_passAround_17 : decode cX2_passAround 17 = .ok (.iload_n 1, 1) := by decide +kernel
theorem dX2_passAround_18 : decode cX2_passAround 18 = .ok (.iaload, 1) := by decide +kernel
theorem dX2_passAround_19 : decode cX2_passAround 19 = .ok (.if_icmp .ge 56, 3) := by decide +kernel
theorem dX2_passAround_22 : decode cX2_passAround 22 = .ok (.aload_n 0, 1) := by decide +kernel
theorem dX2_passAround_23 : decode cX2_passAround 23 = .ok (.getfield 12, 3) := by decide +kernel
theorem dX2_passAround_26 : decode cX2_passAround 26 = .ok (.getfield 79, 3) := by decide +kernel
theorem dX2_passAround_29 : decode cX2_passAround 29 = .ok (.iload 4, 2) := by decide +kernel
theorem dX2_passAround_31 : decode cX2_passAround 31 = .ok (.iaload, 1) := by decide +kernel
theorem dX2_passAround_32 : decode cX2_passAround 32 = .ok (.istore 5, 2) := by decide +kernel
theorem dX2_passAround_34 : decode cX2_passAround 34 = .ok (.aload_n 0, 1) := by decide +kernel
theorem dX2_passAround_35 : decode cX2_passAround 35 = .ok (.iload 5, 2) := by decide +kernel
theorem dX2_passAround_37 : decode cX2_passAround 37 = .ok (.invokevirtual 101, 3) := by decide +kernel
theorem dX2_passAround_40 : decode cX2_passAround 40 = .ok (.ifCond .eq 29, 3) := by decide +kernel
theorem dX2_passAround_43 : decode cX2_passAround 43 = .ok (.iload_n 3, 1) := by decide +kernel
theorem dX2_passAround_44 : decode cX2_passAround 44 = .ok (.sipush 144, 3) := by decide +kernel
theorem dX2_passAround_47 : decode cX2_passAround 47 = .ok (.if_icmp .ge 22, 3) := by decide +kernel
theorem dX2_passAround_50 : decode cX2_passAround 50 = .ok (.aload_n 0, 1) := by decide +kernel
theorem dX2_passAround_51 : decode cX2_passAround 51 = .ok (.getfield 47, 3) := by decide +kernel
theorem dX2_passAround_54 : decode cX2_passAround 54 = .ok (.iload 5, 2) := by decide +kernel
theorem dX2_passAround_56 : decode cX2_passAround 56 = .ok (.iconst 1, 1) := by decide +kernel
theorem dX2_passAround_57 : decode cX2_passAround 57 = .ok (.bastore, 1) := by decide +kernel
theorem dX2_passAround_58 : decode cX2_passAround 58 = .ok (.aload_n 0, 1) := by decide +kernel
theorem dX2_passAround_59 : decode cX2_passAround 59 = .ok (.getfield 44, 3) := by decide +kernel
theorem dX2_passAround_62 : decode cX2_passAround 62 = .ok (.iload_n 3, 1) := by decide +kernel
theorem dX2_passAround_63 : decode cX2_passAround 63 = .ok (.iload 5, 2) := by decide +kernel
theorem dX2_passAround_65 : decode cX2_passAround 65 = .ok (.iastore, 1) := by decide +kernel
theorem dX2_passAround_66 : decode cX2_passAround 66 = .ok (.iinc 3 1, 3) := by decide +kernel
theorem dX2_passAround_69 : decode cX2_passAround 69 = .ok (.iinc 4 1, 3) := by decide +kernel
theorem dX2_passAround_72 : decode cX2_passAround 72 = .ok (.goto (-64), 3) := by decide +kernel
theorem dX2_passAround_75 : decode cX2_passAround 75 = .ok (.iload_n 3, 1) := by decide +kernel
theorem dX2_passAround_76 : decode cX2_passAround 76 = .ok (.ireturn, 1) := by decide +kernel
theorem dX2_passZeros_0 : decode cX2_passZeros 0 = .ok (.aload_n 0, 1) := by decide +kernel
theorem dX2_passZeros_1 : decode cX2_passZeros 1 = .ok (.getfield 47, 3) := by decide +kernel
theorem dX2_passZeros_4 : decode cX2_passZeros 4 = .ok (.iload_n 1, 1) := by decide +kernel
theorem dX2_passZeros_5 : decode cX2_passZeros 5 = .ok (.iconst 1, 1) := by decide +kernel
theorem dX2_passZeros_6 : decode cX2_passZeros 6 = .ok (.bastore, 1) := by decide +kernel
theorem dX2_passZeros_7 : decode cX2_passZeros 7 = .ok (.aload_n 0, 1) := by decide +kernel
theorem dX2_passZeros_8 : decode cX2_passZeros 8 = .ok (.getfield 44, 3) := by decide +kernel
theorem dX2_passZeros_11 : decode cX2_passZeros 11 = .ok (.iconst 0, 1) := by decide +kernel
theorem dX2_passZeros_12 : decode cX2_passZeros 12 = .ok (.iload_n 1, 1) := by decide +kernel
theorem dX2_passZeros_13 : decode cX2_passZeros 13 = .ok (.iastore, 1) := by decide +kernel
theorem dX2_passZeros_14 : decode cX2_passZeros 14 = .ok (.iconst 1, 1) := by decide +kernel
theorem dX2_passZeros_15 : decode cX2_passZeros 15 = .ok (.istore_n 2, 1) := by decide +kernel
theorem dX2_passZeros_16 : decode cX2_passZeros 16 = .ok (.iconst 0, 1) := by decide +kernel
theorem dX2_passZeros_17 : decode cX2_passZeros 17 = .ok (.istore_n 3, 1) := by decide +kernel
theorem dX2_passZeros_18 : decode cX2_passZeros 18 = .ok (.iload_n 3, 1) := by decide +kernel
theorem dX2_passZeros_19 : decode cX2_passZeros 19 = .ok (.iload_n 2, 1) := by decide +kernel
theorem dX2_passZeros_20 : decode cX2_passZeros 20 = .ok (.if_icmp .ge 42, 3) := by decide +kernel
theorem dX2_passZeros_23 : decode cX2_passZeros 23 = .ok (.iload_n 3, 1) := by decide +kernel
theorem dX2_passZeros_24 : decode cX2_passZeros 24 = .ok (.sipush 144, 3) := by decide +kernel
theorem dX2_passZeros_27 : decode cX2_passZeros 27 = .ok (.if_icmp .ge 35, 3) := by decide +kernel
theorem dX2_passZeros_30 : decode cX2_passZeros 30 = .ok (.aload_n 0, 1) := by decide +kernel
theorem dX2_passZeros_31 : decode cX2_passZeros 31 = .ok (.getfield 22, 3) := by decide +kernel
theorem dX2_passZeros_34 : decode cX2_passZeros 34 = .ok (.aload_n 0, 1) := by decide +kernel
theorem dX2_passZeros_35 : decode cX2_passZeros 35 = .ok (.getfield 44, 3) := by decide +kernel
theorem dX2_passZeros_38 : decode cX2_passZeros 38 = .ok (.iload_n 3, 1) := by decide +kernel
theorem dX2_passZeros_39 : decode cX2_passZeros 39 = .ok (.iaload, 1) := by decide +kernel
theorem dX2_passZeros_40 : decode cX2_passZeros 40 = .ok (.iaload, 1) := by decide +kernel
theorem dX2_passZeros_41 : decode cX2_passZeros 41 = .ok (.ifCond .ne 15, 3) := by decide +kernel
theorem dX2_passZeros_44 : decode cX2_passZeros 44 = .ok (.aload_n 0, 1) := by decide +kernel
theorem dX2_passZeros_45 : decode cX2_passZeros 45 = .ok (.aload_n 0, 1) := by decide +kernel
theorem dX2_passZeros_46 : decode cX2_passZeros 46 = .ok (.getfield 44, 3) := by decide +kernel
theorem dX2_passZeros_49 : decode cX2_passZeros 49 = .ok (.iload_n 3, 1) := by decide +kernel
theorem dX2_passZeros_50 : decode cX2_passZeros 50 = .ok (.iaload, 1) := by decide +kernel
theorem dX2_passZeros_51 : decode cX2_passZeros 51 = .ok (.iload_n 2, 1) := by decide +kernel
theorem dX2_passZeros_52 : decode cX2_passZeros 52 = .ok (.invokevirtual 111, 3) := by decide +kernel
theorem dX2_passZeros_55 : decode cX2_passZeros 55 = .ok (.istore_n 2, 1) := by decide +kernel
theorem dX2_passZeros_56 : decode cX2_passZeros 56 = .ok (.iinc 3 1, 3) := by decide +kernel
theorem dX2_passZeros_59 : decode cX2_passZeros 59 = .ok (.goto (-41), 3) := by decide +kernel
theorem dX2_passZeros_62 : decode cX2_passZeros 62 = .ok (.return_, 1) := by decide +kernel
theorem dX2_leastOpenings_0 : decode cX2_leastOpenings 0 = .ok (.iconst 0, 1) := by decide +kernel
theorem dX2_leastOpenings_1 : decode cX2_leastOpenings 1 = .ok (.istore_n 1, 1) := by decide +kernel
theorem dX2_leastOpenings_2 : decode cX2_leastOpenings 2 = .ok (.iload_n 1, 1) := by decide +kernel
theorem dX2_leastOpenings_3 : decode cX2_leastOpenings 3 = .ok (.aload_n 0, 1) := by decide +kernel
theorem dX2_leastOpenings_4 : decode cX2_leastOpenings 4 = .ok (.getfield 12, 3) := by decide +kernel
theorem dX2_leastOpenings_7 : decode cX2_leastOpenings 7 = .ok (.getfield 61, 3) := by decide +kernel
theorem dX2_leastOpenings_10 : decode cX2_leastOpenings 10 = .ok (.if_icmp .ge 16, 3) := by decide +kernel
theorem dX2_leastOpenings_13 : decode cX2_leastOpenings 13 = .ok (.aload_n 0, 1) := by decide +kernel
theorem dX2_leastOpenings_14 : decode cX2_leastOpenings 14 = .ok (.getfield 47, 3) := by decide +kernel
theorem dX2_leastOpenings_17 : decode cX2_leastOpenings 17 = .ok (.iload_n 1, 1) := by decide +kernel
theorem dX2_leastOpenings_18 : decode cX2_leastOpenings 18 = .ok (.iconst 0, 1) := by decide +kernel
theorem dX2_leastOpenings_19 : decode cX2_leastOpenings 19 = .ok (.bastore, 1) := by decide +kernel
theorem dX2_leastOpenings_20 : decode cX2_leastOpenings 20 = .ok (.iinc 1 1, 3) := by decide +kernel
theorem dX2_leastOpenings_23 : decode cX2_leastOpenings 23 = .ok (.goto (-21), 3) := by decide +kernel
theorem dX2_leastOpenings_26 : decode cX2_leastOpenings 26 = .ok (.iconst 0, 1) := by decide +kernel
theorem dX2_leastOpenings_27 : decode cX2_leastOpenings 27 = .ok (.istore_n 1, 1) := by decide +kernel
theorem dX2_leastOpenings_28 : decode cX2_leastOpenings 28 = .ok (.iconst 0, 1) := by decide +kernel
theorem dX2_leastOpenings_29 : decode cX2_leastOpenings 29 = .ok (.istore_n 2, 1) := by decide +kernel
theorem dX2_leastOpenings_30 : decode cX2_leastOpenings 30 = .ok (.iload_n 2, 1) := by decide +kernel
theorem dX2_leastOpenings_31 : decode cX2_leastOpenings 31 = .ok (.aload_n 0, 1) := by decide +kernel
theorem dX2_leastOpenings_32 : decode cX2_leastOpenings 32 = .ok (.getfield 12, 3) := by decide +kernel
theorem dX2_leastOpenings_35 : decode cX2_leastOpenings 35 = .ok (.getfield 61, 3) := by decide +kernel
theorem dX2_leastOpenings_38 : decode cX2_leastOpenings 38 = .ok (.if_icmp .ge 34, 3) := by decide +kernel
theorem dX2_leastOpenings_41 : decode cX2_leastOpenings 41 = .ok (.aload_n 0, 1) := by decide +kernel
theorem dX2_leastOpenings_42 : decode cX2_leastOpenings 42 = .ok (.getfield 22, 3) := by decide +kernel
theorem dX2_leastOpenings_45 : decode cX2_leastOpenings 45 = .ok (.iload_n 2, 1) := by decide +kernel
theorem dX2_leastOpenings_46 : decode cX2_leastOpenings 46 = .ok (.iaload, 1) := by decide +kernel
theorem dX2_leastOpenings_47 : decode cX2_leastOpenings 47 = .ok (.ifCond .ne 19, 3) := by decide +kernel
theorem dX2_leastOpenings_50 : decode cX2_leastOpenings 50 = .ok (.aload_n 0, 1) := by decide +kernel
theorem dX2_leastOpenings_51 : decode cX2_leastOpenings 51 = .ok (.iload_n 2, 1) := by decide +kernel
theorem dX2_leastOpenings_52 : decode cX2_leastOpenings 52 = .ok (.invokevirtual 101, 3) := by decide +kernel
theorem dX2_leastOpenings_55 : decode cX2_leastOpenings 55 = .ok (.ifCond .eq 11, 3) := by decide +kernel
theorem dX2_leastOpenings_58 : decode cX2_leastOpenings 58 = .ok (.iinc 1 1, 3) := by decide +kernel
theorem dX2_leastOpenings_61 : decode cX2_leastOpenings 61 = .ok (.aload_n 0, 1) := by decide +kernel
theorem dX2_leastOpenings_62 : decode cX2_leastOpenings 62 = .ok (.iload_n 2, 1) := by decide +kernel
theorem dX2_leastOpenings_63 : decode cX2_leastOpenings 63 = .ok (.invokevirtual 105, 3) := by decide +kernel
theorem dX2_leastOpenings_66 : decode cX2_leastOpenings 66 = .ok (.iinc 2 1, 3) := by decide +kernel
theorem dX2_leastOpenings_69 : decode cX2_leastOpenings 69 = .ok (.goto (-39), 3) := by decide +kernel
theorem dX2_leastOpenings_72 : decode cX2_leastOpenings 72 = .ok (.iconst 0, 1) := by decide +kernel
theorem dX2_leastOpenings_73 : decode cX2_leastOpenings 73 = .ok (.istore_n 2, 1) := by decide +kernel
theorem dX2_leastOpenings_74 : decode cX2_leastOpenings 74 = .ok (.iload_n 2, 1) := by decide +kernel
theorem dX2_leastOpenings_75 : decode cX2_leastOpenings 75 = .ok (.aload_n 0, 1) := by decide +kernel
theorem dX2_leastOpenings_76 : decode cX2_leastOpenings 76 = .ok (.getfield 12, 3) := by decide +kernel
theorem dX2_leastOpenings_79 : decode cX2_leastOpenings 79 = .ok (.getfield 61, 3) := by decide +kernel
theorem dX2_leastOpenings_82 : decode cX2_leastOpenings 82 = .ok (.if_icmp .ge 20, 3) := by decide +kernel
theorem dX2_leastOpenings_85 : decode cX2_leastOpenings 85 = .ok (.aload_n 0, 1) := by decide +kernel
theorem dX2_leastOpenings_86 : decode cX2_leastOpenings 86 = .ok (.iload_n 2, 1) := by decide +kernel
theorem dX2_leastOpenings_87 : decode cX2_leastOpenings 87 = .ok (.invokevirtual 101, 3) := by decide +kernel
theorem dX2_leastOpenings_90 : decode cX2_leastOpenings 90 = .ok (.ifCond .eq 6, 3) := by decide +kernel
theorem dX2_leastOpenings_93 : decode cX2_leastOpenings 93 = .ok (.iinc 1 1, 3) := by decide +kernel
theorem dX2_leastOpenings_96 : decode cX2_leastOpenings 96 = .ok (.iinc 2 1, 3) := by decide +kernel
theorem dX2_leastOpenings_99 : decode cX2_leastOpenings 99 = .ok (.goto (-25), 3) := by decide +kernel
theorem dX2_leastOpenings_102 : decode cX2_leastOpenings 102 = .ok (.iload_n 1, 1) := by decide +kernel
theorem dX2_leastOpenings_103 : decode cX2_leastOpenings 103 = .ok (.ireturn, 1) := by decide +kernel
theorem q_J7_fill_53178 : yJ7_fill_53178.cls ≠ "java/lang/invoke/MethodHandle" ∧ yJ7_fill_53178.cls ≠ "java/lang/invoke/VarHandle" ∧ (parseMethodDescriptor yJ7_fill_53178.desc).map (fun d => d.parameters.length) = some 2 := ⟨by decide, by decide, by decide +kernel⟩
theorem q_X2_closeAll : yX2_closeAll.cls = RX2 ∧ yX2_closeAll.cls ≠ "java/lang/invoke/MethodHandle" ∧ yX2_closeAll.cls ≠ "java/lang/invoke/VarHandle" ∧ (parseMethodDescriptor yX2_closeAll.desc).map (fun d => d.parameters.length) = some 0 := ⟨rfl, by decide, by decide, by decide +kernel⟩
theorem q_X2_begin : yX2_begin.cls = RX2 ∧ yX2_begin.cls ≠ "java/lang/invoke/MethodHandle" ∧ yX2_begin.cls ≠ "java/lang/invoke/VarHandle" ∧ (parseMethodDescriptor yX2_begin.desc).map (fun d => d.parameters.length) = some 3 := ⟨rfl, by decide, by decide, by decide +kernel⟩
theorem q_X2_setMine : yX2_setMine.cls = RX2 ∧ yX2_setMine.cls ≠ "java/lang/invoke/MethodHandle" ∧ yX2_setMine.cls ≠ "java/lang/invoke/VarHandle" ∧ (parseMethodDescriptor yX2_setMine.desc).map (fun d => d.parameters.length) = some 2 := ⟨rfl, by decide, by decide, by decide +kernel⟩
theorem q_X2_isUnknown : yX2_isUnknown.cls = RX2 ∧ yX2_isUnknown.cls ≠ "java/lang/invoke/MethodHandle" ∧ yX2_isUnknown.cls ≠ "java/lang/invoke/VarHandle" ∧ (parseMethodDescriptor yX2_isUnknown.desc).map (fun d => d.parameters.length) = some 1 := ⟨rfl, by decide, by decide, by decide +kernel⟩
theorem q_X2_unknownCells : yX2_unknownCells.cls = RX2 ∧ yX2_unknownCells.cls ≠ "java/lang/invoke/MethodHandle" ∧ yX2_unknownCells.cls ≠ "java/lang/invoke/VarHandle" ∧ (parseMethodDescriptor yX2_unknownCells.desc).map (fun d => d.parameters.length) = some 0 := ⟨rfl, by decide, by decide, by decide +kernel⟩
theorem q_X2_minesLeft : yX2_minesLeft.cls = RX2 ∧ yX2_minesLeft.cls ≠ "java/lang/invoke/MethodHandle" ∧ yX2_minesLeft.cls ≠ "java/lang/invoke/VarHandle" ∧ (parseMethodDescriptor yX2_minesLeft.desc).map (fun d => d.parameters.length) = some 0 := ⟨rfl, by decide, by decide, by decide +kernel⟩
theorem q_X2_lives : yX2_lives.cls = RX2 ∧ yX2_lives.cls ≠ "java/lang/invoke/MethodHandle" ∧ yX2_lives.cls ≠ "java/lang/invoke/VarHandle" ∧ (parseMethodDescriptor yX2_lives.desc).map (fun d => d.parameters.length) = some 0 := ⟨rfl, by decide, by decide, by decide +kernel⟩
theorem q_X2_isSolved : yX2_isSolved.cls = RX2 ∧ yX2_isSolved.cls ≠ "java/lang/invoke/MethodHandle" ∧ yX2_isSolved.cls ≠ "java/lang/invoke/VarHandle" ∧ (parseMethodDescriptor yX2_isSolved.desc).map (fun d => d.parameters.length) = some 0 := ⟨rfl, by decide, by decide, by decide +kernel⟩
theorem q_X2_allowsMove : yX2_allowsMove.cls = RX2 ∧ yX2_allowsMove.cls ≠ "java/lang/invoke/MethodHandle" ∧ yX2_allowsMove.cls ≠ "java/lang/invoke/VarHandle" ∧ (parseMethodDescriptor yX2_allowsMove.desc).map (fun d => d.parameters.length) = some 0 := ⟨rfl, by decide, by decide, by decide +kernel⟩
theorem q_X2_isReadyToChord : yX2_isReadyToChord.cls = RX2 ∧ yX2_isReadyToChord.cls ≠ "java/lang/invoke/MethodHandle" ∧ yX2_isReadyToChord.cls ≠ "java/lang/invoke/VarHandle" ∧ (parseMethodDescriptor yX2_isReadyToChord.desc).map (fun d => d.parameters.length) = some 1 := ⟨rfl, by decide, by decide, by decide +kernel⟩
theorem q_X2_beginMove : yX2_beginMove.cls = RX2 ∧ yX2_beginMove.cls ≠ "java/lang/invoke/MethodHandle" ∧ yX2_beginMove.cls ≠ "java/lang/invoke/VarHandle" ∧ (parseMethodDescriptor yX2_beginMove.desc).map (fun d => d.parameters.length) = some 0 := ⟨rfl, by decide, by decide, by decide +kernel⟩
theorem q_X2_put : yX2_put.cls = RX2 ∧ yX2_put.cls ≠ "java/lang/invoke/MethodHandle" ∧ yX2_put.cls ≠ "java/lang/invoke/VarHandle" ∧ (parseMethodDescriptor yX2_put.desc).map (fun d => d.parameters.length) = some 2 := ⟨rfl, by decide, by decide, by decide +kernel⟩
theorem q_X2_takeBackMove : yX2_takeBackMove.cls = RX2 ∧ yX2_takeBackMove.cls ≠ "java/lang/invoke/MethodHandle" ∧ yX2_takeBackMove.cls ≠ "java/lang/invoke/VarHandle" ∧ (parseMethodDescriptor yX2_takeBackMove.desc).map (fun d => d.parameters.length) = some 0 := ⟨rfl, by decide, by decide, by decide +kernel⟩
theorem q_X2_change : yX2_change.cls = RX2 ∧ yX2_change.cls ≠ "java/lang/invoke/MethodHandle" ∧ yX2_change.cls ≠ "java/lang/invoke/VarHandle" ∧ (parseMethodDescriptor yX2_change.desc).map (fun d => d.parameters.length) = some 2 := ⟨rfl, by decide, by decide, by decide +kernel⟩
theorem q_X2_uncoverSafeAround : yX2_uncoverSafeAround.cls = RX2 ∧ yX2_uncoverSafeAround.cls ≠ "java/lang/invoke/MethodHandle" ∧ yX2_uncoverSafeAround.cls ≠ "java/lang/invoke/VarHandle" ∧ (parseMethodDescriptor yX2_uncoverSafeAround.desc).map (fun d => d.parameters.length) = some 2 := ⟨rfl, by decide, by decide, by decide +kernel⟩
theorem q_X2_uncover : yX2_uncover.cls = RX2 ∧ yX2_uncover.cls ≠ "java/lang/invoke/MethodHandle" ∧ yX2_uncover.cls ≠ "java/lang/invoke/VarHandle" ∧ (parseMethodDescriptor yX2_uncover.desc).map (fun d => d.parameters.length) = some 1 := ⟨rfl, by decide, by decide, by decide +kernel⟩
theorem q_X2_uncoverAround : yX2_uncoverAround.cls = RX2 ∧ yX2_uncoverAround.cls ≠ "java/lang/invoke/MethodHandle" ∧ yX2_uncoverAround.cls ≠ "java/lang/invoke/VarHandle" ∧ (parseMethodDescriptor yX2_uncoverAround.desc).map (fun d => d.parameters.length) = some 1 := ⟨rfl, by decide, by decide, by decide +kernel⟩
theorem q_X2_hasToOpen : yX2_hasToOpen.cls = RX2 ∧ yX2_hasToOpen.cls ≠ "java/lang/invoke/MethodHandle" ∧ yX2_hasToOpen.cls ≠ "java/lang/invoke/VarHandle" ∧ (parseMethodDescriptor yX2_hasToOpen.desc).map (fun d => d.parameters.length) = some 1 := ⟨rfl, by decide, by decide, by decide +kernel⟩
theorem q_X2_passAround : yX2_passAround.cls = RX2 ∧ yX2_passAround.cls ≠ "java/lang/invoke/MethodHandle" ∧ yX2_passAround.cls ≠ "java/lang/invoke/VarHandle" ∧ (parseMethodDescriptor yX2_passAround.desc).map (fun d => d.parameters.length) = some 2 := ⟨rfl, by decide, by decide, by decide +kernel⟩
theorem q_X2_passZeros : yX2_passZeros.cls = RX2 ∧ yX2_passZeros.cls ≠ "java/lang/invoke/MethodHandle" ∧ yX2_passZeros.cls ≠ "java/lang/invoke/VarHandle" ∧ (parseMethodDescriptor yX2_passZeros.desc).map (fun d => d.parameters.length) = some 1 := ⟨rfl, by decide, by decide, by decide +kernel⟩
theorem q_X2_leastOpenings : yX2_leastOpenings.cls = RX2 ∧ yX2_leastOpenings.cls ≠ "java/lang/invoke/MethodHandle" ∧ yX2_leastOpenings.cls ≠ "java/lang/invoke/VarHandle" ∧ (parseMethodDescriptor yX2_leastOpenings.desc).map (fun d => d.parameters.length) = some 0 := ⟨rfl, by decide, by decide, by decide +kernel⟩
def P_J7_fill_53178_15 (post : (Int → Int) → Prop) (F_cellsIn : Int → Int) (x1 : Int) : Prop :=
  ∃ Inv_1 : Nat → (Int) → (Int → Int) → Prop, (∃ n_2 : Nat, Inv_1 n_2 0 F_cellsIn) ∧ ∀ (n_3 : Nat) (x2_6 : Int) (F_cellsIn_7 : Int → Int), inR x2_6 → Inv_1 n_3 x2_6 F_cellsIn_7 → ((4 ≤ x2_6 → (post F_cellsIn_7)) ∧ (¬ 4 ≤ x2_6 → ((0 ≤ x2_6 ∧ x2_6 < 4) ∧ (∀ F_cellsIn_10 : Int → Int, F_cellsIn_10 = upZ F_cellsIn_7 x2_6 x1 → (inR (x2_6 + 1) ∧ (∀ x2_12 : Int, x2_12 = (x2_6 + 1) → (∃ n_13 : Nat, n_13 < n_3 ∧ Inv_1 n_13 x2_12 F_cellsIn_10)))))))
set_option maxRecDepth 100000 in
set_option maxHeartbeats 4000000 in
theorem c_J7_fill_53178_15 (l : Launch) (K : wK) (ad : Nat → Nat) {D_hasBoard : Int} {D_beganBlank : Int} {F_mines : Int} {F_moves : Int} {F_changes : Int} {G_width : Int} {G_height : Int} {G_size : Int} {B_parts : Int} {B_longest : Int} {S_groups : Int} {S_askedGroup : Int} {S_taken : Int} {R_waitingCount : Int} {R_metCount : Int} {A_grade : Int} {A_cell : Int} {A_mined : Int} {A_withTotal : Int} {A_numbers : Int} {X_low : Int} {X_high : Int} {Y_low : Int} {Y_high : Int} {F_mined : Int → Int} {F_number : Int → Int} {F_state : Int → Int} {F_cellsIn : Int → Int} {F_unknownNear : Int → Int} {F_hitNear : Int → Int} {F_moveStart : Int → Int} {F_changed : Int → Int} {F_waiting : Int → Int} {F_seen : Int → Int} {G_near : Int → Int} {G_nearEnd : Int → Int} {B_chosen : Int → Int} {B_partOf : Int → Int} {B_rest : Int → Int} {B_unknowns : Int → Int} {B_partStart : Int → Int} {B_cells : Int → Int} {S_minedSet : Int → Int} {S_safeSet : Int → Int} {S_partSet : Int → Int} {S_tally : Int → Int} {S_askedTally : Int → Int} {S_groupOf : Int → Int} {S_groupSize : Int → Int} {S_links : Int → Int} {S_linkEnd : Int → Int} {S_pick : Int → Int} {S_groupMinedSet : Int → Int} {S_groupSafeSet : Int → Int} {O_sums : Int → Int64} {O_nextSums : Int → Int64} {R_found : Int → Int} {R_openEnds : Int → Int} {R_need : Int → Int} {R_waiting : Int → Int} {R_waits : Int → Int} {R_common : Int → Int} {R_met : Int → Int} {A_number : Int → Int} {Q_mined : Int → Int64} {Q_all : Int → Int64} {Q_choices : Int → Int64} {Q_term : Int → Int64} {Q_divisor : Int → Int64} {Q_spare : Int → Int64} {X_limbs : Int → Int64} {X_sum : Int → Int64} {Y_limbs : Int → Int64} {Y_sum : Int → Int64} (x1 : Int) (rx1 : inR x1) (post : (Int → Int) → Prop) (h : P_J7_fill_53178_15 post F_cellsIn x1) : mV l yJ7_fill_53178 (Cond.code yJ7_fill_53178 cJ7_fill_53178 4 none :: GT) ({ frames := 2, cells := 0, slots := 0, locals := 120 } : Room) [.ref (ad 15), .int (iI x1)] K ad (dW D_hasBoard D_beganBlank F_mines F_moves F_changes G_width G_height G_size B_parts B_longest S_groups S_askedGroup S_taken R_waitingCount R_metCount A_grade A_cell A_mined A_withTotal A_numbers X_low X_high Y_low Y_high F_mined F_number F_state F_cellsIn F_unknownNear F_hitNear F_moveStart F_changed F_waiting F_seen G_near G_nearEnd B_chosen B_partOf B_rest B_unknowns B_partStart B_cells S_minedSet S_safeSet S_partSet S_tally S_askedTally S_groupOf S_groupSize S_links S_linkEnd S_pick S_groupMinedSet S_groupSafeSet O_sums O_nextSums R_found R_openEnds R_need R_waiting R_waits R_common R_met A_number Q_mined Q_all Q_choices Q_term Q_divisor Q_spare X_limbs X_sum Y_limbs Y_sum) (fun u9 => ∃ F_cellsIn9, u9 = (dW D_hasBoard D_beganBlank F_mines F_moves F_changes G_width G_height G_size B_parts B_longest S_groups S_askedGroup S_taken R_waitingCount R_metCount A_grade A_cell A_mined A_withTotal A_numbers X_low X_high Y_low Y_high F_mined F_number F_state F_cellsIn9 F_unknownNear F_hitNear F_moveStart F_changed F_waiting F_seen G_near G_nearEnd B_chosen B_partOf B_rest B_unknowns B_partStart B_cells S_minedSet S_safeSet S_partSet S_tally S_askedTally S_groupOf S_groupSize S_links S_linkEnd S_pick S_groupMinedSet S_groupSafeSet O_sums O_nextSums R_found R_openEnds R_need R_waiting R_waits R_common R_met A_number Q_mined Q_all Q_choices Q_term Q_divisor Q_spare X_limbs X_sum Y_limbs Y_sum) ∧ post F_cellsIn9) := by
  refine mV_of (lv0 := [(0, .ref (ad 15)), (1, .int (iI x1))]) (by decide) (Nat.le_of_ble_eq_true rfl) rfl ?_
  intro p e s m args below meth c Q A C ret
  replace C : Cx p ({ frames := 2, cells := 0, slots := 0, locals := 120 } : Room) m c 0 0 cJ7_fill_53178 4 s args RJ7 K A := C
  unfold P_J7_fill_53178_15 at h
  refine wa_iconst C (z := 0) dJ7_fill_53178_0 rfl ?_
  refine wa_istore_n C dJ7_fill_53178_1 rfl (by decide) rfl ?_
  refine wa_aload_n C 1 rfl dJ7_fill_53178_2 rfl ?_
  refine wa_alen C (z := 4) 15 dW_15 rfl dJ7_fill_53178_3 ?_
  refine wa_istore_n C dJ7_fill_53178_4 rfl (by decide) rfl ?_
  obtain ⟨Inv_1, ⟨n_2, h0Inv_1⟩, hInv_1⟩ := h
  have k_5 : ∀ (n_3 : Nat) (x2_6 : Int) (F_cellsIn_7 : Int → Int), inR x2_6 → Inv_1 n_3 x2_6 F_cellsIn_7 → WA p l e ({ frames := 2, cells := 0, slots := 0, locals := 120 } : Room) s m args below meth c 0 0 Q K ad 4 A 5 [(0, .ref (ad 15)), (1, .int (iI x1)), (2, .int (iI x2_6)), (3, .int (iI 4))] [] (dW D_hasBoard D_beganBlank F_mines F_moves F_changes G_width G_height G_size B_parts B_longest S_groups S_askedGroup S_taken R_waitingCount R_metCount A_grade A_cell A_mined A_withTotal A_numbers X_low X_high Y_low Y_high F_mined F_number F_state F_cellsIn_7 F_unknownNear F_hitNear F_moveStart F_changed F_waiting F_seen G_near G_nearEnd B_chosen B_partOf B_rest B_unknowns B_partStart B_cells S_minedSet S_safeSet S_partSet S_tally S_askedTally S_groupOf S_groupSize S_links S_linkEnd S_pick S_groupMinedSet S_groupSafeSet O_sums O_nextSums R_found R_openEnds R_need R_waiting R_waits R_common R_met A_number Q_mined Q_all Q_choices Q_term Q_divisor Q_spare X_limbs X_sum Y_limbs Y_sum) := by
    intro n_3
    induction n_3 using Nat.strongRecOn with
    | ind n_3 ih_4 =>
      intro x2_6 F_cellsIn_7 rx2_6 h
      replace h := hInv_1 n_3 x2_6 F_cellsIn_7 rx2_6 h
      refine wa_iload_n C 2 rfl dJ7_fill_53178_5 rfl ?_
      refine wa_iload_n C 3 rfl dJ7_fill_53178_6 rfl ?_
      refine wa_icmp_ge C (tgt := 20) rx2_6 (inR_k 4 rfl) dJ7_fill_53178_7 (by decide) (fun c_8 => ?_) (fun c_8 => ?_)
      · replace h := h.1 c_8
        exact ret dJ7_fill_53178_20 ⟨_, rfl, h⟩
      · replace h := h.2 c_8
        refine wa_aload_n C 0 rfl dJ7_fill_53178_10 rfl ?_
        refine wa_iload_n C 2 rfl dJ7_fill_53178_11 rfl ?_
        refine wa_iload_n C 1 rfl dJ7_fill_53178_12 rfl ?_
        obtain ⟨t_9, h⟩ := h
        refine wa_iast C (ws' := fun w9 => (dW D_hasBoard D_beganBlank F_mines F_moves F_changes G_width G_height G_size B_parts B_longest S_groups S_askedGroup S_taken R_waitingCount R_metCount A_grade A_cell A_mined A_withTotal A_numbers X_low X_high Y_low Y_high F_mined F_number F_state w9 F_unknownNear F_hitNear F_moveStart F_changed F_waiting F_seen G_near G_nearEnd B_chosen B_partOf B_rest B_unknowns B_partStart B_cells S_minedSet S_safeSet S_partSet S_tally S_askedTally S_groupOf S_groupSize S_links S_linkEnd S_pick S_groupMinedSet S_groupSafeSet O_sums O_nextSums R_found R_openEnds R_need R_waiting R_waits R_common R_met A_number Q_mined Q_all Q_choices Q_term Q_divisor Q_spare X_limbs X_sum Y_limbs Y_sum)) 15 dW_15 dJ7_fill_53178_13 t_9.1 t_9.2 rx1 dWs_15 (fun F_cellsIn_10 eF_cellsIn_10 => ?_)
        replace h := h F_cellsIn_10 eF_cellsIn_10
        obtain ⟨r_11, h⟩ := h
        refine wa_iinc C (lv' := fun w9 => [(2, .int (iI w9)), (0, .ref (ad 15)), (1, .int (iI x1)), (3, .int (iI 4))]) 2 rfl dJ7_fill_53178_14 (by decide) (fun _ => rfl) (fun x2_12 ex2_12 => ?_)
        replace h := h x2_12 ex2_12
        have rx2_12 : inR x2_12 := by rw [ex2_12]; exact r_11
        refine wa_goto C (tgt := 5) dJ7_fill_53178_17 (by decide) ?_
        obtain ⟨n_13, ln_13, h⟩ := h
        refine wa_sub C [1, 2, 0, 3] rfl ?_
        exact ih_4 n_13 ln_13 x2_12 F_cellsIn_10 rx2_12 h
  refine wa_sub C [2, 3, 1, 0] rfl ?_
  exact k_5 n_2 0 F_cellsIn (inR_k 0 rfl) h0Inv_1
def P_X2_closeAll (post : (Int) → (Int) → (Int → Int) → (Int → Int) → (Int → Int) → (Int → Int) → Prop) (F_moves : Int) (F_changes : Int) (G_size : Int) (F_state : Int → Int) (F_cellsIn : Int → Int) (F_unknownNear : Int → Int) (F_hitNear : Int → Int) (G_nearEnd : Int → Int) : Prop :=
  ∃ Inv_1 : Nat → (Int) → (Int → Int) → (Int → Int) → (Int → Int) → Prop, (∃ n_2 : Nat, Inv_1 n_2 0 F_state F_unknownNear F_hitNear) ∧ ∀ (n_3 : Nat) (x1_6 : Int) (F_state_7 : Int → Int) (F_unknownNear_8 : Int → Int) (F_hitNear_9 : Int → Int), inR x1_6 → Inv_1 n_3 x1_6 F_state_7 F_unknownNear_8 F_hitNear_9 → ((G_size ≤ x1_6 → (P_J7_fill_53178_15 (fun (F_cellsIn_12 : Int → Int) => (∀ F_cellsIn_14 : Int → Int, F_cellsIn_14 = upZ F_cellsIn_12 0 G_size → (post 0 0 F_state_7 F_cellsIn_14 F_unknownNear_8 F_hitNear_9))) F_cellsIn 0)) ∧ (¬ G_size ≤ x1_6 → ((0 ≤ x1_6 ∧ x1_6 < 144) ∧ (∀ F_state_16 : Int → Int, F_state_16 = upZ F_state_7 x1_6 0 → ((0 ≤ x1_6 ∧ x1_6 < 144) ∧ (∀ v_18 : Int, v_18 = G_nearEnd x1_6 → inR v_18 → ((0 ≤ x1_6 ∧ x1_6 < 144) ∧ (inR (v_18 - (x1_6 * 8)) ∧ (∀ F_unknownNear_21 : Int → Int, F_unknownNear_21 = upZ F_unknownNear_8 x1_6 (v_18 - (x1_6 * 8)) → ((0 ≤ x1_6 ∧ x1_6 < 144) ∧ (∀ F_hitNear_23 : Int → Int, F_hitNear_23 = upZ F_hitNear_9 x1_6 0 → (inR (x1_6 + 1) ∧ (∀ x1_25 : Int, x1_25 = (x1_6 + 1) → (∃ n_26 : Nat, n_26 < n_3 ∧ Inv_1 n_26 x1_25 F_state_16 F_unknownNear_21 F_hitNear_23))))))))))))))
set_option maxRecDepth 100000 in
set_option maxHeartbeats 4000000 in
theorem c_X2_closeAll (l : Launch) (K : wK) (ad : Nat → Nat) {D_hasBoard : Int} {D_beganBlank : Int} {F_mines : Int} {F_moves : Int} {F_changes : Int} {G_width : Int} {G_height : Int} {G_size : Int} {B_parts : Int} {B_longest : Int} {S_groups : Int} {S_askedGroup : Int} {S_taken : Int} {R_waitingCount : Int} {R_metCount : Int} {A_grade : Int} {A_cell : Int} {A_mined : Int} {A_withTotal : Int} {A_numbers : Int} {X_low : Int} {X_high : Int} {Y_low : Int} {Y_high : Int} {F_mined : Int → Int} {F_number : Int → Int} {F_state : Int → Int} {F_cellsIn : Int → Int} {F_unknownNear : Int → Int} {F_hitNear : Int → Int} {F_moveStart : Int → Int} {F_changed : Int → Int} {F_waiting : Int → Int} {F_seen : Int → Int} {G_near : Int → Int} {G_nearEnd : Int → Int} {B_chosen : Int → Int} {B_partOf : Int → Int} {B_rest : Int → Int} {B_unknowns : Int → Int} {B_partStart : Int → Int} {B_cells : Int → Int} {S_minedSet : Int → Int} {S_safeSet : Int → Int} {S_partSet : Int → Int} {S_tally : Int → Int} {S_askedTally : Int → Int} {S_groupOf : Int → Int} {S_groupSize : Int → Int} {S_links : Int → Int} {S_linkEnd : Int → Int} {S_pick : Int → Int} {S_groupMinedSet : Int → Int} {S_groupSafeSet : Int → Int} {O_sums : Int → Int64} {O_nextSums : Int → Int64} {R_found : Int → Int} {R_openEnds : Int → Int} {R_need : Int → Int} {R_waiting : Int → Int} {R_waits : Int → Int} {R_common : Int → Int} {R_met : Int → Int} {A_number : Int → Int} {Q_mined : Int → Int64} {Q_all : Int → Int64} {Q_choices : Int → Int64} {Q_term : Int → Int64} {Q_divisor : Int → Int64} {Q_spare : Int → Int64} {X_limbs : Int → Int64} {X_sum : Int → Int64} {Y_limbs : Int → Int64} {Y_sum : Int → Int64}   (post : (Int) → (Int) → (Int → Int) → (Int → Int) → (Int → Int) → (Int → Int) → Prop) (h : P_X2_closeAll post F_moves F_changes G_size F_state F_cellsIn F_unknownNear F_hitNear G_nearEnd) : mV l yX2_closeAll (Cond.code yX2_closeAll cX2_closeAll 2 none :: GT) ({ frames := 3, cells := 0, slots := 0, locals := 180 } : Room) [.ref (ad 1)] K ad (dW D_hasBoard D_beganBlank F_mines F_moves F_changes G_width G_height G_size B_parts B_longest S_groups S_askedGroup S_taken R_waitingCount R_metCount A_grade A_cell A_mined A_withTotal A_numbers X_low X_high Y_low Y_high F_mined F_number F_state F_cellsIn F_unknownNear F_hitNear F_moveStart F_changed F_waiting F_seen G_near G_nearEnd B_chosen B_partOf B_rest B_unknowns B_partStart B_cells S_minedSet S_safeSet S_partSet S_tally S_askedTally S_groupOf S_groupSize S_links S_linkEnd S_pick S_groupMinedSet S_groupSafeSet O_sums O_nextSums R_found R_openEnds R_need R_waiting R_waits R_common R_met A_number Q_mined Q_all Q_choices Q_term Q_divisor Q_spare X_limbs X_sum Y_limbs Y_sum) (fun u9 => ∃ F_moves9 F_changes9 F_state9 F_cellsIn9 F_unknownNear9 F_hitNear9, u9 = (dW D_hasBoard D_beganBlank F_mines F_moves9 F_changes9 G_width G_height G_size B_parts B_longest S_groups S_askedGroup S_taken R_waitingCount R_metCount A_grade A_cell A_mined A_withTotal A_numbers X_low X_high Y_low Y_high F_mined F_number F_state9 F_cellsIn9 F_unknownNear9 F_hitNear9 F_moveStart F_changed F_waiting F_seen G_near G_nearEnd B_chosen B_partOf B_rest B_unknowns B_partStart B_cells S_minedSet S_safeSet S_partSet S_tally S_askedTally S_groupOf S_groupSize S_links S_linkEnd S_pick S_groupMinedSet S_groupSafeSet O_sums O_nextSums R_found R_openEnds R_need R_waiting R_waits R_common R_met A_number Q_mined Q_all Q_choices Q_term Q_divisor Q_spare X_limbs X_sum Y_limbs Y_sum) ∧ post F_moves9 F_changes9 F_state9 F_cellsIn9 F_unknownNear9 F_hitNear9) := by
  refine mV_of (lv0 := [(0, .ref (ad 1))]) (by decide) (Nat.le_of_ble_eq_true rfl) rfl ?_
  intro p e s m args below meth c Q A C ret
  replace C : Cx p ({ frames := 3, cells := 0, slots := 0, locals := 180 } : Room) m c 0 0 cX2_closeAll 2 s args RX2 K A := C
  unfold P_X2_closeAll at h
  refine wa_iconst C (z := 0) dX2_closeAll_0 rfl ?_
  refine wa_istore_n C dX2_closeAll_1 rfl (by decide) rfl ?_
  obtain ⟨Inv_1, ⟨n_2, h0Inv_1⟩, hInv_1⟩ := h
  have k_5 : ∀ (n_3 : Nat) (x1_6 : Int) (F_state_7 : Int → Int) (F_unknownNear_8 : Int → Int) (F_hitNear_9 : Int → Int), inR x1_6 → Inv_1 n_3 x1_6 F_state_7 F_unknownNear_8 F_hitNear_9 → WA p l e ({ frames := 3, cells := 0, slots := 0, locals := 180 } : Room) s m args below meth c 0 0 Q K ad 2 A 2 [(0, .ref (ad 1)), (1, .int (iI x1_6))] [] (dW D_hasBoard D_beganBlank F_mines F_moves F_changes G_width G_height G_size B_parts B_longest S_groups S_askedGroup S_taken R_waitingCount R_metCount A_grade A_cell A_mined A_withTotal A_numbers X_low X_high Y_low Y_high F_mined F_number F_state_7 F_cellsIn F_unknownNear_8 F_hitNear_9 F_moveStart F_changed F_waiting F_seen G_near G_nearEnd B_chosen B_partOf B_rest B_unknowns B_partStart B_cells S_minedSet S_safeSet S_partSet S_tally S_askedTally S_groupOf S_groupSize S_links S_linkEnd S_pick S_groupMinedSet S_groupSafeSet O_sums O_nextSums R_found R_openEnds R_need R_waiting R_waits R_common R_met A_number Q_mined Q_all Q_choices Q_term Q_divisor Q_spare X_limbs X_sum Y_limbs Y_sum) := by
    intro n_3
    induction n_3 using Nat.strongRecOn with
    | ind n_3 ih_4 =>
      intro x1_6 F_state_7 F_unknownNear_8 F_hitNear_9 rx1_6 h
      replace h := hInv_1 n_3 x1_6 F_state_7 F_unknownNear_8 F_hitNear_9 rx1_6 h
      refine wa_iload_n C 1 rfl dX2_closeAll_2 rfl ?_
      refine wa_aload_n C 0 rfl dX2_closeAll_3 rfl ?_
      refine wa_getR C 1 0 dW_1 rfl rfl (by decide) okX2 gw_83 dX2_closeAll_4 ?_
      refine wa_getI C 2 2 dW_2 rfl rfl (by decide) okX3 gw_51 dX2_closeAll_7 (fun r_10 => ?_)
      refine wa_icmp_ge C (tgt := 53) rx1_6 r_10 dX2_closeAll_10 (by decide) (fun c_11 => ?_) (fun c_11 => ?_)
      · replace h := h.1 c_11
        refine wa_aload_n C 0 rfl dX2_closeAll_53 rfl ?_
        refine wa_getR C 1 4 dW_1 rfl rfl (by decide) okX2 gw_102 dX2_closeAll_54 ?_
        refine wa_iconst C (z := 0) dX2_closeAll_57 rfl ?_
        refine wa_callSv C (As := [.ref (ad 15), .int (iI 0)]) (rest := []) (c_J7_fill_53178_15 l K ad 0 (inR_k 0 rfl) _ h) gw_601 gw_599 gw_600 gw_17 q_J7_fill_53178 rfl rfl rfl ⟨by decide, by decide⟩ rfl (Nat.le_of_ble_eq_true rfl) dX2_closeAll_58 (fun u9 hp => ?_)
        obtain ⟨F_cellsIn_12, rfl, h⟩ := hp
        refine wa_aload_n C 0 rfl dX2_closeAll_61 rfl ?_
        refine wa_getR C 1 4 dW_1 rfl rfl (by decide) okX2 gw_102 dX2_closeAll_62 ?_
        refine wa_iconst C (z := 0) dX2_closeAll_65 rfl ?_
        refine wa_aload_n C 0 rfl dX2_closeAll_66 rfl ?_
        refine wa_getR C 1 0 dW_1 rfl rfl (by decide) okX2 gw_83 dX2_closeAll_67 ?_
        refine wa_getI C 2 2 dW_2 rfl rfl (by decide) okX3 gw_51 dX2_closeAll_70 (fun r_13 => ?_)
        refine wa_iast C (ws' := fun w9 => (dW D_hasBoard D_beganBlank F_mines F_moves F_changes G_width G_height G_size B_parts B_longest S_groups S_askedGroup S_taken R_waitingCount R_metCount A_grade A_cell A_mined A_withTotal A_numbers X_low X_high Y_low Y_high F_mined F_number F_state_7 w9 F_unknownNear_8 F_hitNear_9 F_moveStart F_changed F_waiting F_seen G_near G_nearEnd B_chosen B_partOf B_rest B_unknowns B_partStart B_cells S_minedSet S_safeSet S_partSet S_tally S_askedTally S_groupOf S_groupSize S_links S_linkEnd S_pick S_groupMinedSet S_groupSafeSet O_sums O_nextSums R_found R_openEnds R_need R_waiting R_waits R_common R_met A_number Q_mined Q_all Q_choices Q_term Q_divisor Q_spare X_limbs X_sum Y_limbs Y_sum)) 15 dW_15 dX2_closeAll_73 (by decide) (by decide) r_10 dWs_15 (fun F_cellsIn_14 eF_cellsIn_14 => ?_)
        replace h := h F_cellsIn_14 eF_cellsIn_14
        refine wa_aload_n C 0 rfl dX2_closeAll_74 rfl ?_
        refine wa_iconst C (z := 0) dX2_closeAll_75 rfl ?_
        refine wa_putI C (ws' := (dW D_hasBoard D_beganBlank F_mines 0 F_changes G_width G_height G_size B_parts B_longest S_groups S_askedGroup S_taken R_waitingCount R_metCount A_grade A_cell A_mined A_withTotal A_numbers X_low X_high Y_low Y_high F_mined F_number F_state_7 F_cellsIn_14 F_unknownNear_8 F_hitNear_9 F_moveStart F_changed F_waiting F_seen G_near G_nearEnd B_chosen B_partOf B_rest B_unknowns B_partStart B_cells S_minedSet S_safeSet S_partSet S_tally S_askedTally S_groupOf S_groupSize S_links S_linkEnd S_pick S_groupMinedSet S_groupSafeSet O_sums O_nextSums R_found R_openEnds R_need R_waiting R_waits R_common R_met A_number Q_mined Q_all Q_choices Q_term Q_divisor Q_spare X_limbs X_sum Y_limbs Y_sum)) 1 8 dW_1 rfl (by decide) okX2 gw_112 rfl rfl (Nat.le_of_ble_eq_true rfl) (inR_k 0 rfl) (dWp_1_8 _) dX2_closeAll_76 ?_
        refine wa_aload_n C 0 rfl dX2_closeAll_79 rfl ?_
        refine wa_iconst C (z := 0) dX2_closeAll_80 rfl ?_
        refine wa_putI C (ws' := (dW D_hasBoard D_beganBlank F_mines 0 0 G_width G_height G_size B_parts B_longest S_groups S_askedGroup S_taken R_waitingCount R_metCount A_grade A_cell A_mined A_withTotal A_numbers X_low X_high Y_low Y_high F_mined F_number F_state_7 F_cellsIn_14 F_unknownNear_8 F_hitNear_9 F_moveStart F_changed F_waiting F_seen G_near G_nearEnd B_chosen B_partOf B_rest B_unknowns B_partStart B_cells S_minedSet S_safeSet S_partSet S_tally S_askedTally S_groupOf S_groupSize S_links S_linkEnd S_pick S_groupMinedSet S_groupSafeSet O_sums O_nextSums R_found R_openEnds R_need R_waiting R_waits R_common R_met A_number Q_mined Q_all Q_choices Q_term Q_divisor Q_spare X_limbs X_sum Y_limbs Y_sum)) 1 11 dW_1 rfl (by decide) okX2 gw_116 rfl rfl (Nat.le_of_ble_eq_true rfl) (inR_k 0 rfl) (dWp_1_11 _) dX2_closeAll_81 ?_
        exact ret dX2_closeAll_84 ⟨_, _, _, _, _, _, rfl, h⟩
      · replace h := h.2 c_11
        refine wa_aload_n C 0 rfl dX2_closeAll_13 rfl ?_
        refine wa_getR C 1 3 dW_1 rfl rfl (by decide) okX2 gw_96 dX2_closeAll_14 ?_
        refine wa_iload_n C 1 rfl dX2_closeAll_17 rfl ?_
        refine wa_iconst C (z := 0) dX2_closeAll_18 rfl ?_
        obtain ⟨t_15, h⟩ := h
        refine wa_iast C (ws' := fun w9 => (dW D_hasBoard D_beganBlank F_mines F_moves F_changes G_width G_height G_size B_parts B_longest S_groups S_askedGroup S_taken R_waitingCount R_metCount A_grade A_cell A_mined A_withTotal A_numbers X_low X_high Y_low Y_high F_mined F_number w9 F_cellsIn F_unknownNear_8 F_hitNear_9 F_moveStart F_changed F_waiting F_seen G_near G_nearEnd B_chosen B_partOf B_rest B_unknowns B_partStart B_cells S_minedSet S_safeSet S_partSet S_tally S_askedTally S_groupOf S_groupSize S_links S_linkEnd S_pick S_groupMinedSet S_groupSafeSet O_sums O_nextSums R_found R_openEnds R_need R_waiting R_waits R_common R_met A_number Q_mined Q_all Q_choices Q_term Q_divisor Q_spare X_limbs X_sum Y_limbs Y_sum)) 14 dW_14 dX2_closeAll_19 t_15.1 t_15.2 (inR_k 0 rfl) dWs_14 (fun F_state_16 eF_state_16 => ?_)
        replace h := h F_state_16 eF_state_16
        refine wa_aload_n C 0 rfl dX2_closeAll_20 rfl ?_
        refine wa_getR C 1 5 dW_1 rfl rfl (by decide) okX2 gw_104 dX2_closeAll_21 ?_
        refine wa_iload_n C 1 rfl dX2_closeAll_24 rfl ?_
        refine wa_aload_n C 0 rfl dX2_closeAll_25 rfl ?_
        refine wa_getR C 1 0 dW_1 rfl rfl (by decide) okX2 gw_83 dX2_closeAll_26 ?_
        refine wa_getR C 2 4 dW_2 rfl rfl (by decide) okX3 gw_65 dX2_closeAll_29 ?_
        refine wa_iload_n C 1 rfl dX2_closeAll_32 rfl ?_
        obtain ⟨t_17, h⟩ := h
        refine wa_iald C 23 dW_23 dX2_closeAll_33 t_17.1 t_17.2 (fun v_18 ev_18 rv_18 => ?_)
        replace h := h v_18 ev_18 rv_18
        refine wa_iload_n C 1 rfl dX2_closeAll_34 rfl ?_
        refine wa_bipush C (z := 8) dX2_closeAll_35 (by decide) ?_
        refine wa_imul C dX2_closeAll_37 ?_
        refine wa_isub C dX2_closeAll_38 ?_
        obtain ⟨t_19, h⟩ := h
        obtain ⟨r_20, h⟩ := h
        refine wa_iast C (ws' := fun w9 => (dW D_hasBoard D_beganBlank F_mines F_moves F_changes G_width G_height G_size B_parts B_longest S_groups S_askedGroup S_taken R_waitingCount R_metCount A_grade A_cell A_mined A_withTotal A_numbers X_low X_high Y_low Y_high F_mined F_number F_state_16 F_cellsIn w9 F_hitNear_9 F_moveStart F_changed F_waiting F_seen G_near G_nearEnd B_chosen B_partOf B_rest B_unknowns B_partStart B_cells S_minedSet S_safeSet S_partSet S_tally S_askedTally S_groupOf S_groupSize S_links S_linkEnd S_pick S_groupMinedSet S_groupSafeSet O_sums O_nextSums R_found R_openEnds R_need R_waiting R_waits R_common R_met A_number Q_mined Q_all Q_choices Q_term Q_divisor Q_spare X_limbs X_sum Y_limbs Y_sum)) 16 dW_16 dX2_closeAll_39 t_19.1 t_19.2 r_20 dWs_16 (fun F_unknownNear_21 eF_unknownNear_21 => ?_)
        replace h := h F_unknownNear_21 eF_unknownNear_21
        refine wa_aload_n C 0 rfl dX2_closeAll_40 rfl ?_
        refine wa_getR C 1 6 dW_1 rfl rfl (by decide) okX2 gw_107 dX2_closeAll_41 ?_
        refine wa_iload_n C 1 rfl dX2_closeAll_44 rfl ?_
        refine wa_iconst C (z := 0) dX2_closeAll_45 rfl ?_
        obtain ⟨t_22, h⟩ := h
        refine wa_iast C (ws' := fun w9 => (dW D_hasBoard D_beganBlank F_mines F_moves F_changes G_width G_height G_size B_parts B_longest S_groups S_askedGroup S_taken R_waitingCount R_metCount A_grade A_cell A_mined A_withTotal A_numbers X_low X_high Y_low Y_high F_mined F_number F_state_16 F_cellsIn F_unknownNear_21 w9 F_moveStart F_changed F_waiting F_seen G_near G_nearEnd B_chosen B_partOf B_rest B_unknowns B_partStart B_cells S_minedSet S_safeSet S_partSet S_tally S_askedTally S_groupOf S_groupSize S_links S_linkEnd S_pick S_groupMinedSet S_groupSafeSet O_sums O_nextSums R_found R_openEnds R_need R_waiting R_waits R_common R_met A_number Q_mined Q_all Q_choices Q_term Q_divisor Q_spare X_limbs X_sum Y_limbs Y_sum)) 17 dW_17 dX2_closeAll_46 t_22.1 t_22.2 (inR_k 0 rfl) dWs_17 (fun F_hitNear_23 eF_hitNear_23 => ?_)
        replace h := h F_hitNear_23 eF_hitNear_23
        obtain ⟨r_24, h⟩ := h
        refine wa_iinc C (lv' := fun w9 => [(1, .int (iI w9)), (0, .ref (ad 1))]) 1 rfl dX2_closeAll_47 (by decide) (fun _ => rfl) (fun x1_25 ex1_25 => ?_)
        replace h := h x1_25 ex1_25
        have rx1_25 : inR x1_25 := by rw [ex1_25]; exact r_24
        refine wa_goto C (tgt := 2) dX2_closeAll_50 (by decide) ?_
        obtain ⟨n_26, ln_26, h⟩ := h
        refine wa_sub C [1, 0] rfl ?_
        exact ih_4 n_26 ln_26 x1_25 F_state_16 F_unknownNear_21 F_hitNear_23 rx1_25 h
  refine wa_sub C [1, 0] rfl ?_
  exact k_5 n_2 0 F_state F_unknownNear F_hitNear (inR_k 0 rfl) h0Inv_1
def P_X2_begin (post : (Int) → (Int) → (Int) → (Int) → (Int) → (Int) → (Int → Int) → (Int → Int) → (Int → Int) → (Int → Int) → (Int → Int) → (Int → Int) → (Int → Int) → (Int → Int) → Prop) (F_mines : Int) (F_moves : Int) (F_changes : Int) (G_width : Int) (G_height : Int) (G_size : Int) (F_mined : Int → Int) (F_number : Int → Int) (F_state : Int → Int) (F_cellsIn : Int → Int) (F_unknownNear : Int → Int) (F_hitNear : Int → Int) (G_near : Int → Int) (G_nearEnd : Int → Int) (x1 : Int) (x2 : Int) (x3 : Int) : Prop :=
  P_X3_lay (fun (G_width_1 : Int) (G_height_2 : Int) (G_size_3 : Int) (G_near_4 : Int → Int) (G_nearEnd_5 : Int → Int) => (∃ Inv_6 : Nat → (Int) → (Int → Int) → (Int → Int) → Prop, (∃ n_7 : Nat, Inv_6 n_7 0 F_mined F_number) ∧ ∀ (n_8 : Nat) (x4_11 : Int) (F_mined_12 : Int → Int) (F_number_13 : Int → Int), inR x4_11 → Inv_6 n_8 x4_11 F_mined_12 F_number_13 → ((144 ≤ x4_11 → (P_X2_closeAll (fun (F_moves_15 : Int) (F_changes_16 : Int) (F_state_17 : Int → Int) (F_cellsIn_18 : Int → Int) (F_unknownNear_19 : Int → Int) (F_hitNear_20 : Int → Int) => (post 0 F_moves_15 F_changes_16 G_width_1 G_height_2 G_size_3 F_mined_12 F_number_13 F_state_17 F_cellsIn_18 F_unknownNear_19 F_hitNear_20 G_near_4 G_nearEnd_5)) F_moves F_changes G_size_3 F_state F_cellsIn F_unknownNear F_hitNear G_nearEnd_5 )) ∧ (¬ 144 ≤ x4_11 → ((0 ≤ x4_11 ∧ x4_11 < 144) ∧ (∀ F_mined_22 : Int → Int, F_mined_22 = upZ F_mined_12 x4_11 0 → ((0 ≤ x4_11 ∧ x4_11 < 144) ∧ (∀ F_number_24 : Int → Int, F_number_24 = upZ F_number_13 x4_11 0 → (inR (x4_11 + 1) ∧ (∀ x4_26 : Int, x4_26 = (x4_11 + 1) → (∃ n_27 : Nat, n_27 < n_8 ∧ Inv_6 n_27 x4_26 F_mined_22 F_number_24))))))))))) G_width G_height G_size G_near G_nearEnd x1 x2 x3
set_option maxRecDepth 100000 in
set_option maxHeartbeats 4000000 in
theorem c_X2_begin (l : Launch) (K : wK) (ad : Nat → Nat) {D_hasBoard : Int} {D_beganBlank : Int} {F_mines : Int} {F_moves : Int} {F_changes : Int} {G_width : Int} {G_height : Int} {G_size : Int} {B_parts : Int} {B_longest : Int} {S_groups : Int} {S_askedGroup : Int} {S_taken : Int} {R_waitingCount : Int} {R_metCount : Int} {A_grade : Int} {A_cell : Int} {A_mined : Int} {A_withTotal : Int} {A_numbers : Int} {X_low : Int} {X_high : Int} {Y_low : Int} {Y_high : Int} {F_mined : Int → Int} {F_number : Int → Int} {F_state : Int → Int} {F_cellsIn : Int → Int} {F_unknownNear : Int → Int} {F_hitNear : Int → Int} {F_moveStart : Int → Int} {F_changed : Int → Int} {F_waiting : Int → Int} {F_seen : Int → Int} {G_near : Int → Int} {G_nearEnd : Int → Int} {B_chosen : Int → Int} {B_partOf : Int → Int} {B_rest : Int → Int} {B_unknowns : Int → Int} {B_partStart : Int → Int} {B_cells : Int → Int} {S_minedSet : Int → Int} {S_safeSet : Int → Int} {S_partSet : Int → Int} {S_tally : Int → Int} {S_askedTally : Int → Int} {S_groupOf : Int → Int} {S_groupSize : Int → Int} {S_links : Int → Int} {S_linkEnd : Int → Int} {S_pick : Int → Int} {S_groupMinedSet : Int → Int} {S_groupSafeSet : Int → Int} {O_sums : Int → Int64} {O_nextSums : Int → Int64} {R_found : Int → Int} {R_openEnds : Int → Int} {R_need : Int → Int} {R_waiting : Int → Int} {R_waits : Int → Int} {R_common : Int → Int} {R_met : Int → Int} {A_number : Int → Int} {Q_mined : Int → Int64} {Q_all : Int → Int64} {Q_choices : Int → Int64} {Q_term : Int → Int64} {Q_divisor : Int → Int64} {Q_spare : Int → Int64} {X_limbs : Int → Int64} {X_sum : Int → Int64} {Y_limbs : Int → Int64} {Y_sum : Int → Int64} (x1 : Int) (x2 : Int) (x3 : Int) (rx1 : inR x1) (rx2 : inR x2) (rx3 : inR x3) (post : (Int) → (Int) → (Int) → (Int) → (Int) → (Int) → (Int → Int) → (Int → Int) → (Int → Int) → (Int → Int) → (Int → Int) → (Int → Int) → (Int → Int) → (Int → Int) → Prop) (h : P_X2_begin post F_mines F_moves F_changes G_width G_height G_size F_mined F_number F_state F_cellsIn F_unknownNear F_hitNear G_near G_nearEnd x1 x2 x3) : mV l yX2_begin (Cond.code yX2_begin cX2_begin 5 none :: GT) ({ frames := 5, cells := 0, slots := 0, locals := 300 } : Room) [.ref (ad 1), .int (iI x1), .int (iI x2), .int (iI x3)] K ad (dW D_hasBoard D_beganBlank F_mines F_moves F_changes G_width G_height G_size B_parts B_longest S_groups S_askedGroup S_taken R_waitingCount R_metCount A_grade A_cell A_mined A_withTotal A_numbers X_low X_high Y_low Y_high F_mined F_number F_state F_cellsIn F_unknownNear F_hitNear F_moveStart F_changed F_waiting F_seen G_near G_nearEnd B_chosen B_partOf B_rest B_unknowns B_partStart B_cells S_minedSet S_safeSet S_partSet S_tally S_askedTally S_groupOf S_groupSize S_links S_linkEnd S_pick S_groupMinedSet S_groupSafeSet O_sums O_nextSums R_found R_openEnds R_need R_waiting R_waits R_common R_met A_number Q_mined Q_all Q_choices Q_term Q_divisor Q_spare X_limbs X_sum Y_limbs Y_sum) (fun u9 => ∃ F_mines9 F_moves9 F_changes9 G_width9 G_height9 G_size9 F_mined9 F_number9 F_state9 F_cellsIn9 F_unknownNear9 F_hitNear9 G_near9 G_nearEnd9, u9 = (dW D_hasBoard D_beganBlank F_mines9 F_moves9 F_changes9 G_width9 G_height9 G_size9 B_parts B_longest S_groups S_askedGroup S_taken R_waitingCount R_metCount A_grade A_cell A_mined A_withTotal A_numbers X_low X_high Y_low Y_high F_mined9 F_number9 F_state9 F_cellsIn9 F_unknownNear9 F_hitNear9 F_moveStart F_changed F_waiting F_seen G_near9 G_nearEnd9 B_chosen B_partOf B_rest B_unknowns B_partStart B_cells S_minedSet S_safeSet S_partSet S_tally S_askedTally S_groupOf S_groupSize S_links S_linkEnd S_pick S_groupMinedSet S_groupSafeSet O_sums O_nextSums R_found R_openEnds R_need R_waiting R_waits R_common R_met A_number Q_mined Q_all Q_choices Q_term Q_divisor Q_spare X_limbs X_sum Y_limbs Y_sum) ∧ post F_mines9 F_moves9 F_changes9 G_width9 G_height9 G_size9 F_mined9 F_number9 F_state9 F_cellsIn9 F_unknownNear9 F_hitNear9 G_near9 G_nearEnd9) := by
  refine mV_of (lv0 := [(0, .ref (ad 1)), (1, .int (iI x1)), (2, .int (iI x2)), (3, .int (iI x3))]) (by decide) (Nat.le_of_ble_eq_true rfl) rfl ?_
  intro p e s m args below meth c Q A C ret
  replace C : Cx p ({ frames := 5, cells := 0, slots := 0, locals := 300 } : Room) m c 0 0 cX2_begin 5 s args RX2 K A := C
  unfold P_X2_begin at h
  refine wa_aload_n C 0 rfl dX2_begin_0 rfl ?_
  refine wa_getR C 1 0 dW_1 rfl rfl (by decide) okX2 gw_83 dX2_begin_1 ?_
  refine wa_iload_n C 1 rfl dX2_begin_4 rfl ?_
  refine wa_iload_n C 2 rfl dX2_begin_5 rfl ?_
  refine wa_iload_n C 3 rfl dX2_begin_6 rfl ?_
  refine wa_callVv C (k := 2) (As := [.int (iI x1), .int (iI x2), .int (iI x3)]) (rest := []) (c_X3_lay l K ad x1 x2 x3 rx1 rx2 rx3 _ h) gw_571 gw_568 dW_2 rfl gw_569 gw_570 gw_3 q_X3_lay rfl rfl rfl ⟨by decide, by decide⟩ rfl (Nat.le_of_ble_eq_true rfl) dX2_begin_7 (fun u9 hp => ?_)
  obtain ⟨G_width_1, G_height_2, G_size_3, G_near_4, G_nearEnd_5, rfl, h⟩ := hp
  refine wa_iconst C (z := 0) dX2_begin_10 rfl ?_
  refine wa_istore C dX2_begin_11 (by decide) rfl ?_
  obtain ⟨Inv_6, ⟨n_7, h0Inv_6⟩, hInv_6⟩ := h
  have k_10 : ∀ (n_8 : Nat) (x4_11 : Int) (F_mined_12 : Int → Int) (F_number_13 : Int → Int), inR x4_11 → Inv_6 n_8 x4_11 F_mined_12 F_number_13 → WA p l e ({ frames := 5, cells := 0, slots := 0, locals := 300 } : Room) s m args below meth c 0 0 Q K ad 5 A 13 [(0, .ref (ad 1)), (4, .int (iI x4_11))] [] (dW D_hasBoard D_beganBlank F_mines F_moves F_changes G_width_1 G_height_2 G_size_3 B_parts B_longest S_groups S_askedGroup S_taken R_waitingCount R_metCount A_grade A_cell A_mined A_withTotal A_numbers X_low X_high Y_low Y_high F_mined_12 F_number_13 F_state F_cellsIn F_unknownNear F_hitNear F_moveStart F_changed F_waiting F_seen G_near_4 G_nearEnd_5 B_chosen B_partOf B_rest B_unknowns B_partStart B_cells S_minedSet S_safeSet S_partSet S_tally S_askedTally S_groupOf S_groupSize S_links S_linkEnd S_pick S_groupMinedSet S_groupSafeSet O_sums O_nextSums R_found R_openEnds R_need R_waiting R_waits R_common R_met A_number Q_mined Q_all Q_choices Q_term Q_divisor Q_spare X_limbs X_sum Y_limbs Y_sum) := by
    intro n_8
    induction n_8 using Nat.strongRecOn with
    | ind n_8 ih_9 =>
      intro x4_11 F_mined_12 F_number_13 rx4_11 h
      replace h := hInv_6 n_8 x4_11 F_mined_12 F_number_13 rx4_11 h
      refine wa_iload C 1 rfl dX2_begin_13 ?_
      refine wa_sipush C (z := 144) dX2_begin_15 (by decide) ?_
      refine wa_icmp_ge C (tgt := 43) rx4_11 (inR_k 144 rfl) dX2_begin_18 (by decide) (fun c_14 => ?_) (fun c_14 => ?_)
      · replace h := h.1 c_14
        refine wa_aload_n C 0 rfl dX2_begin_43 rfl ?_
        refine wa_iconst C (z := 0) dX2_begin_44 rfl ?_
        refine wa_putI C (ws' := (dW D_hasBoard D_beganBlank 0 F_moves F_changes G_width_1 G_height_2 G_size_3 B_parts B_longest S_groups S_askedGroup S_taken R_waitingCount R_metCount A_grade A_cell A_mined A_withTotal A_numbers X_low X_high Y_low Y_high F_mined_12 F_number_13 F_state F_cellsIn F_unknownNear F_hitNear F_moveStart F_changed F_waiting F_seen G_near_4 G_nearEnd_5 B_chosen B_partOf B_rest B_unknowns B_partStart B_cells S_minedSet S_safeSet S_partSet S_tally S_askedTally S_groupOf S_groupSize S_links S_linkEnd S_pick S_groupMinedSet S_groupSafeSet O_sums O_nextSums R_found R_openEnds R_need R_waiting R_waits R_common R_met A_number Q_mined Q_all Q_choices Q_term Q_divisor Q_spare X_limbs X_sum Y_limbs Y_sum)) 1 7 dW_1 rfl (by decide) okX2 gw_110 rfl rfl (Nat.le_of_ble_eq_true rfl) (inR_k 0 rfl) (dWp_1_7 _) dX2_begin_45 ?_
        refine wa_aload_n C 0 rfl dX2_begin_48 rfl ?_
        refine wa_callVv C (k := 1) (As := []) (rest := []) (c_X2_closeAll l K ad  _ h) gw_598 gw_595 dW_1 rfl gw_596 gw_597 gw_2 q_X2_closeAll rfl rfl rfl ⟨by decide, by decide⟩ rfl (Nat.le_of_ble_eq_true rfl) dX2_begin_49 (fun u9 hp => ?_)
        obtain ⟨F_moves_15, F_changes_16, F_state_17, F_cellsIn_18, F_unknownNear_19, F_hitNear_20, rfl, h⟩ := hp
        exact ret dX2_begin_52 ⟨_, _, _, _, _, _, _, _, _, _, _, _, _, _, rfl, h⟩
      · replace h := h.2 c_14
        refine wa_aload_n C 0 rfl dX2_begin_21 rfl ?_
        refine wa_getR C 1 1 dW_1 rfl rfl (by decide) okX2 gw_89 dX2_begin_22 ?_
        refine wa_iload C 1 rfl dX2_begin_25 ?_
        refine wa_iconst C (z := 0) dX2_begin_27 rfl ?_
        obtain ⟨t_21, h⟩ := h
        refine wa_bast C (ws' := fun w9 => (dW D_hasBoard D_beganBlank F_mines F_moves F_changes G_width_1 G_height_2 G_size_3 B_parts B_longest S_groups S_askedGroup S_taken R_waitingCount R_metCount A_grade A_cell A_mined A_withTotal A_numbers X_low X_high Y_low Y_high w9 F_number_13 F_state F_cellsIn F_unknownNear F_hitNear F_moveStart F_changed F_waiting F_seen G_near_4 G_nearEnd_5 B_chosen B_partOf B_rest B_unknowns B_partStart B_cells S_minedSet S_safeSet S_partSet S_tally S_askedTally S_groupOf S_groupSize S_links S_linkEnd S_pick S_groupMinedSet S_groupSafeSet O_sums O_nextSums R_found R_openEnds R_need R_waiting R_waits R_common R_met A_number Q_mined Q_all Q_choices Q_term Q_divisor Q_spare X_limbs X_sum Y_limbs Y_sum)) 12 dW_12 dX2_begin_28 t_21.1 t_21.2 (Or.inl rfl) dWs_12 (fun F_mined_22 eF_mined_22 => ?_)
        replace h := h F_mined_22 eF_mined_22
        refine wa_aload_n C 0 rfl dX2_begin_29 rfl ?_
        refine wa_getR C 1 2 dW_1 rfl rfl (by decide) okX2 gw_92 dX2_begin_30 ?_
        refine wa_iload C 1 rfl dX2_begin_33 ?_
        refine wa_iconst C (z := 0) dX2_begin_35 rfl ?_
        obtain ⟨t_23, h⟩ := h
        refine wa_iast C (ws' := fun w9 => (dW D_hasBoard D_beganBlank F_mines F_moves F_changes G_width_1 G_height_2 G_size_3 B_parts B_longest S_groups S_askedGroup S_taken R_waitingCount R_metCount A_grade A_cell A_mined A_withTotal A_numbers X_low X_high Y_low Y_high F_mined_22 w9 F_state F_cellsIn F_unknownNear F_hitNear F_moveStart F_changed F_waiting F_seen G_near_4 G_nearEnd_5 B_chosen B_partOf B_rest B_unknowns B_partStart B_cells S_minedSet S_safeSet S_partSet S_tally S_askedTally S_groupOf S_groupSize S_links S_linkEnd S_pick S_groupMinedSet S_groupSafeSet O_sums O_nextSums R_found R_openEnds R_need R_waiting R_waits R_common R_met A_number Q_mined Q_all Q_choices Q_term Q_divisor Q_spare X_limbs X_sum Y_limbs Y_sum)) 13 dW_13 dX2_begin_36 t_23.1 t_23.2 (inR_k 0 rfl) dWs_13 (fun F_number_24 eF_number_24 => ?_)
        replace h := h F_number_24 eF_number_24
        obtain ⟨r_25, h⟩ := h
        refine wa_iinc C (lv' := fun w9 => [(4, .int (iI w9)), (0, .ref (ad 1))]) 1 rfl dX2_begin_37 (by decide) (fun _ => rfl) (fun x4_26 ex4_26 => ?_)
        replace h := h x4_26 ex4_26
        have rx4_26 : inR x4_26 := by rw [ex4_26]; exact r_25
        refine wa_goto C (tgt := 13) dX2_begin_40 (by decide) ?_
        obtain ⟨n_27, ln_27, h⟩ := h
        refine wa_sub C [1, 0] rfl ?_
        exact ih_9 n_27 ln_27 x4_26 F_mined_22 F_number_24 rx4_26 h
  refine wa_sub C [1, 0] rfl ?_
  exact k_10 n_7 0 F_mined F_number (inR_k 0 rfl) h0Inv_6
def P_X2_setMine (post : (Int) → (Int → Int) → (Int → Int) → Prop) (F_mines : Int) (F_mined : Int → Int) (F_number : Int → Int) (G_near : Int → Int) (G_nearEnd : Int → Int) (x1 : Int) (x2 : Int) : Prop :=
  (0 ≤ x1 ∧ x1 < 144) ∧ (∀ v_2 : Int, v_2 = F_mined x1 → (v_2 = 0 ∨ v_2 = 1) → ((¬ v_2 = x2 → (∃ J_4 : (Int) → Prop, ((x2 = 0 → (J_4 (-1))) ∧ (¬ x2 = 0 → (J_4 1))) ∧ (∀ (z_6 : Int), inR z_6 → J_4 z_6 → ((0 ≤ x1 ∧ x1 < 144) ∧ (∀ F_mined_8 : Int → Int, F_mined_8 = upZ F_mined x1 x2 → (inR (F_mines + z_6) ∧ (∀ F_mines_11 : Int, F_mines_11 = (F_mines + z_6) → (inR (x1 * 8) ∧ (∀ x4_13 : Int, x4_13 = (x1 * 8) → (∃ Inv_14 : Nat → (Int) → (Int → Int) → Prop, (∃ n_15 : Nat, Inv_14 n_15 x4_13 F_number) ∧ ∀ (n_16 : Nat) (x4_19 : Int) (F_number_20 : Int → Int), inR x4_19 → Inv_14 n_16 x4_19 F_number_20 → ((0 ≤ x1 ∧ x1 < 144) ∧ (∀ v_22 : Int, v_22 = G_nearEnd x1 → inR v_22 → ((v_22 ≤ x4_19 → (post F_mines_11 F_mined_8 F_number_20)) ∧ (¬ v_22 ≤ x4_19 → ((0 ≤ x4_19 ∧ x4_19 < 1152) ∧ (∀ v_25 : Int, v_25 = G_near x4_19 → inR v_25 → ((0 ≤ v_25 ∧ v_25 < 144) ∧ (∀ v_27 : Int, v_27 = F_number_20 v_25 → inR v_27 → ((0 ≤ v_25 ∧ v_25 < 144) ∧ (inR (v_27 + z_6) ∧ (∀ F_number_30 : Int → Int, F_number_30 = upZ F_number_20 v_25 (v_27 + z_6) → (inR (x4_19 + 1) ∧ (∀ x4_32 : Int, x4_32 = (x4_19 + 1) → (∃ n_33 : Nat, n_33 < n_16 ∧ Inv_14 n_33 x4_32 F_number_30)))))))))))))))))))))))) ∧ (v_2 = x2 → (post F_mines F_mined F_number))))
set_option maxRecDepth 100000 in
set_option maxHeartbeats 4000000 in
theorem c_X2_setMine (l : Launch) (K : wK) (ad : Nat → Nat) {D_hasBoard : Int} {D_beganBlank : Int} {F_mines : Int} {F_moves : Int} {F_changes : Int} {G_width : Int} {G_height : Int} {G_size : Int} {B_parts : Int} {B_longest : Int} {S_groups : Int} {S_askedGroup : Int} {S_taken : Int} {R_waitingCount : Int} {R_metCount : Int} {A_grade : Int} {A_cell : Int} {A_mined : Int} {A_withTotal : Int} {A_numbers : Int} {X_low : Int} {X_high : Int} {Y_low : Int} {Y_high : Int} {F_mined : Int → Int} {F_number : Int → Int} {F_state : Int → Int} {F_cellsIn : Int → Int} {F_unknownNear : Int → Int} {F_hitNear : Int → Int} {F_moveStart : Int → Int} {F_changed : Int → Int} {F_waiting : Int → Int} {F_seen : Int → Int} {G_near : Int → Int} {G_nearEnd : Int → Int} {B_chosen : Int → Int} {B_partOf : Int → Int} {B_rest : Int → Int} {B_unknowns : Int → Int} {B_partStart : Int → Int} {B_cells : Int → Int} {S_minedSet : Int → Int} {S_safeSet : Int → Int} {S_partSet : Int → Int} {S_tally : Int → Int} {S_askedTally : Int → Int} {S_groupOf : Int → Int} {S_groupSize : Int → Int} {S_links : Int → Int} {S_linkEnd : Int → Int} {S_pick : Int → Int} {S_groupMinedSet : Int → Int} {S_groupSafeSet : Int → Int} {O_sums : Int → Int64} {O_nextSums : Int → Int64} {R_found : Int → Int} {R_openEnds : Int → Int} {R_need : Int → Int} {R_waiting : Int → Int} {R_waits : Int → Int} {R_common : Int → Int} {R_met : Int → Int} {A_number : Int → Int} {Q_mined : Int → Int64} {Q_all : Int → Int64} {Q_choices : Int → Int64} {Q_term : Int → Int64} {Q_divisor : Int → Int64} {Q_spare : Int → Int64} {X_limbs : Int → Int64} {X_sum : Int → Int64} {Y_limbs : Int → Int64} {Y_sum : Int → Int64} (x1 : Int) (x2 : Int) (rx1 : inR x1) (bx2 : x2 = 0 ∨ x2 = 1) (post : (Int) → (Int → Int) → (Int → Int) → Prop) (h : P_X2_setMine post F_mines F_mined F_number G_near G_nearEnd x1 x2) : mV l yX2_setMine (Cond.code yX2_setMine cX2_setMine 5 none :: GT) ({ frames := 2, cells := 0, slots := 0, locals := 120 } : Room) [.ref (ad 1), .int (iI x1), .int (iI x2)] K ad (dW D_hasBoard D_beganBlank F_mines F_moves F_changes G_width G_height G_size B_parts B_longest S_groups S_askedGroup S_taken R_waitingCount R_metCount A_grade A_cell A_mined A_withTotal A_numbers X_low X_high Y_low Y_high F_mined F_number F_state F_cellsIn F_unknownNear F_hitNear F_moveStart F_changed F_waiting F_seen G_near G_nearEnd B_chosen B_partOf B_rest B_unknowns B_partStart B_cells S_minedSet S_safeSet S_partSet S_tally S_askedTally S_groupOf S_groupSize S_links S_linkEnd S_pick S_groupMinedSet S_groupSafeSet O_sums O_nextSums R_found R_openEnds R_need R_waiting R_waits R_common R_met A_number Q_mined Q_all Q_choices Q_term Q_divisor Q_spare X_limbs X_sum Y_limbs Y_sum) (fun u9 => ∃ F_mines9 F_mined9 F_number9, u9 = (dW D_hasBoard D_beganBlank F_mines9 F_moves F_changes G_width G_height G_size B_parts B_longest S_groups S_askedGroup S_taken R_waitingCount R_metCount A_grade A_cell A_mined A_withTotal A_numbers X_low X_high Y_low Y_high F_mined9 F_number9 F_state F_cellsIn F_unknownNear F_hitNear F_moveStart F_changed F_waiting F_seen G_near G_nearEnd B_chosen B_partOf B_rest B_unknowns B_partStart B_cells S_minedSet S_safeSet S_partSet S_tally S_askedTally S_groupOf S_groupSize S_links S_linkEnd S_pick S_groupMinedSet S_groupSafeSet O_sums O_nextSums R_found R_openEnds R_need R_waiting R_waits R_common R_met A_number Q_mined Q_all Q_choices Q_term Q_divisor Q_spare X_limbs X_sum Y_limbs Y_sum) ∧ post F_mines9 F_mined9 F_number9) := by
  refine mV_of (lv0 := [(0, .ref (ad 1)), (1, .int (iI x1)), (2, .int (iI x2))]) (by decide) (Nat.le_of_ble_eq_true rfl) rfl ?_
  intro p e s m args below meth c Q A C ret
  replace C : Cx p ({ frames := 2, cells := 0, slots := 0, locals := 120 } : Room) m c 0 0 cX2_setMine 5 s args RX2 K A := C
  unfold P_X2_setMine at h
  refine wa_aload_n C 0 rfl dX2_setMine_0 rfl ?_
  refine wa_getR C 1 1 dW_1 rfl rfl (by decide) okX2 gw_89 dX2_setMine_1 ?_
  refine wa_iload_n C 1 rfl dX2_setMine_4 rfl ?_
  obtain ⟨t_1, h⟩ := h
  refine wa_bald C 12 dW_12 dX2_setMine_5 t_1.1 t_1.2 (fun v_2 ev_2 rv_2 => ?_)
  replace h := h v_2 ev_2 rv_2
  refine wa_iload_n C 2 rfl dX2_setMine_6 rfl ?_
  refine wa_icmp_ne C (tgt := 11) (inR_b rv_2) (inR_b bx2) dX2_setMine_7 (by decide) (fun c_3 => ?_) (fun c_3 => ?_)
  · replace h := h.1 c_3
    refine wa_iload_n C 2 rfl dX2_setMine_11 rfl ?_
    obtain ⟨J_4, h, hJ_4⟩ := h
    have k_5 : ∀ (z_6 : Int), inR z_6 → J_4 z_6 → WA p l e ({ frames := 2, cells := 0, slots := 0, locals := 120 } : Room) s m args below meth c 0 0 Q K ad 5 A 20 [(0, .ref (ad 1)), (1, .int (iI x1)), (2, .int (iI x2))] [.int (iI z_6)] (dW D_hasBoard D_beganBlank F_mines F_moves F_changes G_width G_height G_size B_parts B_longest S_groups S_askedGroup S_taken R_waitingCount R_metCount A_grade A_cell A_mined A_withTotal A_numbers X_low X_high Y_low Y_high F_mined F_number F_state F_cellsIn F_unknownNear F_hitNear F_moveStart F_changed F_waiting F_seen G_near G_nearEnd B_chosen B_partOf B_rest B_unknowns B_partStart B_cells S_minedSet S_safeSet S_partSet S_tally S_askedTally S_groupOf S_groupSize S_links S_linkEnd S_pick S_groupMinedSet S_groupSafeSet O_sums O_nextSums R_found R_openEnds R_need R_waiting R_waits R_common R_met A_number Q_mined Q_all Q_choices Q_term Q_divisor Q_spare X_limbs X_sum Y_limbs Y_sum) := by
      intro z_6 rz_6 h
      replace h := hJ_4 z_6 rz_6 h
      refine wa_istore_n C dX2_setMine_20 rfl (by decide) rfl ?_
      refine wa_aload_n C 1 rfl dX2_setMine_21 rfl ?_
      refine wa_getR C 1 1 dW_1 rfl rfl (by decide) okX2 gw_89 dX2_setMine_22 ?_
      refine wa_iload_n C 2 rfl dX2_setMine_25 rfl ?_
      refine wa_iload_n C 3 rfl dX2_setMine_26 rfl ?_
      obtain ⟨t_7, h⟩ := h
      refine wa_bast C (ws' := fun w9 => (dW D_hasBoard D_beganBlank F_mines F_moves F_changes G_width G_height G_size B_parts B_longest S_groups S_askedGroup S_taken R_waitingCount R_metCount A_grade A_cell A_mined A_withTotal A_numbers X_low X_high Y_low Y_high w9 F_number F_state F_cellsIn F_unknownNear F_hitNear F_moveStart F_changed F_waiting F_seen G_near G_nearEnd B_chosen B_partOf B_rest B_unknowns B_partStart B_cells S_minedSet S_safeSet S_partSet S_tally S_askedTally S_groupOf S_groupSize S_links S_linkEnd S_pick S_groupMinedSet S_groupSafeSet O_sums O_nextSums R_found R_openEnds R_need R_waiting R_waits R_common R_met A_number Q_mined Q_all Q_choices Q_term Q_divisor Q_spare X_limbs X_sum Y_limbs Y_sum)) 12 dW_12 dX2_setMine_27 t_7.1 t_7.2 bx2 dWs_12 (fun F_mined_8 eF_mined_8 => ?_)
      replace h := h F_mined_8 eF_mined_8
      refine wa_aload_n C 1 rfl dX2_setMine_28 rfl ?_
      refine wa_dup C dX2_setMine_29 rfl ?_
      refine wa_getI C 1 7 dW_1 rfl rfl (by decide) okX2 gw_110 dX2_setMine_30 (fun r_9 => ?_)
      refine wa_iload_n C 0 rfl dX2_setMine_33 rfl ?_
      refine wa_iadd C dX2_setMine_34 ?_
      obtain ⟨r_10, h⟩ := h
      refine wa_nmi (fun F_mines_11 eF_mines_11 => ?_)
      replace h := h F_mines_11 eF_mines_11
      have rF_mines_11 : inR F_mines_11 := by rw [eF_mines_11]; exact r_10
      refine wa_putI C (ws' := (dW D_hasBoard D_beganBlank F_mines_11 F_moves F_changes G_width G_height G_size B_parts B_longest S_groups S_askedGroup S_taken R_waitingCount R_metCount A_grade A_cell A_mined A_withTotal A_numbers X_low X_high Y_low Y_high F_mined_8 F_number F_state F_cellsIn F_unknownNear F_hitNear F_moveStart F_changed F_waiting F_seen G_near G_nearEnd B_chosen B_partOf B_rest B_unknowns B_partStart B_cells S_minedSet S_safeSet S_partSet S_tally S_askedTally S_groupOf S_groupSize S_links S_linkEnd S_pick S_groupMinedSet S_groupSafeSet O_sums O_nextSums R_found R_openEnds R_need R_waiting R_waits R_common R_met A_number Q_mined Q_all Q_choices Q_term Q_divisor Q_spare X_limbs X_sum Y_limbs Y_sum)) 1 7 dW_1 rfl (by decide) okX2 gw_110 rfl rfl (Nat.le_of_ble_eq_true rfl) rF_mines_11 (dWp_1_7 _) dX2_setMine_35 ?_
      refine wa_iload_n C 2 rfl dX2_setMine_38 rfl ?_
      refine wa_bipush C (z := 8) dX2_setMine_39 (by decide) ?_
      refine wa_imul C dX2_setMine_41 ?_
      obtain ⟨r_12, h⟩ := h
      refine wa_nmi (fun x4_13 ex4_13 => ?_)
      replace h := h x4_13 ex4_13
      have rx4_13 : inR x4_13 := by rw [ex4_13]; exact r_12
      refine wa_istore C dX2_setMine_42 (by decide) rfl ?_
      obtain ⟨Inv_14, ⟨n_15, h0Inv_14⟩, hInv_14⟩ := h
      have k_18 : ∀ (n_16 : Nat) (x4_19 : Int) (F_number_20 : Int → Int), inR x4_19 → Inv_14 n_16 x4_19 F_number_20 → WA p l e ({ frames := 2, cells := 0, slots := 0, locals := 120 } : Room) s m args below meth c 0 0 Q K ad 5 A 44 [(0, .ref (ad 1)), (1, .int (iI x1)), (3, .int (iI z_6)), (4, .int (iI x4_19))] [] (dW D_hasBoard D_beganBlank F_mines_11 F_moves F_changes G_width G_height G_size B_parts B_longest S_groups S_askedGroup S_taken R_waitingCount R_metCount A_grade A_cell A_mined A_withTotal A_numbers X_low X_high Y_low Y_high F_mined_8 F_number_20 F_state F_cellsIn F_unknownNear F_hitNear F_moveStart F_changed F_waiting F_seen G_near G_nearEnd B_chosen B_partOf B_rest B_unknowns B_partStart B_cells S_minedSet S_safeSet S_partSet S_tally S_askedTally S_groupOf S_groupSize S_links S_linkEnd S_pick S_groupMinedSet S_groupSafeSet O_sums O_nextSums R_found R_openEnds R_need R_waiting R_waits R_common R_met A_number Q_mined Q_all Q_choices Q_term Q_divisor Q_spare X_limbs X_sum Y_limbs Y_sum) := by
        intro n_16
        induction n_16 using Nat.strongRecOn with
        | ind n_16 ih_17 =>
          intro x4_19 F_number_20 rx4_19 h
          replace h := hInv_14 n_16 x4_19 F_number_20 rx4_19 h
          refine wa_iload C 3 rfl dX2_setMine_44 ?_
          refine wa_aload_n C 0 rfl dX2_setMine_46 rfl ?_
          refine wa_getR C 1 0 dW_1 rfl rfl (by decide) okX2 gw_83 dX2_setMine_47 ?_
          refine wa_getR C 2 4 dW_2 rfl rfl (by decide) okX3 gw_65 dX2_setMine_50 ?_
          refine wa_iload_n C 1 rfl dX2_setMine_53 rfl ?_
          obtain ⟨t_21, h⟩ := h
          refine wa_iald C 23 dW_23 dX2_setMine_54 t_21.1 t_21.2 (fun v_22 ev_22 rv_22 => ?_)
          replace h := h v_22 ev_22 rv_22
          refine wa_icmp_ge C (tgt := 83) rx4_19 rv_22 dX2_setMine_55 (by decide) (fun c_23 => ?_) (fun c_23 => ?_)
          · replace h := h.1 c_23
            exact ret dX2_setMine_83 ⟨_, _, _, rfl, h⟩
          · replace h := h.2 c_23
            refine wa_aload_n C 0 rfl dX2_setMine_58 rfl ?_
            refine wa_getR C 1 2 dW_1 rfl rfl (by decide) okX2 gw_92 dX2_setMine_59 ?_
            refine wa_aload_n C 0 rfl dX2_setMine_62 rfl ?_
            refine wa_getR C 1 0 dW_1 rfl rfl (by decide) okX2 gw_83 dX2_setMine_63 ?_
            refine wa_getR C 2 3 dW_2 rfl rfl (by decide) okX3 gw_59 dX2_setMine_66 ?_
            refine wa_iload C 3 rfl dX2_setMine_69 ?_
            obtain ⟨t_24, h⟩ := h
            refine wa_iald C 22 dW_22 dX2_setMine_71 t_24.1 t_24.2 (fun v_25 ev_25 rv_25 => ?_)
            replace h := h v_25 ev_25 rv_25
            refine wa_dup2 C dX2_setMine_72 rfl rfl ?_
            obtain ⟨t_26, h⟩ := h
            refine wa_iald C 13 dW_13 dX2_setMine_73 t_26.1 t_26.2 (fun v_27 ev_27 rv_27 => ?_)
            replace h := h v_27 ev_27 rv_27
            refine wa_iload_n C 2 rfl dX2_setMine_74 rfl ?_
            refine wa_iadd C dX2_setMine_75 ?_
            obtain ⟨t_28, h⟩ := h
            obtain ⟨r_29, h⟩ := h
            refine wa_iast C (ws' := fun w9 => (dW D_hasBoard D_beganBlank F_mines_11 F_moves F_changes G_width G_height G_size B_parts B_longest S_groups S_askedGroup S_taken R_waitingCount R_metCount A_grade A_cell A_mined A_withTotal A_numbers X_low X_high Y_low Y_high F_mined_8 w9 F_state F_cellsIn F_unknownNear F_hitNear F_moveStart F_changed F_waiting F_seen G_near G_nearEnd B_chosen B_partOf B_rest B_unknowns B_partStart B_cells S_minedSet S_safeSet S_partSet S_tally S_askedTally S_groupOf S_groupSize S_links S_linkEnd S_pick S_groupMinedSet S_groupSafeSet O_sums O_nextSums R_found R_openEnds R_need R_waiting R_waits R_common R_met A_number Q_mined Q_all Q_choices Q_term Q_divisor Q_spare X_limbs X_sum Y_limbs Y_sum)) 13 dW_13 dX2_setMine_76 t_28.1 t_28.2 r_29 dWs_13 (fun F_number_30 eF_number_30 => ?_)
            replace h := h F_number_30 eF_number_30
            obtain ⟨r_31, h⟩ := h
            refine wa_iinc C (lv' := fun w9 => [(4, .int (iI w9)), (0, .ref (ad 1)), (1, .int (iI x1)), (3, .int (iI z_6))]) 3 rfl dX2_setMine_77 (by decide) (fun _ => rfl) (fun x4_32 ex4_32 => ?_)
            replace h := h x4_32 ex4_32
            have rx4_32 : inR x4_32 := by rw [ex4_32]; exact r_31
            refine wa_goto C (tgt := 44) dX2_setMine_80 (by decide) ?_
            obtain ⟨n_33, ln_33, h⟩ := h
            refine wa_sub C [1, 2, 3, 0] rfl ?_
            exact ih_17 n_33 ln_33 x4_32 F_number_30 rx4_32 h
      refine wa_sub C [2, 3, 1, 0] rfl ?_
      exact k_18 n_15 x4_13 F_number rx4_13 h0Inv_14
    refine wa_if_eq C (tgt := 19) (inR_b bx2) dX2_setMine_12 (by decide) (fun c_34 => ?_) (fun c_34 => ?_)
    · replace h := h.1 c_34
      refine wa_iconst C (z := -1) dX2_setMine_19 rfl ?_
      refine wa_sub C [0, 1, 2] rfl ?_
      exact k_5 (-1) (inR_k (-1) rfl) h
    · replace h := h.2 c_34
      refine wa_iconst C (z := 1) dX2_setMine_15 rfl ?_
      refine wa_goto C (tgt := 20) dX2_setMine_16 (by decide) ?_
      refine wa_sub C [0, 1, 2] rfl ?_
      exact k_5 1 (inR_k 1 rfl) h
  · replace h := h.2 c_3
    exact ret dX2_setMine_10 ⟨_, _, _, rfl, h⟩
def P_X2_isUnknown (post : Int → Prop) (F_state : Int → Int) (x1 : Int) : Prop :=
  (0 ≤ x1 ∧ x1 < 144) ∧ (∀ v_2 : Int, v_2 = F_state x1 → inR v_2 → (∃ J_3 : (Int) → Prop, ((1 < v_2 → (J_3 0)) ∧ (¬ 1 < v_2 → (J_3 1))) ∧ (∀ (z_5 : Int), inR z_5 → J_3 z_5 → ((z_5 = 0 ∨ z_5 = 1) ∧ (post z_5)))))
set_option maxRecDepth 100000 in
set_option maxHeartbeats 4000000 in
theorem c_X2_isUnknown (l : Launch) (K : wK) (ad : Nat → Nat) {D_hasBoard : Int} {D_beganBlank : Int} {F_mines : Int} {F_moves : Int} {F_changes : Int} {G_width : Int} {G_height : Int} {G_size : Int} {B_parts : Int} {B_longest : Int} {S_groups : Int} {S_askedGroup : Int} {S_taken : Int} {R_waitingCount : Int} {R_metCount : Int} {A_grade : Int} {A_cell : Int} {A_mined : Int} {A_withTotal : Int} {A_numbers : Int} {X_low : Int} {X_high : Int} {Y_low : Int} {Y_high : Int} {F_mined : Int → Int} {F_number : Int → Int} {F_state : Int → Int} {F_cellsIn : Int → Int} {F_unknownNear : Int → Int} {F_hitNear : Int → Int} {F_moveStart : Int → Int} {F_changed : Int → Int} {F_waiting : Int → Int} {F_seen : Int → Int} {G_near : Int → Int} {G_nearEnd : Int → Int} {B_chosen : Int → Int} {B_partOf : Int → Int} {B_rest : Int → Int} {B_unknowns : Int → Int} {B_partStart : Int → Int} {B_cells : Int → Int} {S_minedSet : Int → Int} {S_safeSet : Int → Int} {S_partSet : Int → Int} {S_tally : Int → Int} {S_askedTally : Int → Int} {S_groupOf : Int → Int} {S_groupSize : Int → Int} {S_links : Int → Int} {S_linkEnd : Int → Int} {S_pick : Int → Int} {S_groupMinedSet : Int → Int} {S_groupSafeSet : Int → Int} {O_sums : Int → Int64} {O_nextSums : Int → Int64} {R_found : Int → Int} {R_openEnds : Int → Int} {R_need : Int → Int} {R_waiting : Int → Int} {R_waits : Int → Int} {R_common : Int → Int} {R_met : Int → Int} {A_number : Int → Int} {Q_mined : Int → Int64} {Q_all : Int → Int64} {Q_choices : Int → Int64} {Q_term : Int → Int64} {Q_divisor : Int → Int64} {Q_spare : Int → Int64} {X_limbs : Int → Int64} {X_sum : Int → Int64} {Y_limbs : Int → Int64} {Y_sum : Int → Int64} (x1 : Int) (rx1 : inR x1) (post : Int → Prop) (h : P_X2_isUnknown post F_state x1) : mI l yX2_isUnknown (Cond.code yX2_isUnknown cX2_isUnknown 2 (some .boolean) :: GT) ({ frames := 2, cells := 0, slots := 0, locals := 120 } : Room) [.ref (ad 1), .int (iI x1)] K ad (dW D_hasBoard D_beganBlank F_mines F_moves F_changes G_width G_height G_size B_parts B_longest S_groups S_askedGroup S_taken R_waitingCount R_metCount A_grade A_cell A_mined A_withTotal A_numbers X_low X_high Y_low Y_high F_mined F_number F_state F_cellsIn F_unknownNear F_hitNear F_moveStart F_changed F_waiting F_seen G_near G_nearEnd B_chosen B_partOf B_rest B_unknowns B_partStart B_cells S_minedSet S_safeSet S_partSet S_tally S_askedTally S_groupOf S_groupSize S_links S_linkEnd S_pick S_groupMinedSet S_groupSafeSet O_sums O_nextSums R_found R_openEnds R_need R_waiting R_waits R_common R_met A_number Q_mined Q_all Q_choices Q_term Q_divisor Q_spare X_limbs X_sum Y_limbs Y_sum) (fun z9 u9 => (z9 = 0 ∨ z9 = 1) ∧ u9 = (dW D_hasBoard D_beganBlank F_mines F_moves F_changes G_width G_height G_size B_parts B_longest S_groups S_askedGroup S_taken R_waitingCount R_metCount A_grade A_cell A_mined A_withTotal A_numbers X_low X_high Y_low Y_high F_mined F_number F_state F_cellsIn F_unknownNear F_hitNear F_moveStart F_changed F_waiting F_seen G_near G_nearEnd B_chosen B_partOf B_rest B_unknowns B_partStart B_cells S_minedSet S_safeSet S_partSet S_tally S_askedTally S_groupOf S_groupSize S_links S_linkEnd S_pick S_groupMinedSet S_groupSafeSet O_sums O_nextSums R_found R_openEnds R_need R_waiting R_waits R_common R_met A_number Q_mined Q_all Q_choices Q_term Q_divisor Q_spare X_limbs X_sum Y_limbs Y_sum) ∧ post z9) := by
  refine mZ_of (lv0 := [(0, .ref (ad 1)), (1, .int (iI x1))]) (by decide) (Nat.le_of_ble_eq_true rfl) rfl ?_
  intro p e s m args below meth c Q A C ret
  replace C : Cx p ({ frames := 2, cells := 0, slots := 0, locals := 120 } : Room) m c 0 0 cX2_isUnknown 2 s args RX2 K A := C
  unfold P_X2_isUnknown at h
  refine wa_aload_n C 0 rfl dX2_isUnknown_0 rfl ?_
  refine wa_getR C 1 3 dW_1 rfl rfl (by decide) okX2 gw_96 dX2_isUnknown_1 ?_
  refine wa_iload_n C 1 rfl dX2_isUnknown_4 rfl ?_
  obtain ⟨t_1, h⟩ := h
  refine wa_iald C 14 dW_14 dX2_isUnknown_5 t_1.1 t_1.2 (fun v_2 ev_2 rv_2 => ?_)
  replace h := h v_2 ev_2 rv_2
  refine wa_iconst C (z := 1) dX2_isUnknown_6 rfl ?_
  obtain ⟨J_3, h, hJ_3⟩ := h
  have k_4 : ∀ (z_5 : Int), inR z_5 → J_3 z_5 → WA p l e ({ frames := 2, cells := 0, slots := 0, locals := 120 } : Room) s m args below meth c 0 0 Q K ad 2 A 15 [] [.int (iI z_5)] (dW D_hasBoard D_beganBlank F_mines F_moves F_changes G_width G_height G_size B_parts B_longest S_groups S_askedGroup S_taken R_waitingCount R_metCount A_grade A_cell A_mined A_withTotal A_numbers X_low X_high Y_low Y_high F_mined F_number F_state F_cellsIn F_unknownNear F_hitNear F_moveStart F_changed F_waiting F_seen G_near G_nearEnd B_chosen B_partOf B_rest B_unknowns B_partStart B_cells S_minedSet S_safeSet S_partSet S_tally S_askedTally S_groupOf S_groupSize S_links S_linkEnd S_pick S_groupMinedSet S_groupSafeSet O_sums O_nextSums R_found R_openEnds R_need R_waiting R_waits R_common R_met A_number Q_mined Q_all Q_choices Q_term Q_divisor Q_spare X_limbs X_sum Y_limbs Y_sum) := by
    intro z_5 rz_5 h
    replace h := hJ_3 z_5 rz_5 h
    obtain ⟨b_6, h⟩ := h
    exact ret dX2_isUnknown_15 b_6 ⟨b_6, rfl, h⟩
  refine wa_icmp_gt C (tgt := 14) rv_2 (inR_k 1 rfl) dX2_isUnknown_7 (by decide) (fun c_7 => ?_) (fun c_7 => ?_)
  · replace h := h.1 c_7
    refine wa_iconst C (z := 0) dX2_isUnknown_14 rfl ?_
    refine wa_sub C [] rfl ?_
    exact k_4 0 (inR_k 0 rfl) h
  · replace h := h.2 c_7
    refine wa_iconst C (z := 1) dX2_isUnknown_10 rfl ?_
    refine wa_goto C (tgt := 15) dX2_isUnknown_11 (by decide) ?_
    refine wa_sub C [] rfl ?_
    exact k_4 1 (inR_k 1 rfl) h
def P_X2_unknownCells (post : Int → Prop) (F_cellsIn : Int → Int) : Prop :=
  ∀ v_1 : Int, v_1 = F_cellsIn 0 → inR v_1 → (∀ v_2 : Int, v_2 = F_cellsIn 1 → inR v_2 → (inR (v_1 + v_2) ∧ (post (v_1 + v_2))))
set_option maxRecDepth 100000 in
set_option maxHeartbeats 4000000 in
theorem c_X2_unknownCells (l : Launch) (K : wK) (ad : Nat → Nat) {D_hasBoard : Int} {D_beganBlank : Int} {F_mines : Int} {F_moves : Int} {F_changes : Int} {G_width : Int} {G_height : Int} {G_size : Int} {B_parts : Int} {B_longest : Int} {S_groups : Int} {S_askedGroup : Int} {S_taken : Int} {R_waitingCount : Int} {R_metCount : Int} {A_grade : Int} {A_cell : Int} {A_mined : Int} {A_withTotal : Int} {A_numbers : Int} {X_low : Int} {X_high : Int} {Y_low : Int} {Y_high : Int} {F_mined : Int → Int} {F_number : Int → Int} {F_state : Int → Int} {F_cellsIn : Int → Int} {F_unknownNear : Int → Int} {F_hitNear : Int → Int} {F_moveStart : Int → Int} {F_changed : Int → Int} {F_waiting : Int → Int} {F_seen : Int → Int} {G_near : Int → Int} {G_nearEnd : Int → Int} {B_chosen : Int → Int} {B_partOf : Int → Int} {B_rest : Int → Int} {B_unknowns : Int → Int} {B_partStart : Int → Int} {B_cells : Int → Int} {S_minedSet : Int → Int} {S_safeSet : Int → Int} {S_partSet : Int → Int} {S_tally : Int → Int} {S_askedTally : Int → Int} {S_groupOf : Int → Int} {S_groupSize : Int → Int} {S_links : Int → Int} {S_linkEnd : Int → Int} {S_pick : Int → Int} {S_groupMinedSet : Int → Int} {S_groupSafeSet : Int → Int} {O_sums : Int → Int64} {O_nextSums : Int → Int64} {R_found : Int → Int} {R_openEnds : Int → Int} {R_need : Int → Int} {R_waiting : Int → Int} {R_waits : Int → Int} {R_common : Int → Int} {R_met : Int → Int} {A_number : Int → Int} {Q_mined : Int → Int64} {Q_all : Int → Int64} {Q_choices : Int → Int64} {Q_term : Int → Int64} {Q_divisor : Int → Int64} {Q_spare : Int → Int64} {X_limbs : Int → Int64} {X_sum : Int → Int64} {Y_limbs : Int → Int64} {Y_sum : Int → Int64}   (post : Int → Prop) (h : P_X2_unknownCells post F_cellsIn) : mI l yX2_unknownCells (Cond.code yX2_unknownCells cX2_unknownCells 1 (some .int) :: GT) ({ frames := 2, cells := 0, slots := 0, locals := 120 } : Room) [.ref (ad 1)] K ad (dW D_hasBoard D_beganBlank F_mines F_moves F_changes G_width G_height G_size B_parts B_longest S_groups S_askedGroup S_taken R_waitingCount R_metCount A_grade A_cell A_mined A_withTotal A_numbers X_low X_high Y_low Y_high F_mined F_number F_state F_cellsIn F_unknownNear F_hitNear F_moveStart F_changed F_waiting F_seen G_near G_nearEnd B_chosen B_partOf B_rest B_unknowns B_partStart B_cells S_minedSet S_safeSet S_partSet S_tally S_askedTally S_groupOf S_groupSize S_links S_linkEnd S_pick S_groupMinedSet S_groupSafeSet O_sums O_nextSums R_found R_openEnds R_need R_waiting R_waits R_common R_met A_number Q_mined Q_all Q_choices Q_term Q_divisor Q_spare X_limbs X_sum Y_limbs Y_sum) (fun z9 u9 => u9 = (dW D_hasBoard D_beganBlank F_mines F_moves F_changes G_width G_height G_size B_parts B_longest S_groups S_askedGroup S_taken R_waitingCount R_metCount A_grade A_cell A_mined A_withTotal A_numbers X_low X_high Y_low Y_high F_mined F_number F_state F_cellsIn F_unknownNear F_hitNear F_moveStart F_changed F_waiting F_seen G_near G_nearEnd B_chosen B_partOf B_rest B_unknowns B_partStart B_cells S_minedSet S_safeSet S_partSet S_tally S_askedTally S_groupOf S_groupSize S_links S_linkEnd S_pick S_groupMinedSet S_groupSafeSet O_sums O_nextSums R_found R_openEnds R_need R_waiting R_waits R_common R_met A_number Q_mined Q_all Q_choices Q_term Q_divisor Q_spare X_limbs X_sum Y_limbs Y_sum) ∧ post z9) := by
  refine mI_of (lv0 := [(0, .ref (ad 1))]) (by decide) (Nat.le_of_ble_eq_true rfl) rfl ?_
  intro p e s m args below meth c Q A C ret
  replace C : Cx p ({ frames := 2, cells := 0, slots := 0, locals := 120 } : Room) m c 0 0 cX2_unknownCells 1 s args RX2 K A := C
  unfold P_X2_unknownCells at h
  refine wa_aload_n C 0 rfl dX2_unknownCells_0 rfl ?_
  refine wa_getR C 1 4 dW_1 rfl rfl (by decide) okX2 gw_102 dX2_unknownCells_1 ?_
  refine wa_iconst C (z := 0) dX2_unknownCells_4 rfl ?_
  refine wa_iald C 15 dW_15 dX2_unknownCells_5 (by decide) (by decide) (fun v_1 ev_1 rv_1 => ?_)
  replace h := h v_1 ev_1 rv_1
  refine wa_aload_n C 0 rfl dX2_unknownCells_6 rfl ?_
  refine wa_getR C 1 4 dW_1 rfl rfl (by decide) okX2 gw_102 dX2_unknownCells_7 ?_
  refine wa_iconst C (z := 1) dX2_unknownCells_10 rfl ?_
  refine wa_iald C 15 dW_15 dX2_unknownCells_11 (by decide) (by decide) (fun v_2 ev_2 rv_2 => ?_)
  replace h := h v_2 ev_2 rv_2
  refine wa_iadd C dX2_unknownCells_12 ?_
  obtain ⟨r_3, h⟩ := h
  exact ret dX2_unknownCells_13 r_3 ⟨rfl, h⟩
def P_X2_minesLeft (post : Int → Prop) (F_mines : Int) (F_cellsIn : Int → Int) : Prop :=
  ∀ v_2 : Int, v_2 = F_cellsIn 3 → inR v_2 → (inR (F_mines - v_2) ∧ (post (F_mines - v_2)))
set_option maxRecDepth 100000 in
set_option maxHeartbeats 4000000 in
theorem c_X2_minesLeft (l : Launch) (K : wK) (ad : Nat → Nat) {D_hasBoard : Int} {D_beganBlank : Int} {F_mines : Int} {F_moves : Int} {F_changes : Int} {G_width : Int} {G_height : Int} {G_size : Int} {B_parts : Int} {B_longest : Int} {S_groups : Int} {S_askedGroup : Int} {S_taken : Int} {R_waitingCount : Int} {R_metCount : Int} {A_grade : Int} {A_cell : Int} {A_mined : Int} {A_withTotal : Int} {A_numbers : Int} {X_low : Int} {X_high : Int} {Y_low : Int} {Y_high : Int} {F_mined : Int → Int} {F_number : Int → Int} {F_state : Int → Int} {F_cellsIn : Int → Int} {F_unknownNear : Int → Int} {F_hitNear : Int → Int} {F_moveStart : Int → Int} {F_changed : Int → Int} {F_waiting : Int → Int} {F_seen : Int → Int} {G_near : Int → Int} {G_nearEnd : Int → Int} {B_chosen : Int → Int} {B_partOf : Int → Int} {B_rest : Int → Int} {B_unknowns : Int → Int} {B_partStart : Int → Int} {B_cells : Int → Int} {S_minedSet : Int → Int} {S_safeSet : Int → Int} {S_partSet : Int → Int} {S_tally : Int → Int} {S_askedTally : Int → Int} {S_groupOf : Int → Int} {S_groupSize : Int → Int} {S_links : Int → Int} {S_linkEnd : Int → Int} {S_pick : Int → Int} {S_groupMinedSet : Int → Int} {S_groupSafeSet : Int → Int} {O_sums : Int → Int64} {O_nextSums : Int → Int64} {R_found : Int → Int} {R_openEnds : Int → Int} {R_need : Int → Int} {R_waiting : Int → Int} {R_waits : Int → Int} {R_common : Int → Int} {R_met : Int → Int} {A_number : Int → Int} {Q_mined : Int → Int64} {Q_all : Int → Int64} {Q_choices : Int → Int64} {Q_term : Int → Int64} {Q_divisor : Int → Int64} {Q_spare : Int → Int64} {X_limbs : Int → Int64} {X_sum : Int → Int64} {Y_limbs : Int → Int64} {Y_sum : Int → Int64}   (post : Int → Prop) (h : P_X2_minesLeft post F_mines F_cellsIn) : mI l yX2_minesLeft (Cond.code yX2_minesLeft cX2_minesLeft 1 (some .int) :: GT) ({ frames := 2, cells := 0, slots := 0, locals := 120 } : Room) [.ref (ad 1)] K ad (dW D_hasBoard D_beganBlank F_mines F_moves F_changes G_width G_height G_size B_parts B_longest S_groups S_askedGroup S_taken R_waitingCount R_metCount A_grade A_cell A_mined A_withTotal A_numbers X_low X_high Y_low Y_high F_mined F_number F_state F_cellsIn F_unknownNear F_hitNear F_moveStart F_changed F_waiting F_seen G_near G_nearEnd B_chosen B_partOf B_rest B_unknowns B_partStart B_cells S_minedSet S_safeSet S_partSet S_tally S_askedTally S_groupOf S_groupSize S_links S_linkEnd S_pick S_groupMinedSet S_groupSafeSet O_sums O_nextSums R_found R_openEnds R_need R_waiting R_waits R_common R_met A_number Q_mined Q_all Q_choices Q_term Q_divisor Q_spare X_limbs X_sum Y_limbs Y_sum) (fun z9 u9 => u9 = (dW D_hasBoard D_beganBlank F_mines F_moves F_changes G_width G_height G_size B_parts B_longest S_groups S_askedGroup S_taken R_waitingCount R_metCount A_grade A_cell A_mined A_withTotal A_numbers X_low X_high Y_low Y_high F_mined F_number F_state F_cellsIn F_unknownNear F_hitNear F_moveStart F_changed F_waiting F_seen G_near G_nearEnd B_chosen B_partOf B_rest B_unknowns B_partStart B_cells S_minedSet S_safeSet S_partSet S_tally S_askedTally S_groupOf S_groupSize S_links S_linkEnd S_pick S_groupMinedSet S_groupSafeSet O_sums O_nextSums R_found R_openEnds R_need R_waiting R_waits R_common R_met A_number Q_mined Q_all Q_choices Q_term Q_divisor Q_spare X_limbs X_sum Y_limbs Y_sum) ∧ post z9) := by
  refine mI_of (lv0 := [(0, .ref (ad 1))]) (by decide) (Nat.le_of_ble_eq_true rfl) rfl ?_
  intro p e s m args below meth c Q A C ret
  replace C : Cx p ({ frames := 2, cells := 0, slots := 0, locals := 120 } : Room) m c 0 0 cX2_minesLeft 1 s args RX2 K A := C
  unfold P_X2_minesLeft at h
  refine wa_aload_n C 0 rfl dX2_minesLeft_0 rfl ?_
  refine wa_getI C 1 7 dW_1 rfl rfl (by decide) okX2 gw_110 dX2_minesLeft_1 (fun r_1 => ?_)
  refine wa_aload_n C 0 rfl dX2_minesLeft_4 rfl ?_
  refine wa_getR C 1 4 dW_1 rfl rfl (by decide) okX2 gw_102 dX2_minesLeft_5 ?_
  refine wa_iconst C (z := 3) dX2_minesLeft_8 rfl ?_
  refine wa_iald C 15 dW_15 dX2_minesLeft_9 (by decide) (by decide) (fun v_2 ev_2 rv_2 => ?_)
  replace h := h v_2 ev_2 rv_2
  refine wa_isub C dX2_minesLeft_10 ?_
  obtain ⟨r_3, h⟩ := h
  exact ret dX2_minesLeft_11 r_3 ⟨rfl, h⟩
def P_X2_lives (post : Int → Prop) (F_cellsIn : Int → Int) : Prop :=
  ∀ v_1 : Int, v_1 = F_cellsIn 3 → inR v_1 → (inR (3 - v_1) ∧ (post (3 - v_1)))
set_option maxRecDepth 100000 in
set_option maxHeartbeats 4000000 in
theorem c_X2_lives (l : Launch) (K : wK) (ad : Nat → Nat) {D_hasBoard : Int} {D_beganBlank : Int} {F_mines : Int} {F_moves : Int} {F_changes : Int} {G_width : Int} {G_height : Int} {G_size : Int} {B_parts : Int} {B_longest : Int} {S_groups : Int} {S_askedGroup : Int} {S_taken : Int} {R_waitingCount : Int} {R_metCount : Int} {A_grade : Int} {A_cell : Int} {A_mined : Int} {A_withTotal : Int} {A_numbers : Int} {X_low : Int} {X_high : Int} {Y_low : Int} {Y_high : Int} {F_mined : Int → Int} {F_number : Int → Int} {F_state : Int → Int} {F_cellsIn : Int → Int} {F_unknownNear : Int → Int} {F_hitNear : Int → Int} {F_moveStart : Int → Int} {F_changed : Int → Int} {F_waiting : Int → Int} {F_seen : Int → Int} {G_near : Int → Int} {G_nearEnd : Int → Int} {B_chosen : Int → Int} {B_partOf : Int → Int} {B_rest : Int → Int} {B_unknowns : Int → Int} {B_partStart : Int → Int} {B_cells : Int → Int} {S_minedSet : Int → Int} {S_safeSet : Int → Int} {S_partSet : Int → Int} {S_tally : Int → Int} {S_askedTally : Int → Int} {S_groupOf : Int → Int} {S_groupSize : Int → Int} {S_links : Int → Int} {S_linkEnd : Int → Int} {S_pick : Int → Int} {S_groupMinedSet : Int → Int} {S_groupSafeSet : Int → Int} {O_sums : Int → Int64} {O_nextSums : Int → Int64} {R_found : Int → Int} {R_openEnds : Int → Int} {R_need : Int → Int} {R_waiting : Int → Int} {R_waits : Int → Int} {R_common : Int → Int} {R_met : Int → Int} {A_number : Int → Int} {Q_mined : Int → Int64} {Q_all : Int → Int64} {Q_choices : Int → Int64} {Q_term : Int → Int64} {Q_divisor : Int → Int64} {Q_spare : Int → Int64} {X_limbs : Int → Int64} {X_sum : Int → Int64} {Y_limbs : Int → Int64} {Y_sum : Int → Int64}   (post : Int → Prop) (h : P_X2_lives post F_cellsIn) : mI l yX2_lives (Cond.code yX2_lives cX2_lives 1 (some .int) :: GT) ({ frames := 2, cells := 0, slots := 0, locals := 120 } : Room) [.ref (ad 1)] K ad (dW D_hasBoard D_beganBlank F_mines F_moves F_changes G_width G_height G_size B_parts B_longest S_groups S_askedGroup S_taken R_waitingCount R_metCount A_grade A_cell A_mined A_withTotal A_numbers X_low X_high Y_low Y_high F_mined F_number F_state F_cellsIn F_unknownNear F_hitNear F_moveStart F_changed F_waiting F_seen G_near G_nearEnd B_chosen B_partOf B_rest B_unknowns B_partStart B_cells S_minedSet S_safeSet S_partSet S_tally S_askedTally S_groupOf S_groupSize S_links S_linkEnd S_pick S_groupMinedSet S_groupSafeSet O_sums O_nextSums R_found R_openEnds R_need R_waiting R_waits R_common R_met A_number Q_mined Q_all Q_choices Q_term Q_divisor Q_spare X_limbs X_sum Y_limbs Y_sum) (fun z9 u9 => u9 = (dW D_hasBoard D_beganBlank F_mines F_moves F_changes G_width G_height G_size B_parts B_longest S_groups S_askedGroup S_taken R_waitingCount R_metCount A_grade A_cell A_mined A_withTotal A_numbers X_low X_high Y_low Y_high F_mined F_number F_state F_cellsIn F_unknownNear F_hitNear F_moveStart F_changed F_waiting F_seen G_near G_nearEnd B_chosen B_partOf B_rest B_unknowns B_partStart B_cells S_minedSet S_safeSet S_partSet S_tally S_askedTally S_groupOf S_groupSize S_links S_linkEnd S_pick S_groupMinedSet S_groupSafeSet O_sums O_nextSums R_found R_openEnds R_need R_waiting R_waits R_common R_met A_number Q_mined Q_all Q_choices Q_term Q_divisor Q_spare X_limbs X_sum Y_limbs Y_sum) ∧ post z9) := by
  refine mI_of (lv0 := [(0, .ref (ad 1))]) (by decide) (Nat.le_of_ble_eq_true rfl) rfl ?_
  intro p e s m args below meth c Q A C ret
  replace C : Cx p ({ frames := 2, cells := 0, slots := 0, locals := 120 } : Room) m c 0 0 cX2_lives 1 s args RX2 K A := C
  unfold P_X2_lives at h
  refine wa_iconst C (z := 3) dX2_lives_0 rfl ?_
  refine wa_aload_n C 0 rfl dX2_lives_1 rfl ?_
  refine wa_getR C 1 4 dW_1 rfl rfl (by decide) okX2 gw_102 dX2_lives_2 ?_
  refine wa_iconst C (z := 3) dX2_lives_5 rfl ?_
  refine wa_iald C 15 dW_15 dX2_lives_6 (by decide) (by decide) (fun v_1 ev_1 rv_1 => ?_)
  replace h := h v_1 ev_1 rv_1
  refine wa_isub C dX2_lives_7 ?_
  obtain ⟨r_2, h⟩ := h
  exact ret dX2_lives_8 r_2 ⟨rfl, h⟩
def P_X2_isSolved (post : Int → Prop) (F_mines : Int) (G_size : Int) (F_cellsIn : Int → Int) : Prop :=
  ∀ v_1 : Int, v_1 = F_cellsIn 2 → inR v_1 → (inR (G_size - F_mines) ∧ (∃ J_5 : (Int) → Prop, ((¬ v_1 = (G_size - F_mines) → (J_5 0)) ∧ (v_1 = (G_size - F_mines) → (J_5 1))) ∧ (∀ (z_7 : Int), inR z_7 → J_5 z_7 → ((z_7 = 0 ∨ z_7 = 1) ∧ (post z_7)))))
set_option maxRecDepth 100000 in
set_option maxHeartbeats 4000000 in
theorem c_X2_isSolved (l : Launch) (K : wK) (ad : Nat → Nat) {D_hasBoard : Int} {D_beganBlank : Int} {F_mines : Int} {F_moves : Int} {F_changes : Int} {G_width : Int} {G_height : Int} {G_size : Int} {B_parts : Int} {B_longest : Int} {S_groups : Int} {S_askedGroup : Int} {S_taken : Int} {R_waitingCount : Int} {R_metCount : Int} {A_grade : Int} {A_cell : Int} {A_mined : Int} {A_withTotal : Int} {A_numbers : Int} {X_low : Int} {X_high : Int} {Y_low : Int} {Y_high : Int} {F_mined : Int → Int} {F_number : Int → Int} {F_state : Int → Int} {F_cellsIn : Int → Int} {F_unknownNear : Int → Int} {F_hitNear : Int → Int} {F_moveStart : Int → Int} {F_changed : Int → Int} {F_waiting : Int → Int} {F_seen : Int → Int} {G_near : Int → Int} {G_nearEnd : Int → Int} {B_chosen : Int → Int} {B_partOf : Int → Int} {B_rest : Int → Int} {B_unknowns : Int → Int} {B_partStart : Int → Int} {B_cells : Int → Int} {S_minedSet : Int → Int} {S_safeSet : Int → Int} {S_partSet : Int → Int} {S_tally : Int → Int} {S_askedTally : Int → Int} {S_groupOf : Int → Int} {S_groupSize : Int → Int} {S_links : Int → Int} {S_linkEnd : Int → Int} {S_pick : Int → Int} {S_groupMinedSet : Int → Int} {S_groupSafeSet : Int → Int} {O_sums : Int → Int64} {O_nextSums : Int → Int64} {R_found : Int → Int} {R_openEnds : Int → Int} {R_need : Int → Int} {R_waiting : Int → Int} {R_waits : Int → Int} {R_common : Int → Int} {R_met : Int → Int} {A_number : Int → Int} {Q_mined : Int → Int64} {Q_all : Int → Int64} {Q_choices : Int → Int64} {Q_term : Int → Int64} {Q_divisor : Int → Int64} {Q_spare : Int → Int64} {X_limbs : Int → Int64} {X_sum : Int → Int64} {Y_limbs : Int → Int64} {Y_sum : Int → Int64}   (post : Int → Prop) (h : P_X2_isSolved post F_mines G_size F_cellsIn) : mI l yX2_isSolved (Cond.code yX2_isSolved cX2_isSolved 1 (some .boolean) :: GT) ({ frames := 2, cells := 0, slots := 0, locals := 120 } : Room) [.ref (ad 1)] K ad (dW D_hasBoard D_beganBlank F_mines F_moves F_changes G_width G_height G_size B_parts B_longest S_groups S_askedGroup S_taken R_waitingCount R_metCount A_grade A_cell A_mined A_withTotal A_numbers X_low X_high Y_low Y_high F_mined F_number F_state F_cellsIn F_unknownNear F_hitNear F_moveStart F_changed F_waiting F_seen G_near G_nearEnd B_chosen B_partOf B_rest B_unknowns B_partStart B_cells S_minedSet S_safeSet S_partSet S_tally S_askedTally S_groupOf S_groupSize S_links S_linkEnd S_pick S_groupMinedSet S_groupSafeSet O_sums O_nextSums R_found R_openEnds R_need R_waiting R_waits R_common R_met A_number Q_mined Q_all Q_choices Q_term Q_divisor Q_spare X_limbs X_sum Y_limbs Y_sum) (fun z9 u9 => (z9 = 0 ∨ z9 = 1) ∧ u9 = (dW D_hasBoard D_beganBlank F_mines F_moves F_changes G_width G_height G_size B_parts B_longest S_groups S_askedGroup S_taken R_waitingCount R_metCount A_grade A_cell A_mined A_withTotal A_numbers X_low X_high Y_low Y_high F_mined F_number F_state F_cellsIn F_unknownNear F_hitNear F_moveStart F_changed F_waiting F_seen G_near G_nearEnd B_chosen B_partOf B_rest B_unknowns B_partStart B_cells S_minedSet S_safeSet S_partSet S_tally S_askedTally S_groupOf S_groupSize S_links S_linkEnd S_pick S_groupMinedSet S_groupSafeSet O_sums O_nextSums R_found R_openEnds R_need R_waiting R_waits R_common R_met A_number Q_mined Q_all Q_choices Q_term Q_divisor Q_spare X_limbs X_sum Y_limbs Y_sum) ∧ post z9) := by
  refine mZ_of (lv0 := [(0, .ref (ad 1))]) (by decide) (Nat.le_of_ble_eq_true rfl) rfl ?_
  intro p e s m args below meth c Q A C ret
  replace C : Cx p ({ frames := 2, cells := 0, slots := 0, locals := 120 } : Room) m c 0 0 cX2_isSolved 1 s args RX2 K A := C
  unfold P_X2_isSolved at h
  refine wa_aload_n C 0 rfl dX2_isSolved_0 rfl ?_
  refine wa_getR C 1 4 dW_1 rfl rfl (by decide) okX2 gw_102 dX2_isSolved_1 ?_
  refine wa_iconst C (z := 2) dX2_isSolved_4 rfl ?_
  refine wa_iald C 15 dW_15 dX2_isSolved_5 (by decide) (by decide) (fun v_1 ev_1 rv_1 => ?_)
  replace h := h v_1 ev_1 rv_1
  refine wa_aload_n C 0 rfl dX2_isSolved_6 rfl ?_
  refine wa_getR C 1 0 dW_1 rfl rfl (by decide) okX2 gw_83 dX2_isSolved_7 ?_
  refine wa_getI C 2 2 dW_2 rfl rfl (by decide) okX3 gw_51 dX2_isSolved_10 (fun r_2 => ?_)
  refine wa_aload_n C 0 rfl dX2_isSolved_13 rfl ?_
  refine wa_getI C 1 7 dW_1 rfl rfl (by decide) okX2 gw_110 dX2_isSolved_14 (fun r_3 => ?_)
  refine wa_isub C dX2_isSolved_17 ?_
  obtain ⟨r_4, h⟩ := h
  obtain ⟨J_5, h, hJ_5⟩ := h
  have k_6 : ∀ (z_7 : Int), inR z_7 → J_5 z_7 → WA p l e ({ frames := 2, cells := 0, slots := 0, locals := 120 } : Room) s m args below meth c 0 0 Q K ad 1 A 26 [] [.int (iI z_7)] (dW D_hasBoard D_beganBlank F_mines F_moves F_changes G_width G_height G_size B_parts B_longest S_groups S_askedGroup S_taken R_waitingCount R_metCount A_grade A_cell A_mined A_withTotal A_numbers X_low X_high Y_low Y_high F_mined F_number F_state F_cellsIn F_unknownNear F_hitNear F_moveStart F_changed F_waiting F_seen G_near G_nearEnd B_chosen B_partOf B_rest B_unknowns B_partStart B_cells S_minedSet S_safeSet S_partSet S_tally S_askedTally S_groupOf S_groupSize S_links S_linkEnd S_pick S_groupMinedSet S_groupSafeSet O_sums O_nextSums R_found R_openEnds R_need R_waiting R_waits R_common R_met A_number Q_mined Q_all Q_choices Q_term Q_divisor Q_spare X_limbs X_sum Y_limbs Y_sum) := by
    intro z_7 rz_7 h
    replace h := hJ_5 z_7 rz_7 h
    obtain ⟨b_8, h⟩ := h
    exact ret dX2_isSolved_26 b_8 ⟨b_8, rfl, h⟩
  refine wa_icmp_ne C (tgt := 25) rv_1 r_4 dX2_isSolved_18 (by decide) (fun c_9 => ?_) (fun c_9 => ?_)
  · replace h := h.1 c_9
    refine wa_iconst C (z := 0) dX2_isSolved_25 rfl ?_
    refine wa_sub C [] rfl ?_
    exact k_6 0 (inR_k 0 rfl) h
  · replace h := h.2 c_9
    refine wa_iconst C (z := 1) dX2_isSolved_21 rfl ?_
    refine wa_goto C (tgt := 26) dX2_isSolved_22 (by decide) ?_
    refine wa_sub C [] rfl ?_
    exact k_6 1 (inR_k 1 rfl) h
def P_X2_allowsMove (post : Int → Prop) (F_moves : Int) (F_cellsIn : Int → Int) : Prop :=
  P_X2_lives (fun (c_1 : Int) => inR c_1 → (∃ J_2 : (Int) → Prop, (∃ J_6 : Prop, ((c_1 ≤ 0 → (J_6)) ∧ (¬ c_1 ≤ 0 → ((512 ≤ F_moves → (J_6)) ∧ (¬ 512 ≤ F_moves → (J_2 1))))) ∧ (J_6 → (J_2 0))) ∧ (∀ (z_4 : Int), inR z_4 → J_2 z_4 → ((z_4 = 0 ∨ z_4 = 1) ∧ (post z_4))))) F_cellsIn 
set_option maxRecDepth 100000 in
set_option maxHeartbeats 4000000 in
theorem c_X2_allowsMove (l : Launch) (K : wK) (ad : Nat → Nat) {D_hasBoard : Int} {D_beganBlank : Int} {F_mines : Int} {F_moves : Int} {F_changes : Int} {G_width : Int} {G_height : Int} {G_size : Int} {B_parts : Int} {B_longest : Int} {S_groups : Int} {S_askedGroup : Int} {S_taken : Int} {R_waitingCount : Int} {R_metCount : Int} {A_grade : Int} {A_cell : Int} {A_mined : Int} {A_withTotal : Int} {A_numbers : Int} {X_low : Int} {X_high : Int} {Y_low : Int} {Y_high : Int} {F_mined : Int → Int} {F_number : Int → Int} {F_state : Int → Int} {F_cellsIn : Int → Int} {F_unknownNear : Int → Int} {F_hitNear : Int → Int} {F_moveStart : Int → Int} {F_changed : Int → Int} {F_waiting : Int → Int} {F_seen : Int → Int} {G_near : Int → Int} {G_nearEnd : Int → Int} {B_chosen : Int → Int} {B_partOf : Int → Int} {B_rest : Int → Int} {B_unknowns : Int → Int} {B_partStart : Int → Int} {B_cells : Int → Int} {S_minedSet : Int → Int} {S_safeSet : Int → Int} {S_partSet : Int → Int} {S_tally : Int → Int} {S_askedTally : Int → Int} {S_groupOf : Int → Int} {S_groupSize : Int → Int} {S_links : Int → Int} {S_linkEnd : Int → Int} {S_pick : Int → Int} {S_groupMinedSet : Int → Int} {S_groupSafeSet : Int → Int} {O_sums : Int → Int64} {O_nextSums : Int → Int64} {R_found : Int → Int} {R_openEnds : Int → Int} {R_need : Int → Int} {R_waiting : Int → Int} {R_waits : Int → Int} {R_common : Int → Int} {R_met : Int → Int} {A_number : Int → Int} {Q_mined : Int → Int64} {Q_all : Int → Int64} {Q_choices : Int → Int64} {Q_term : Int → Int64} {Q_divisor : Int → Int64} {Q_spare : Int → Int64} {X_limbs : Int → Int64} {X_sum : Int → Int64} {Y_limbs : Int → Int64} {Y_sum : Int → Int64}   (post : Int → Prop) (h : P_X2_allowsMove post F_moves F_cellsIn) : mI l yX2_allowsMove (Cond.code yX2_allowsMove cX2_allowsMove 1 (some .boolean) :: GT) ({ frames := 3, cells := 0, slots := 0, locals := 180 } : Room) [.ref (ad 1)] K ad (dW D_hasBoard D_beganBlank F_mines F_moves F_changes G_width G_height G_size B_parts B_longest S_groups S_askedGroup S_taken R_waitingCount R_metCount A_grade A_cell A_mined A_withTotal A_numbers X_low X_high Y_low Y_high F_mined F_number F_state F_cellsIn F_unknownNear F_hitNear F_moveStart F_changed F_waiting F_seen G_near G_nearEnd B_chosen B_partOf B_rest B_unknowns B_partStart B_cells S_minedSet S_safeSet S_partSet S_tally S_askedTally S_groupOf S_groupSize S_links S_linkEnd S_pick S_groupMinedSet S_groupSafeSet O_sums O_nextSums R_found R_openEnds R_need R_waiting R_waits R_common R_met A_number Q_mined Q_all Q_choices Q_term Q_divisor Q_spare X_limbs X_sum Y_limbs Y_sum) (fun z9 u9 => (z9 = 0 ∨ z9 = 1) ∧ u9 = (dW D_hasBoard D_beganBlank F_mines F_moves F_changes G_width G_height G_size B_parts B_longest S_groups S_askedGroup S_taken R_waitingCount R_metCount A_grade A_cell A_mined A_withTotal A_numbers X_low X_high Y_low Y_high F_mined F_number F_state F_cellsIn F_unknownNear F_hitNear F_moveStart F_changed F_waiting F_seen G_near G_nearEnd B_chosen B_partOf B_rest B_unknowns B_partStart B_cells S_minedSet S_safeSet S_partSet S_tally S_askedTally S_groupOf S_groupSize S_links S_linkEnd S_pick S_groupMinedSet S_groupSafeSet O_sums O_nextSums R_found R_openEnds R_need R_waiting R_waits R_common R_met A_number Q_mined Q_all Q_choices Q_term Q_divisor Q_spare X_limbs X_sum Y_limbs Y_sum) ∧ post z9) := by
  refine mZ_of (lv0 := [(0, .ref (ad 1))]) (by decide) (Nat.le_of_ble_eq_true rfl) rfl ?_
  intro p e s m args below meth c Q A C ret
  replace C : Cx p ({ frames := 3, cells := 0, slots := 0, locals := 180 } : Room) m c 0 0 cX2_allowsMove 1 s args RX2 K A := C
  unfold P_X2_allowsMove at h
  refine wa_aload_n C 0 rfl dX2_allowsMove_0 rfl ?_
  refine wa_callVi C (k := 1) (As := []) (rest := []) (c_X2_lives l K ad  _ h) gw_947 gw_944 dW_1 rfl gw_945 gw_946 gw_2 q_X2_lives rfl rfl rfl ⟨by decide, by decide⟩ rfl (Nat.le_of_ble_eq_true rfl) dX2_allowsMove_1 (fun c_1 u9 rc_1 hp => ?_)
  obtain ⟨rfl, h⟩ := hp
  replace h := h rc_1
  obtain ⟨J_2, h, hJ_2⟩ := h
  have k_3 : ∀ (z_4 : Int), inR z_4 → J_2 z_4 → WA p l e ({ frames := 3, cells := 0, slots := 0, locals := 180 } : Room) s m args below meth c 0 0 Q K ad 1 A 22 [] [.int (iI z_4)] (dW D_hasBoard D_beganBlank F_mines F_moves F_changes G_width G_height G_size B_parts B_longest S_groups S_askedGroup S_taken R_waitingCount R_metCount A_grade A_cell A_mined A_withTotal A_numbers X_low X_high Y_low Y_high F_mined F_number F_state F_cellsIn F_unknownNear F_hitNear F_moveStart F_changed F_waiting F_seen G_near G_nearEnd B_chosen B_partOf B_rest B_unknowns B_partStart B_cells S_minedSet S_safeSet S_partSet S_tally S_askedTally S_groupOf S_groupSize S_links S_linkEnd S_pick S_groupMinedSet S_groupSafeSet O_sums O_nextSums R_found R_openEnds R_need R_waiting R_waits R_common R_met A_number Q_mined Q_all Q_choices Q_term Q_divisor Q_spare X_limbs X_sum Y_limbs Y_sum) := by
    intro z_4 rz_4 h
    replace h := hJ_2 z_4 rz_4 h
    obtain ⟨b_5, h⟩ := h
    exact ret dX2_allowsMove_22 b_5 ⟨b_5, rfl, h⟩
  obtain ⟨J_6, h, hJ_6⟩ := h
  have k_7 : J_6 → WA p l e ({ frames := 3, cells := 0, slots := 0, locals := 180 } : Room) s m args below meth c 0 0 Q K ad 1 A 21 [] [] (dW D_hasBoard D_beganBlank F_mines F_moves F_changes G_width G_height G_size B_parts B_longest S_groups S_askedGroup S_taken R_waitingCount R_metCount A_grade A_cell A_mined A_withTotal A_numbers X_low X_high Y_low Y_high F_mined F_number F_state F_cellsIn F_unknownNear F_hitNear F_moveStart F_changed F_waiting F_seen G_near G_nearEnd B_chosen B_partOf B_rest B_unknowns B_partStart B_cells S_minedSet S_safeSet S_partSet S_tally S_askedTally S_groupOf S_groupSize S_links S_linkEnd S_pick S_groupMinedSet S_groupSafeSet O_sums O_nextSums R_found R_openEnds R_need R_waiting R_waits R_common R_met A_number Q_mined Q_all Q_choices Q_term Q_divisor Q_spare X_limbs X_sum Y_limbs Y_sum) := by
    intro h
    replace h := hJ_6 h
    refine wa_iconst C (z := 0) dX2_allowsMove_21 rfl ?_
    refine wa_sub C [] rfl ?_
    exact k_3 0 (inR_k 0 rfl) h
  refine wa_if_le C (tgt := 21) rc_1 dX2_allowsMove_4 (by decide) (fun c_8 => ?_) (fun c_8 => ?_)
  · replace h := h.1 c_8
    refine wa_sub C [] rfl ?_
    exact k_7 h
  · replace h := h.2 c_8
    refine wa_aload_n C 0 rfl dX2_allowsMove_7 rfl ?_
    refine wa_getI C 1 8 dW_1 rfl rfl (by decide) okX2 gw_112 dX2_allowsMove_8 (fun r_9 => ?_)
    refine wa_sipush C (z := 512) dX2_allowsMove_11 (by decide) ?_
    refine wa_icmp_ge C (tgt := 21) r_9 (inR_k 512 rfl) dX2_allowsMove_14 (by decide) (fun c_10 => ?_) (fun c_10 => ?_)
    · replace h := h.1 c_10
      refine wa_sub C [] rfl ?_
      exact k_7 h
    · replace h := h.2 c_10
      refine wa_iconst C (z := 1) dX2_allowsMove_17 rfl ?_
      refine wa_goto C (tgt := 22) dX2_allowsMove_18 (by decide) ?_
      refine wa_sub C [] rfl ?_
      exact k_3 1 (inR_k 1 rfl) h
def P_X2_isReadyToChord (post : Int → Prop) (F_number : Int → Int) (F_state : Int → Int) (F_unknownNear : Int → Int) (F_hitNear : Int → Int) (G_near : Int → Int) (G_nearEnd : Int → Int) (x1 : Int) : Prop :=
  (0 ≤ x1 ∧ x1 < 144) ∧ (∀ v_2 : Int, v_2 = F_state x1 → inR v_2 → ((v_2 = 2 → (inR (x1 * 8) ∧ (∀ x3_5 : Int, x3_5 = (x1 * 8) → (∃ Inv_6 : Nat → (Int) → (Int) → Prop, (∃ n_7 : Nat, Inv_6 n_7 0 x3_5) ∧ ∀ (n_8 : Nat) (x2_11 : Int) (x3_12 : Int), inR x2_11 → inR x3_12 → Inv_6 n_8 x2_11 x3_12 → ((0 ≤ x1 ∧ x1 < 144) ∧ (∀ v_14 : Int, v_14 = G_nearEnd x1 → inR v_14 → ((v_14 ≤ x3_12 → ((0 ≤ x1 ∧ x1 < 144) ∧ (∀ v_17 : Int, v_17 = F_unknownNear x1 → inR v_17 → (∃ J_18 : (Int) → Prop, (∃ J_22 : Prop, ((v_17 ≤ x2_11 → (J_22)) ∧ (¬ v_17 ≤ x2_11 → ((0 ≤ x1 ∧ x1 < 144) ∧ (∀ v_26 : Int, v_26 = F_hitNear x1 → inR v_26 → ((0 ≤ x1 ∧ x1 < 144) ∧ (∀ v_28 : Int, v_28 = F_number x1 → inR v_28 → (inR (x2_11 + v_26) ∧ ((¬ (x2_11 + v_26) = v_28 → (J_22)) ∧ ((x2_11 + v_26) = v_28 → (J_18 1)))))))))) ∧ (J_22 → (J_18 0))) ∧ (∀ (z_20 : Int), inR z_20 → J_18 z_20 → ((z_20 = 0 ∨ z_20 = 1) ∧ (post z_20))))))) ∧ (¬ v_14 ≤ x3_12 → ((0 ≤ x3_12 ∧ x3_12 < 1152) ∧ (∀ v_32 : Int, v_32 = G_near x3_12 → inR v_32 → ((0 ≤ v_32 ∧ v_32 < 144) ∧ (∀ v_34 : Int, v_34 = F_state v_32 → inR v_34 → (∃ J_35 : (Int) → Prop, ((¬ v_34 = 1 → (J_35 x2_11)) ∧ (v_34 = 1 → (inR (x2_11 + 1) ∧ (∀ x2_43 : Int, x2_43 = (x2_11 + 1) → (J_35 x2_43))))) ∧ (∀ (x2_37 : Int), inR x2_37 → J_35 x2_37 → (inR (x3_12 + 1) ∧ (∀ x3_39 : Int, x3_39 = (x3_12 + 1) → (∃ n_40 : Nat, n_40 < n_8 ∧ Inv_6 n_40 x2_37 x3_39))))))))))))))))) ∧ (¬ v_2 = 2 → (post 0))))
set_option maxRecDepth 100000 in
set_option maxHeartbeats 4000000 in
theorem c_X2_isReadyToChord (l : Launch) (K : wK) (ad : Nat → Nat) {D_hasBoard : Int} {D_beganBlank : Int} {F_mines : Int} {F_moves : Int} {F_changes : Int} {G_width : Int} {G_height : Int} {G_size : Int} {B_parts : Int} {B_longest : Int} {S_groups : Int} {S_askedGroup : Int} {S_taken : Int} {R_waitingCount : Int} {R_metCount : Int} {A_grade : Int} {A_cell : Int} {A_mined : Int} {A_withTotal : Int} {A_numbers : Int} {X_low : Int} {X_high : Int} {Y_low : Int} {Y_high : Int} {F_mined : Int → Int} {F_number : Int → Int} {F_state : Int → Int} {F_cellsIn : Int → Int} {F_unknownNear : Int → Int} {F_hitNear : Int → Int} {F_moveStart : Int → Int} {F_changed : Int → Int} {F_waiting : Int → Int} {F_seen : Int → Int} {G_near : Int → Int} {G_nearEnd : Int → Int} {B_chosen : Int → Int} {B_partOf : Int → Int} {B_rest : Int → Int} {B_unknowns : Int → Int} {B_partStart : Int → Int} {B_cells : Int → Int} {S_minedSet : Int → Int} {S_safeSet : Int → Int} {S_partSet : Int → Int} {S_tally : Int → Int} {S_askedTally : Int → Int} {S_groupOf : Int → Int} {S_groupSize : Int → Int} {S_links : Int → Int} {S_linkEnd : Int → Int} {S_pick : Int → Int} {S_groupMinedSet : Int → Int} {S_groupSafeSet : Int → Int} {O_sums : Int → Int64} {O_nextSums : Int → Int64} {R_found : Int → Int} {R_openEnds : Int → Int} {R_need : Int → Int} {R_waiting : Int → Int} {R_waits : Int → Int} {R_common : Int → Int} {R_met : Int → Int} {A_number : Int → Int} {Q_mined : Int → Int64} {Q_all : Int → Int64} {Q_choices : Int → Int64} {Q_term : Int → Int64} {Q_divisor : Int → Int64} {Q_spare : Int → Int64} {X_limbs : Int → Int64} {X_sum : Int → Int64} {Y_limbs : Int → Int64} {Y_sum : Int → Int64} (x1 : Int) (rx1 : inR x1) (post : Int → Prop) (h : P_X2_isReadyToChord post F_number F_state F_unknownNear F_hitNear G_near G_nearEnd x1) : mI l yX2_isReadyToChord (Cond.code yX2_isReadyToChord cX2_isReadyToChord 4 (some .boolean) :: GT) ({ frames := 2, cells := 0, slots := 0, locals := 120 } : Room) [.ref (ad 1), .int (iI x1)] K ad (dW D_hasBoard D_beganBlank F_mines F_moves F_changes G_width G_height G_size B_parts B_longest S_groups S_askedGroup S_taken R_waitingCount R_metCount A_grade A_cell A_mined A_withTotal A_numbers X_low X_high Y_low Y_high F_mined F_number F_state F_cellsIn F_unknownNear F_hitNear F_moveStart F_changed F_waiting F_seen G_near G_nearEnd B_chosen B_partOf B_rest B_unknowns B_partStart B_cells S_minedSet S_safeSet S_partSet S_tally S_askedTally S_groupOf S_groupSize S_links S_linkEnd S_pick S_groupMinedSet S_groupSafeSet O_sums O_nextSums R_found R_openEnds R_need R_waiting R_waits R_common R_met A_number Q_mined Q_all Q_choices Q_term Q_divisor Q_spare X_limbs X_sum Y_limbs Y_sum) (fun z9 u9 => (z9 = 0 ∨ z9 = 1) ∧ u9 = (dW D_hasBoard D_beganBlank F_mines F_moves F_changes G_width G_height G_size B_parts B_longest S_groups S_askedGroup S_taken R_waitingCount R_metCount A_grade A_cell A_mined A_withTotal A_numbers X_low X_high Y_low Y_high F_mined F_number F_state F_cellsIn F_unknownNear F_hitNear F_moveStart F_changed F_waiting F_seen G_near G_nearEnd B_chosen B_partOf B_rest B_unknowns B_partStart B_cells S_minedSet S_safeSet S_partSet S_tally S_askedTally S_groupOf S_groupSize S_links S_linkEnd S_pick S_groupMinedSet S_groupSafeSet O_sums O_nextSums R_found R_openEnds R_need R_waiting R_waits R_common R_met A_number Q_mined Q_all Q_choices Q_term Q_divisor Q_spare X_limbs X_sum Y_limbs Y_sum) ∧ post z9) := by
  refine mZ_of (lv0 := [(0, .ref (ad 1)), (1, .int (iI x1))]) (by decide) (Nat.le_of_ble_eq_true rfl) rfl ?_
  intro p e s m args below meth c Q A C ret
  replace C : Cx p ({ frames := 2, cells := 0, slots := 0, locals := 120 } : Room) m c 0 0 cX2_isReadyToChord 4 s args RX2 K A := C
  unfold P_X2_isReadyToChord at h
  refine wa_aload_n C 0 rfl dX2_isReadyToChord_0 rfl ?_
  refine wa_getR C 1 3 dW_1 rfl rfl (by decide) okX2 gw_96 dX2_isReadyToChord_1 ?_
  refine wa_iload_n C 1 rfl dX2_isReadyToChord_4 rfl ?_
  obtain ⟨t_1, h⟩ := h
  refine wa_iald C 14 dW_14 dX2_isReadyToChord_5 t_1.1 t_1.2 (fun v_2 ev_2 rv_2 => ?_)
  replace h := h v_2 ev_2 rv_2
  refine wa_iconst C (z := 2) dX2_isReadyToChord_6 rfl ?_
  refine wa_icmp_eq C (tgt := 12) rv_2 (inR_k 2 rfl) dX2_isReadyToChord_7 (by decide) (fun c_3 => ?_) (fun c_3 => ?_)
  · replace h := h.1 c_3
    refine wa_iconst C (z := 0) dX2_isReadyToChord_12 rfl ?_
    refine wa_istore_n C dX2_isReadyToChord_13 rfl (by decide) rfl ?_
    refine wa_iload_n C 2 rfl dX2_isReadyToChord_14 rfl ?_
    refine wa_bipush C (z := 8) dX2_isReadyToChord_15 (by decide) ?_
    refine wa_imul C dX2_isReadyToChord_17 ?_
    obtain ⟨r_4, h⟩ := h
    refine wa_nmi (fun x3_5 ex3_5 => ?_)
    replace h := h x3_5 ex3_5
    have rx3_5 : inR x3_5 := by rw [ex3_5]; exact r_4
    refine wa_istore_n C dX2_isReadyToChord_18 rfl (by decide) rfl ?_
    obtain ⟨Inv_6, ⟨n_7, h0Inv_6⟩, hInv_6⟩ := h
    have k_10 : ∀ (n_8 : Nat) (x2_11 : Int) (x3_12 : Int), inR x2_11 → inR x3_12 → Inv_6 n_8 x2_11 x3_12 → WA p l e ({ frames := 2, cells := 0, slots := 0, locals := 120 } : Room) s m args below meth c 0 0 Q K ad 4 A 19 [(0, .ref (ad 1)), (1, .int (iI x1)), (2, .int (iI x2_11)), (3, .int (iI x3_12))] [] (dW D_hasBoard D_beganBlank F_mines F_moves F_changes G_width G_height G_size B_parts B_longest S_groups S_askedGroup S_taken R_waitingCount R_metCount A_grade A_cell A_mined A_withTotal A_numbers X_low X_high Y_low Y_high F_mined F_number F_state F_cellsIn F_unknownNear F_hitNear F_moveStart F_changed F_waiting F_seen G_near G_nearEnd B_chosen B_partOf B_rest B_unknowns B_partStart B_cells S_minedSet S_safeSet S_partSet S_tally S_askedTally S_groupOf S_groupSize S_links S_linkEnd S_pick S_groupMinedSet S_groupSafeSet O_sums O_nextSums R_found R_openEnds R_need R_waiting R_waits R_common R_met A_number Q_mined Q_all Q_choices Q_term Q_divisor Q_spare X_limbs X_sum Y_limbs Y_sum) := by
      intro n_8
      induction n_8 using Nat.strongRecOn with
      | ind n_8 ih_9 =>
        intro x2_11 x3_12 rx2_11 rx3_12 h
        replace h := hInv_6 n_8 x2_11 x3_12 rx2_11 rx3_12 h
        refine wa_iload_n C 3 rfl dX2_isReadyToChord_19 rfl ?_
        refine wa_aload_n C 0 rfl dX2_isReadyToChord_20 rfl ?_
        refine wa_getR C 1 0 dW_1 rfl rfl (by decide) okX2 gw_83 dX2_isReadyToChord_21 ?_
        refine wa_getR C 2 4 dW_2 rfl rfl (by decide) okX3 gw_65 dX2_isReadyToChord_24 ?_
        refine wa_iload_n C 1 rfl dX2_isReadyToChord_27 rfl ?_
        obtain ⟨t_13, h⟩ := h
        refine wa_iald C 23 dW_23 dX2_isReadyToChord_28 t_13.1 t_13.2 (fun v_14 ev_14 rv_14 => ?_)
        replace h := h v_14 ev_14 rv_14
        refine wa_icmp_ge C (tgt := 59) rx3_12 rv_14 dX2_isReadyToChord_29 (by decide) (fun c_15 => ?_) (fun c_15 => ?_)
        · replace h := h.1 c_15
          refine wa_iload_n C 2 rfl dX2_isReadyToChord_59 rfl ?_
          refine wa_aload_n C 0 rfl dX2_isReadyToChord_60 rfl ?_
          refine wa_getR C 1 5 dW_1 rfl rfl (by decide) okX2 gw_104 dX2_isReadyToChord_61 ?_
          refine wa_iload_n C 1 rfl dX2_isReadyToChord_64 rfl ?_
          obtain ⟨t_16, h⟩ := h
          refine wa_iald C 16 dW_16 dX2_isReadyToChord_65 t_16.1 t_16.2 (fun v_17 ev_17 rv_17 => ?_)
          replace h := h v_17 ev_17 rv_17
          obtain ⟨J_18, h, hJ_18⟩ := h
          have k_19 : ∀ (z_20 : Int), inR z_20 → J_18 z_20 → WA p l e ({ frames := 2, cells := 0, slots := 0, locals := 120 } : Room) s m args below meth c 0 0 Q K ad 4 A 91 [] [.int (iI z_20)] (dW D_hasBoard D_beganBlank F_mines F_moves F_changes G_width G_height G_size B_parts B_longest S_groups S_askedGroup S_taken R_waitingCount R_metCount A_grade A_cell A_mined A_withTotal A_numbers X_low X_high Y_low Y_high F_mined F_number F_state F_cellsIn F_unknownNear F_hitNear F_moveStart F_changed F_waiting F_seen G_near G_nearEnd B_chosen B_partOf B_rest B_unknowns B_partStart B_cells S_minedSet S_safeSet S_partSet S_tally S_askedTally S_groupOf S_groupSize S_links S_linkEnd S_pick S_groupMinedSet S_groupSafeSet O_sums O_nextSums R_found R_openEnds R_need R_waiting R_waits R_common R_met A_number Q_mined Q_all Q_choices Q_term Q_divisor Q_spare X_limbs X_sum Y_limbs Y_sum) := by
            intro z_20 rz_20 h
            replace h := hJ_18 z_20 rz_20 h
            obtain ⟨b_21, h⟩ := h
            exact ret dX2_isReadyToChord_91 b_21 ⟨b_21, rfl, h⟩
          obtain ⟨J_22, h, hJ_22⟩ := h
          have k_23 : J_22 → WA p l e ({ frames := 2, cells := 0, slots := 0, locals := 120 } : Room) s m args below meth c 0 0 Q K ad 4 A 90 [] [] (dW D_hasBoard D_beganBlank F_mines F_moves F_changes G_width G_height G_size B_parts B_longest S_groups S_askedGroup S_taken R_waitingCount R_metCount A_grade A_cell A_mined A_withTotal A_numbers X_low X_high Y_low Y_high F_mined F_number F_state F_cellsIn F_unknownNear F_hitNear F_moveStart F_changed F_waiting F_seen G_near G_nearEnd B_chosen B_partOf B_rest B_unknowns B_partStart B_cells S_minedSet S_safeSet S_partSet S_tally S_askedTally S_groupOf S_groupSize S_links S_linkEnd S_pick S_groupMinedSet S_groupSafeSet O_sums O_nextSums R_found R_openEnds R_need R_waiting R_waits R_common R_met A_number Q_mined Q_all Q_choices Q_term Q_divisor Q_spare X_limbs X_sum Y_limbs Y_sum) := by
            intro h
            replace h := hJ_22 h
            refine wa_iconst C (z := 0) dX2_isReadyToChord_90 rfl ?_
            refine wa_sub C [] rfl ?_
            exact k_19 0 (inR_k 0 rfl) h
          refine wa_icmp_ge C (tgt := 90) rx2_11 rv_17 dX2_isReadyToChord_66 (by decide) (fun c_24 => ?_) (fun c_24 => ?_)
          · replace h := h.1 c_24
            refine wa_sub C [] rfl ?_
            exact k_23 h
          · replace h := h.2 c_24
            refine wa_iload_n C 2 rfl dX2_isReadyToChord_69 rfl ?_
            refine wa_aload_n C 0 rfl dX2_isReadyToChord_70 rfl ?_
            refine wa_getR C 1 6 dW_1 rfl rfl (by decide) okX2 gw_107 dX2_isReadyToChord_71 ?_
            refine wa_iload_n C 1 rfl dX2_isReadyToChord_74 rfl ?_
            obtain ⟨t_25, h⟩ := h
            refine wa_iald C 17 dW_17 dX2_isReadyToChord_75 t_25.1 t_25.2 (fun v_26 ev_26 rv_26 => ?_)
            replace h := h v_26 ev_26 rv_26
            refine wa_iadd C dX2_isReadyToChord_76 ?_
            refine wa_aload_n C 0 rfl dX2_isReadyToChord_77 rfl ?_
            refine wa_getR C 1 2 dW_1 rfl rfl (by decide) okX2 gw_92 dX2_isReadyToChord_78 ?_
            refine wa_iload_n C 1 rfl dX2_isReadyToChord_81 rfl ?_
            obtain ⟨t_27, h⟩ := h
            refine wa_iald C 13 dW_13 dX2_isReadyToChord_82 t_27.1 t_27.2 (fun v_28 ev_28 rv_28 => ?_)
            replace h := h v_28 ev_28 rv_28
            obtain ⟨r_29, h⟩ := h
            refine wa_icmp_ne C (tgt := 90) r_29 rv_28 dX2_isReadyToChord_83 (by decide) (fun c_30 => ?_) (fun c_30 => ?_)
            · replace h := h.1 c_30
              refine wa_sub C [] rfl ?_
              exact k_23 h
            · replace h := h.2 c_30
              refine wa_iconst C (z := 1) dX2_isReadyToChord_86 rfl ?_
              refine wa_goto C (tgt := 91) dX2_isReadyToChord_87 (by decide) ?_
              refine wa_sub C [] rfl ?_
              exact k_19 1 (inR_k 1 rfl) h
        · replace h := h.2 c_15
          refine wa_aload_n C 0 rfl dX2_isReadyToChord_32 rfl ?_
          refine wa_getR C 1 3 dW_1 rfl rfl (by decide) okX2 gw_96 dX2_isReadyToChord_33 ?_
          refine wa_aload_n C 0 rfl dX2_isReadyToChord_36 rfl ?_
          refine wa_getR C 1 0 dW_1 rfl rfl (by decide) okX2 gw_83 dX2_isReadyToChord_37 ?_
          refine wa_getR C 2 3 dW_2 rfl rfl (by decide) okX3 gw_59 dX2_isReadyToChord_40 ?_
          refine wa_iload_n C 3 rfl dX2_isReadyToChord_43 rfl ?_
          obtain ⟨t_31, h⟩ := h
          refine wa_iald C 22 dW_22 dX2_isReadyToChord_44 t_31.1 t_31.2 (fun v_32 ev_32 rv_32 => ?_)
          replace h := h v_32 ev_32 rv_32
          obtain ⟨t_33, h⟩ := h
          refine wa_iald C 14 dW_14 dX2_isReadyToChord_45 t_33.1 t_33.2 (fun v_34 ev_34 rv_34 => ?_)
          replace h := h v_34 ev_34 rv_34
          refine wa_iconst C (z := 1) dX2_isReadyToChord_46 rfl ?_
          obtain ⟨J_35, h, hJ_35⟩ := h
          have k_36 : ∀ (x2_37 : Int), inR x2_37 → J_35 x2_37 → WA p l e ({ frames := 2, cells := 0, slots := 0, locals := 120 } : Room) s m args below meth c 0 0 Q K ad 4 A 53 [(0, .ref (ad 1)), (1, .int (iI x1)), (2, .int (iI x2_37)), (3, .int (iI x3_12))] [] (dW D_hasBoard D_beganBlank F_mines F_moves F_changes G_width G_height G_size B_parts B_longest S_groups S_askedGroup S_taken R_waitingCount R_metCount A_grade A_cell A_mined A_withTotal A_numbers X_low X_high Y_low Y_high F_mined F_number F_state F_cellsIn F_unknownNear F_hitNear F_moveStart F_changed F_waiting F_seen G_near G_nearEnd B_chosen B_partOf B_rest B_unknowns B_partStart B_cells S_minedSet S_safeSet S_partSet S_tally S_askedTally S_groupOf S_groupSize S_links S_linkEnd S_pick S_groupMinedSet S_groupSafeSet O_sums O_nextSums R_found R_openEnds R_need R_waiting R_waits R_common R_met A_number Q_mined Q_all Q_choices Q_term Q_divisor Q_spare X_limbs X_sum Y_limbs Y_sum) := by
            intro x2_37 rx2_37 h
            replace h := hJ_35 x2_37 rx2_37 h
            obtain ⟨r_38, h⟩ := h
            refine wa_iinc C (lv' := fun w9 => [(3, .int (iI w9)), (0, .ref (ad 1)), (1, .int (iI x1)), (2, .int (iI x2_37))]) 3 rfl dX2_isReadyToChord_53 (by decide) (fun _ => rfl) (fun x3_39 ex3_39 => ?_)
            replace h := h x3_39 ex3_39
            have rx3_39 : inR x3_39 := by rw [ex3_39]; exact r_38
            refine wa_goto C (tgt := 19) dX2_isReadyToChord_56 (by decide) ?_
            obtain ⟨n_40, ln_40, h⟩ := h
            refine wa_sub C [1, 2, 3, 0] rfl ?_
            exact ih_9 n_40 ln_40 x2_37 x3_39 rx2_37 rx3_39 h
          refine wa_icmp_ne C (tgt := 53) rv_34 (inR_k 1 rfl) dX2_isReadyToChord_47 (by decide) (fun c_41 => ?_) (fun c_41 => ?_)
          · replace h := h.1 c_41
            refine wa_sub C [0, 1, 2, 3] rfl ?_
            exact k_36 x2_11 rx2_11 h
          · replace h := h.2 c_41
            obtain ⟨r_42, h⟩ := h
            refine wa_iinc C (lv' := fun w9 => [(2, .int (iI w9)), (0, .ref (ad 1)), (1, .int (iI x1)), (3, .int (iI x3_12))]) 2 rfl dX2_isReadyToChord_50 (by decide) (fun _ => rfl) (fun x2_43 ex2_43 => ?_)
            replace h := h x2_43 ex2_43
            have rx2_43 : inR x2_43 := by rw [ex2_43]; exact r_42
            refine wa_sub C [1, 2, 0, 3] rfl ?_
            exact k_36 x2_43 rx2_43 h
    refine wa_sub C [2, 3, 1, 0] rfl ?_
    exact k_10 n_7 0 x3_5 (inR_k 0 rfl) rx3_5 h0Inv_6
  · replace h := h.2 c_3
    refine wa_iconst C (z := 0) dX2_isReadyToChord_10 rfl ?_
    exact ret dX2_isReadyToChord_11 (Or.inl rfl) ⟨(Or.inl rfl), rfl, h⟩
def P_X2_beginMove (post : (Int) → (Int → Int) → Prop) (F_moves : Int) (F_changes : Int) (F_moveStart : Int → Int) : Prop :=
  (512 ≤ F_moves → (post F_moves F_moveStart)) ∧ (¬ 512 ≤ F_moves → ((0 ≤ F_moves ∧ F_moves < 512) ∧ (∀ F_moveStart_6 : Int → Int, F_moveStart_6 = upZ F_moveStart F_moves F_changes → (inR (F_moves + 1) ∧ (∀ F_moves_9 : Int, F_moves_9 = (F_moves + 1) → (post F_moves_9 F_moveStart_6))))))
set_option maxRecDepth 100000 in
set_option maxHeartbeats 4000000 in
theorem c_X2_beginMove (l : Launch) (K : wK) (ad : Nat → Nat) {D_hasBoard : Int} {D_beganBlank : Int} {F_mines : Int} {F_moves : Int} {F_changes : Int} {G_width : Int} {G_height : Int} {G_size : Int} {B_parts : Int} {B_longest : Int} {S_groups : Int} {S_askedGroup : Int} {S_taken : Int} {R_waitingCount : Int} {R_metCount : Int} {A_grade : Int} {A_cell : Int} {A_mined : Int} {A_withTotal : Int} {A_numbers : Int} {X_low : Int} {X_high : Int} {Y_low : Int} {Y_high : Int} {F_mined : Int → Int} {F_number : Int → Int} {F_state : Int → Int} {F_cellsIn : Int → Int} {F_unknownNear : Int → Int} {F_hitNear : Int → Int} {F_moveStart : Int → Int} {F_changed : Int → Int} {F_waiting : Int → Int} {F_seen : Int → Int} {G_near : Int → Int} {G_nearEnd : Int → Int} {B_chosen : Int → Int} {B_partOf : Int → Int} {B_rest : Int → Int} {B_unknowns : Int → Int} {B_partStart : Int → Int} {B_cells : Int → Int} {S_minedSet : Int → Int} {S_safeSet : Int → Int} {S_partSet : Int → Int} {S_tally : Int → Int} {S_askedTally : Int → Int} {S_groupOf : Int → Int} {S_groupSize : Int → Int} {S_links : Int → Int} {S_linkEnd : Int → Int} {S_pick : Int → Int} {S_groupMinedSet : Int → Int} {S_groupSafeSet : Int → Int} {O_sums : Int → Int64} {O_nextSums : Int → Int64} {R_found : Int → Int} {R_openEnds : Int → Int} {R_need : Int → Int} {R_waiting : Int → Int} {R_waits : Int → Int} {R_common : Int → Int} {R_met : Int → Int} {A_number : Int → Int} {Q_mined : Int → Int64} {Q_all : Int → Int64} {Q_choices : Int → Int64} {Q_term : Int → Int64} {Q_divisor : Int → Int64} {Q_spare : Int → Int64} {X_limbs : Int → Int64} {X_sum : Int → Int64} {Y_limbs : Int → Int64} {Y_sum : Int → Int64}   (post : (Int) → (Int → Int) → Prop) (h : P_X2_beginMove post F_moves F_changes F_moveStart) : mV l yX2_beginMove (Cond.code yX2_beginMove cX2_beginMove 1 none :: GT) ({ frames := 2, cells := 0, slots := 0, locals := 120 } : Room) [.ref (ad 1)] K ad (dW D_hasBoard D_beganBlank F_mines F_moves F_changes G_width G_height G_size B_parts B_longest S_groups S_askedGroup S_taken R_waitingCount R_metCount A_grade A_cell A_mined A_withTotal A_numbers X_low X_high Y_low Y_high F_mined F_number F_state F_cellsIn F_unknownNear F_hitNear F_moveStart F_changed F_waiting F_seen G_near G_nearEnd B_chosen B_partOf B_rest B_unknowns B_partStart B_cells S_minedSet S_safeSet S_partSet S_tally S_askedTally S_groupOf S_groupSize S_links S_linkEnd S_pick S_groupMinedSet S_groupSafeSet O_sums O_nextSums R_found R_openEnds R_need R_waiting R_waits R_common R_met A_number Q_mined Q_all Q_choices Q_term Q_divisor Q_spare X_limbs X_sum Y_limbs Y_sum) (fun u9 => ∃ F_moves9 F_moveStart9, u9 = (dW D_hasBoard D_beganBlank F_mines F_moves9 F_changes G_width G_height G_size B_parts B_longest S_groups S_askedGroup S_taken R_waitingCount R_metCount A_grade A_cell A_mined A_withTotal A_numbers X_low X_high Y_low Y_high F_mined F_number F_state F_cellsIn F_unknownNear F_hitNear F_moveStart9 F_changed F_waiting F_seen G_near G_nearEnd B_chosen B_partOf B_rest B_unknowns B_partStart B_cells S_minedSet S_safeSet S_partSet S_tally S_askedTally S_groupOf S_groupSize S_links S_linkEnd S_pick S_groupMinedSet S_groupSafeSet O_sums O_nextSums R_found R_openEnds R_need R_waiting R_waits R_common R_met A_number Q_mined Q_all Q_choices Q_term Q_divisor Q_spare X_limbs X_sum Y_limbs Y_sum) ∧ post F_moves9 F_moveStart9) := by
  refine mV_of (lv0 := [(0, .ref (ad 1))]) (by decide) (Nat.le_of_ble_eq_true rfl) rfl ?_
  intro p e s m args below meth c Q A C ret
  replace C : Cx p ({ frames := 2, cells := 0, slots := 0, locals := 120 } : Room) m c 0 0 cX2_beginMove 1 s args RX2 K A := C
  unfold P_X2_beginMove at h
  refine wa_aload_n C 0 rfl dX2_beginMove_0 rfl ?_
  refine wa_getI C 1 8 dW_1 rfl rfl (by decide) okX2 gw_112 dX2_beginMove_1 (fun r_1 => ?_)
  refine wa_sipush C (z := 512) dX2_beginMove_4 (by decide) ?_
  refine wa_icmp_ge C (tgt := 33) r_1 (inR_k 512 rfl) dX2_beginMove_7 (by decide) (fun c_2 => ?_) (fun c_2 => ?_)
  · replace h := h.1 c_2
    exact ret dX2_beginMove_33 ⟨_, _, rfl, h⟩
  · replace h := h.2 c_2
    refine wa_aload_n C 0 rfl dX2_beginMove_10 rfl ?_
    refine wa_getR C 1 9 dW_1 rfl rfl (by decide) okX2 gw_114 dX2_beginMove_11 ?_
    refine wa_aload_n C 0 rfl dX2_beginMove_14 rfl ?_
    refine wa_getI C 1 8 dW_1 rfl rfl (by decide) okX2 gw_112 dX2_beginMove_15 (fun r_3 => ?_)
    refine wa_aload_n C 0 rfl dX2_beginMove_18 rfl ?_
    refine wa_getI C 1 11 dW_1 rfl rfl (by decide) okX2 gw_116 dX2_beginMove_19 (fun r_4 => ?_)
    obtain ⟨t_5, h⟩ := h
    refine wa_iast C (ws' := fun w9 => (dW D_hasBoard D_beganBlank F_mines F_moves F_changes G_width G_height G_size B_parts B_longest S_groups S_askedGroup S_taken R_waitingCount R_metCount A_grade A_cell A_mined A_withTotal A_numbers X_low X_high Y_low Y_high F_mined F_number F_state F_cellsIn F_unknownNear F_hitNear w9 F_changed F_waiting F_seen G_near G_nearEnd B_chosen B_partOf B_rest B_unknowns B_partStart B_cells S_minedSet S_safeSet S_partSet S_tally S_askedTally S_groupOf S_groupSize S_links S_linkEnd S_pick S_groupMinedSet S_groupSafeSet O_sums O_nextSums R_found R_openEnds R_need R_waiting R_waits R_common R_met A_number Q_mined Q_all Q_choices Q_term Q_divisor Q_spare X_limbs X_sum Y_limbs Y_sum)) 18 dW_18 dX2_beginMove_22 t_5.1 t_5.2 r_4 dWs_18 (fun F_moveStart_6 eF_moveStart_6 => ?_)
    replace h := h F_moveStart_6 eF_moveStart_6
    refine wa_aload_n C 0 rfl dX2_beginMove_23 rfl ?_
    refine wa_dup C dX2_beginMove_24 rfl ?_
    refine wa_getI C 1 8 dW_1 rfl rfl (by decide) okX2 gw_112 dX2_beginMove_25 (fun r_7 => ?_)
    refine wa_iconst C (z := 1) dX2_beginMove_28 rfl ?_
    refine wa_iadd C dX2_beginMove_29 ?_
    obtain ⟨r_8, h⟩ := h
    refine wa_nmi (fun F_moves_9 eF_moves_9 => ?_)
    replace h := h F_moves_9 eF_moves_9
    have rF_moves_9 : inR F_moves_9 := by rw [eF_moves_9]; exact r_8
    refine wa_putI C (ws' := (dW D_hasBoard D_beganBlank F_mines F_moves_9 F_changes G_width G_height G_size B_parts B_longest S_groups S_askedGroup S_taken R_waitingCount R_metCount A_grade A_cell A_mined A_withTotal A_numbers X_low X_high Y_low Y_high F_mined F_number F_state F_cellsIn F_unknownNear F_hitNear F_moveStart_6 F_changed F_waiting F_seen G_near G_nearEnd B_chosen B_partOf B_rest B_unknowns B_partStart B_cells S_minedSet S_safeSet S_partSet S_tally S_askedTally S_groupOf S_groupSize S_links S_linkEnd S_pick S_groupMinedSet S_groupSafeSet O_sums O_nextSums R_found R_openEnds R_need R_waiting R_waits R_common R_met A_number Q_mined Q_all Q_choices Q_term Q_divisor Q_spare X_limbs X_sum Y_limbs Y_sum)) 1 8 dW_1 rfl (by decide) okX2 gw_112 rfl rfl (Nat.le_of_ble_eq_true rfl) rF_moves_9 (dWp_1_8 _) dX2_beginMove_30 ?_
    exact ret dX2_beginMove_33 ⟨_, _, rfl, h⟩
def P_X2_put (post : (Int → Int) → (Int → Int) → (Int → Int) → (Int → Int) → Prop) (F_state : Int → Int) (F_cellsIn : Int → Int) (F_unknownNear : Int → Int) (F_hitNear : Int → Int) (G_near : Int → Int) (G_nearEnd : Int → Int) (x1 : Int) (x2 : Int) : Prop :=
  (0 ≤ x1 ∧ x1 < 144) ∧ (∀ v_2 : Int, v_2 = F_state x1 → inR v_2 → ((0 ≤ v_2 ∧ v_2 < 4) ∧ (∀ v_4 : Int, v_4 = F_cellsIn v_2 → inR v_4 → ((0 ≤ v_2 ∧ v_2 < 4) ∧ (inR (v_4 - 1) ∧ (∀ F_cellsIn_7 : Int → Int, F_cellsIn_7 = upZ F_cellsIn v_2 (v_4 - 1) → ((0 ≤ x2 ∧ x2 < 4) ∧ (∀ v_9 : Int, v_9 = F_cellsIn_7 x2 → inR v_9 → ((0 ≤ x2 ∧ x2 < 4) ∧ (inR (v_9 + 1) ∧ (∀ F_cellsIn_12 : Int → Int, F_cellsIn_12 = upZ F_cellsIn_7 x2 (v_9 + 1) → ((0 ≤ x1 ∧ x1 < 144) ∧ (∀ F_state_14 : Int → Int, F_state_14 = upZ F_state x1 x2 → (∃ J_15 : (Int) → Prop, ((1 < x2 → (J_15 0)) ∧ (¬ 1 < x2 → (J_15 1))) ∧ (∀ (z_17 : Int), inR z_17 → J_15 z_17 → (∃ J_18 : (Int) → Prop, ((1 < v_2 → (J_18 0)) ∧ (¬ 1 < v_2 → (J_18 1))) ∧ (∀ (z_20 : Int), inR z_20 → J_18 z_20 → (inR (z_17 - z_20) ∧ (∀ x4_22 : Int, x4_22 = (z_17 - z_20) → (∃ J_23 : (Int) → Prop, ((¬ x2 = 3 → (J_23 0)) ∧ (x2 = 3 → (J_23 1))) ∧ (∀ (z_25 : Int), inR z_25 → J_23 z_25 → (∃ J_26 : (Int) → Prop, ((¬ v_2 = 3 → (J_26 0)) ∧ (v_2 = 3 → (J_26 1))) ∧ (∀ (z_28 : Int), inR z_28 → J_26 z_28 → (inR (z_25 - z_28) ∧ (∀ x5_30 : Int, x5_30 = (z_25 - z_28) → (∃ J_31 : Prop, ((¬ x4_22 = 0 → (J_31)) ∧ (x4_22 = 0 → ((¬ x5_30 = 0 → (J_31)) ∧ (x5_30 = 0 → (post F_state_14 F_cellsIn_12 F_unknownNear F_hitNear))))) ∧ (J_31 → (inR (x1 * 8) ∧ (∀ x6_34 : Int, x6_34 = (x1 * 8) → (∃ Inv_35 : Nat → (Int) → (Int → Int) → (Int → Int) → Prop, (∃ n_36 : Nat, Inv_35 n_36 x6_34 F_unknownNear F_hitNear) ∧ ∀ (n_37 : Nat) (x6_40 : Int) (F_unknownNear_41 : Int → Int) (F_hitNear_42 : Int → Int), inR x6_40 → Inv_35 n_37 x6_40 F_unknownNear_41 F_hitNear_42 → ((0 ≤ x1 ∧ x1 < 144) ∧ (∀ v_44 : Int, v_44 = G_nearEnd x1 → inR v_44 → ((v_44 ≤ x6_40 → (post F_state_14 F_cellsIn_12 F_unknownNear_41 F_hitNear_42)) ∧ (¬ v_44 ≤ x6_40 → ((0 ≤ x6_40 ∧ x6_40 < 1152) ∧ (∀ v_47 : Int, v_47 = G_near x6_40 → inR v_47 → ((0 ≤ v_47 ∧ v_47 < 144) ∧ (∀ v_49 : Int, v_49 = F_unknownNear_41 v_47 → inR v_49 → ((0 ≤ v_47 ∧ v_47 < 144) ∧ (inR (v_49 + x4_22) ∧ (∀ F_unknownNear_52 : Int → Int, F_unknownNear_52 = upZ F_unknownNear_41 v_47 (v_49 + x4_22) → ((0 ≤ x6_40 ∧ x6_40 < 1152) ∧ (∀ v_54 : Int, v_54 = G_near x6_40 → inR v_54 → ((0 ≤ v_54 ∧ v_54 < 144) ∧ (∀ v_56 : Int, v_56 = F_hitNear_42 v_54 → inR v_56 → ((0 ≤ v_54 ∧ v_54 < 144) ∧ (inR (v_56 + x5_30) ∧ (∀ F_hitNear_59 : Int → Int, F_hitNear_59 = upZ F_hitNear_42 v_54 (v_56 + x5_30) → (inR (x6_40 + 1) ∧ (∀ x6_61 : Int, x6_61 = (x6_40 + 1) → (∃ n_62 : Nat, n_62 < n_37 ∧ Inv_35 n_62 x6_61 F_unknownNear_52 F_hitNear_59)))))))))))))))))))))))))))))))))))))))))))))))))))
set_option maxRecDepth 100000 in
set_option maxHeartbeats 4000000 in
theorem c_X2_put (l : Launch) (K : wK) (ad : Nat → Nat) {D_hasBoard : Int} {D_beganBlank : Int} {F_mines : Int} {F_moves : Int} {F_changes : Int} {G_width : Int} {G_height : Int} {G_size : Int} {B_parts : Int} {B_longest : Int} {S_groups : Int} {S_askedGroup : Int} {S_taken : Int} {R_waitingCount : Int} {R_metCount : Int} {A_grade : Int} {A_cell : Int} {A_mined : Int} {A_withTotal : Int} {A_numbers : Int} {X_low : Int} {X_high : Int} {Y_low : Int} {Y_high : Int} {F_mined : Int → Int} {F_number : Int → Int} {F_state : Int → Int} {F_cellsIn : Int → Int} {F_unknownNear : Int → Int} {F_hitNear : Int → Int} {F_moveStart : Int → Int} {F_changed : Int → Int} {F_waiting : Int → Int} {F_seen : Int → Int} {G_near : Int → Int} {G_nearEnd : Int → Int} {B_chosen : Int → Int} {B_partOf : Int → Int} {B_rest : Int → Int} {B_unknowns : Int → Int} {B_partStart : Int → Int} {B_cells : Int → Int} {S_minedSet : Int → Int} {S_safeSet : Int → Int} {S_partSet : Int → Int} {S_tally : Int → Int} {S_askedTally : Int → Int} {S_groupOf : Int → Int} {S_groupSize : Int → Int} {S_links : Int → Int} {S_linkEnd : Int → Int} {S_pick : Int → Int} {S_groupMinedSet : Int → Int} {S_groupSafeSet : Int → Int} {O_sums : Int → Int64} {O_nextSums : Int → Int64} {R_found : Int → Int} {R_openEnds : Int → Int} {R_need : Int → Int} {R_waiting : Int → Int} {R_waits : Int → Int} {R_common : Int → Int} {R_met : Int → Int} {A_number : Int → Int} {Q_mined : Int → Int64} {Q_all : Int → Int64} {Q_choices : Int → Int64} {Q_term : Int → Int64} {Q_divisor : Int → Int64} {Q_spare : Int → Int64} {X_limbs : Int → Int64} {X_sum : Int → Int64} {Y_limbs : Int → Int64} {Y_sum : Int → Int64} (x1 : Int) (x2 : Int) (rx1 : inR x1) (rx2 : inR x2) (post : (Int → Int) → (Int → Int) → (Int → Int) → (Int → Int) → Prop) (h : P_X2_put post F_state F_cellsIn F_unknownNear F_hitNear G_near G_nearEnd x1 x2) : mV l yX2_put (Cond.code yX2_put cX2_put 7 none :: GT) ({ frames := 2, cells := 0, slots := 0, locals := 120 } : Room) [.ref (ad 1), .int (iI x1), .int (iI x2)] K ad (dW D_hasBoard D_beganBlank F_mines F_moves F_changes G_width G_height G_size B_parts B_longest S_groups S_askedGroup S_taken R_waitingCount R_metCount A_grade A_cell A_mined A_withTotal A_numbers X_low X_high Y_low Y_high F_mined F_number F_state F_cellsIn F_unknownNear F_hitNear F_moveStart F_changed F_waiting F_seen G_near G_nearEnd B_chosen B_partOf B_rest B_unknowns B_partStart B_cells S_minedSet S_safeSet S_partSet S_tally S_askedTally S_groupOf S_groupSize S_links S_linkEnd S_pick S_groupMinedSet S_groupSafeSet O_sums O_nextSums R_found R_openEnds R_need R_waiting R_waits R_common R_met A_number Q_mined Q_all Q_choices Q_term Q_divisor Q_spare X_limbs X_sum Y_limbs Y_sum) (fun u9 => ∃ F_state9 F_cellsIn9 F_unknownNear9 F_hitNear9, u9 = (dW D_hasBoard D_beganBlank F_mines F_moves F_changes G_width G_height G_size B_parts B_longest S_groups S_askedGroup S_taken R_waitingCount R_metCount A_grade A_cell A_mined A_withTotal A_numbers X_low X_high Y_low Y_high F_mined F_number F_state9 F_cellsIn9 F_unknownNear9 F_hitNear9 F_moveStart F_changed F_waiting F_seen G_near G_nearEnd B_chosen B_partOf B_rest B_unknowns B_partStart B_cells S_minedSet S_safeSet S_partSet S_tally S_askedTally S_groupOf S_groupSize S_links S_linkEnd S_pick S_groupMinedSet S_groupSafeSet O_sums O_nextSums R_found R_openEnds R_need R_waiting R_waits R_common R_met A_number Q_mined Q_all Q_choices Q_term Q_divisor Q_spare X_limbs X_sum Y_limbs Y_sum) ∧ post F_state9 F_cellsIn9 F_unknownNear9 F_hitNear9) := by
  refine mV_of (lv0 := [(0, .ref (ad 1)), (1, .int (iI x1)), (2, .int (iI x2))]) (by decide) (Nat.le_of_ble_eq_true rfl) rfl ?_
  intro p e s m args below meth c Q A C ret
  replace C : Cx p ({ frames := 2, cells := 0, slots := 0, locals := 120 } : Room) m c 0 0 cX2_put 7 s args RX2 K A := C
  unfold P_X2_put at h
  refine wa_aload_n C 0 rfl dX2_put_0 rfl ?_
  refine wa_getR C 1 3 dW_1 rfl rfl (by decide) okX2 gw_96 dX2_put_1 ?_
  refine wa_iload_n C 1 rfl dX2_put_4 rfl ?_
  obtain ⟨t_1, h⟩ := h
  refine wa_iald C 14 dW_14 dX2_put_5 t_1.1 t_1.2 (fun v_2 ev_2 rv_2 => ?_)
  replace h := h v_2 ev_2 rv_2
  refine wa_istore_n C dX2_put_6 rfl (by decide) rfl ?_
  refine wa_aload_n C 1 rfl dX2_put_7 rfl ?_
  refine wa_getR C 1 4 dW_1 rfl rfl (by decide) okX2 gw_102 dX2_put_8 ?_
  refine wa_iload_n C 0 rfl dX2_put_11 rfl ?_
  refine wa_dup2 C dX2_put_12 rfl rfl ?_
  obtain ⟨t_3, h⟩ := h
  refine wa_iald C 15 dW_15 dX2_put_13 t_3.1 t_3.2 (fun v_4 ev_4 rv_4 => ?_)
  replace h := h v_4 ev_4 rv_4
  refine wa_iconst C (z := 1) dX2_put_14 rfl ?_
  refine wa_isub C dX2_put_15 ?_
  obtain ⟨t_5, h⟩ := h
  obtain ⟨r_6, h⟩ := h
  refine wa_iast C (ws' := fun w9 => (dW D_hasBoard D_beganBlank F_mines F_moves F_changes G_width G_height G_size B_parts B_longest S_groups S_askedGroup S_taken R_waitingCount R_metCount A_grade A_cell A_mined A_withTotal A_numbers X_low X_high Y_low Y_high F_mined F_number F_state w9 F_unknownNear F_hitNear F_moveStart F_changed F_waiting F_seen G_near G_nearEnd B_chosen B_partOf B_rest B_unknowns B_partStart B_cells S_minedSet S_safeSet S_partSet S_tally S_askedTally S_groupOf S_groupSize S_links S_linkEnd S_pick S_groupMinedSet S_groupSafeSet O_sums O_nextSums R_found R_openEnds R_need R_waiting R_waits R_common R_met A_number Q_mined Q_all Q_choices Q_term Q_divisor Q_spare X_limbs X_sum Y_limbs Y_sum)) 15 dW_15 dX2_put_16 t_5.1 t_5.2 r_6 dWs_15 (fun F_cellsIn_7 eF_cellsIn_7 => ?_)
  replace h := h F_cellsIn_7 eF_cellsIn_7
  refine wa_aload_n C 1 rfl dX2_put_17 rfl ?_
  refine wa_getR C 1 4 dW_1 rfl rfl (by decide) okX2 gw_102 dX2_put_18 ?_
  refine wa_iload_n C 3 rfl dX2_put_21 rfl ?_
  refine wa_dup2 C dX2_put_22 rfl rfl ?_
  obtain ⟨t_8, h⟩ := h
  refine wa_iald C 15 dW_15 dX2_put_23 t_8.1 t_8.2 (fun v_9 ev_9 rv_9 => ?_)
  replace h := h v_9 ev_9 rv_9
  refine wa_iconst C (z := 1) dX2_put_24 rfl ?_
  refine wa_iadd C dX2_put_25 ?_
  obtain ⟨t_10, h⟩ := h
  obtain ⟨r_11, h⟩ := h
  refine wa_iast C (ws' := fun w9 => (dW D_hasBoard D_beganBlank F_mines F_moves F_changes G_width G_height G_size B_parts B_longest S_groups S_askedGroup S_taken R_waitingCount R_metCount A_grade A_cell A_mined A_withTotal A_numbers X_low X_high Y_low Y_high F_mined F_number F_state w9 F_unknownNear F_hitNear F_moveStart F_changed F_waiting F_seen G_near G_nearEnd B_chosen B_partOf B_rest B_unknowns B_partStart B_cells S_minedSet S_safeSet S_partSet S_tally S_askedTally S_groupOf S_groupSize S_links S_linkEnd S_pick S_groupMinedSet S_groupSafeSet O_sums O_nextSums R_found R_openEnds R_need R_waiting R_waits R_common R_met A_number Q_mined Q_all Q_choices Q_term Q_divisor Q_spare X_limbs X_sum Y_limbs Y_sum)) 15 dW_15 dX2_put_26 t_10.1 t_10.2 r_11 dWs_15 (fun F_cellsIn_12 eF_cellsIn_12 => ?_)
  replace h := h F_cellsIn_12 eF_cellsIn_12
  refine wa_aload_n C 1 rfl dX2_put_27 rfl ?_
  refine wa_getR C 1 3 dW_1 rfl rfl (by decide) okX2 gw_96 dX2_put_28 ?_
  refine wa_iload_n C 2 rfl dX2_put_31 rfl ?_
  refine wa_iload_n C 3 rfl dX2_put_32 rfl ?_
  obtain ⟨t_13, h⟩ := h
  refine wa_iast C (ws' := fun w9 => (dW D_hasBoard D_beganBlank F_mines F_moves F_changes G_width G_height G_size B_parts B_longest S_groups S_askedGroup S_taken R_waitingCount R_metCount A_grade A_cell A_mined A_withTotal A_numbers X_low X_high Y_low Y_high F_mined F_number w9 F_cellsIn_12 F_unknownNear F_hitNear F_moveStart F_changed F_waiting F_seen G_near G_nearEnd B_chosen B_partOf B_rest B_unknowns B_partStart B_cells S_minedSet S_safeSet S_partSet S_tally S_askedTally S_groupOf S_groupSize S_links S_linkEnd S_pick S_groupMinedSet S_groupSafeSet O_sums O_nextSums R_found R_openEnds R_need R_waiting R_waits R_common R_met A_number Q_mined Q_all Q_choices Q_term Q_divisor Q_spare X_limbs X_sum Y_limbs Y_sum)) 14 dW_14 dX2_put_33 t_13.1 t_13.2 rx2 dWs_14 (fun F_state_14 eF_state_14 => ?_)
  replace h := h F_state_14 eF_state_14
  refine wa_iload_n C 3 rfl dX2_put_34 rfl ?_
  refine wa_iconst C (z := 1) dX2_put_35 rfl ?_
  obtain ⟨J_15, h, hJ_15⟩ := h
  have k_16 : ∀ (z_17 : Int), inR z_17 → J_15 z_17 → WA p l e ({ frames := 2, cells := 0, slots := 0, locals := 120 } : Room) s m args below meth c 0 0 Q K ad 7 A 44 [(0, .ref (ad 1)), (1, .int (iI x1)), (2, .int (iI x2)), (3, .int (iI v_2))] [.int (iI z_17)] (dW D_hasBoard D_beganBlank F_mines F_moves F_changes G_width G_height G_size B_parts B_longest S_groups S_askedGroup S_taken R_waitingCount R_metCount A_grade A_cell A_mined A_withTotal A_numbers X_low X_high Y_low Y_high F_mined F_number F_state_14 F_cellsIn_12 F_unknownNear F_hitNear F_moveStart F_changed F_waiting F_seen G_near G_nearEnd B_chosen B_partOf B_rest B_unknowns B_partStart B_cells S_minedSet S_safeSet S_partSet S_tally S_askedTally S_groupOf S_groupSize S_links S_linkEnd S_pick S_groupMinedSet S_groupSafeSet O_sums O_nextSums R_found R_openEnds R_need R_waiting R_waits R_common R_met A_number Q_mined Q_all Q_choices Q_term Q_divisor Q_spare X_limbs X_sum Y_limbs Y_sum) := by
    intro z_17 rz_17 h
    replace h := hJ_15 z_17 rz_17 h
    refine wa_iload_n C 3 rfl dX2_put_44 rfl ?_
    refine wa_iconst C (z := 1) dX2_put_45 rfl ?_
    obtain ⟨J_18, h, hJ_18⟩ := h
    have k_19 : ∀ (z_20 : Int), inR z_20 → J_18 z_20 → WA p l e ({ frames := 2, cells := 0, slots := 0, locals := 120 } : Room) s m args below meth c 0 0 Q K ad 7 A 54 [(0, .ref (ad 1)), (1, .int (iI x1)), (2, .int (iI x2)), (3, .int (iI v_2))] [.int (iI z_20), .int (iI z_17)] (dW D_hasBoard D_beganBlank F_mines F_moves F_changes G_width G_height G_size B_parts B_longest S_groups S_askedGroup S_taken R_waitingCount R_metCount A_grade A_cell A_mined A_withTotal A_numbers X_low X_high Y_low Y_high F_mined F_number F_state_14 F_cellsIn_12 F_unknownNear F_hitNear F_moveStart F_changed F_waiting F_seen G_near G_nearEnd B_chosen B_partOf B_rest B_unknowns B_partStart B_cells S_minedSet S_safeSet S_partSet S_tally S_askedTally S_groupOf S_groupSize S_links S_linkEnd S_pick S_groupMinedSet S_groupSafeSet O_sums O_nextSums R_found R_openEnds R_need R_waiting R_waits R_common R_met A_number Q_mined Q_all Q_choices Q_term Q_divisor Q_spare X_limbs X_sum Y_limbs Y_sum) := by
      intro z_20 rz_20 h
      replace h := hJ_18 z_20 rz_20 h
      refine wa_isub C dX2_put_54 ?_
      obtain ⟨r_21, h⟩ := h
      refine wa_nmi (fun x4_22 ex4_22 => ?_)
      replace h := h x4_22 ex4_22
      have rx4_22 : inR x4_22 := by rw [ex4_22]; exact r_21
      refine wa_istore C dX2_put_55 (by decide) rfl ?_
      refine wa_iload_n C 3 rfl dX2_put_57 rfl ?_
      refine wa_iconst C (z := 3) dX2_put_58 rfl ?_
      obtain ⟨J_23, h, hJ_23⟩ := h
      have k_24 : ∀ (z_25 : Int), inR z_25 → J_23 z_25 → WA p l e ({ frames := 2, cells := 0, slots := 0, locals := 120 } : Room) s m args below meth c 0 0 Q K ad 7 A 67 [(0, .ref (ad 1)), (1, .int (iI x1)), (3, .int (iI v_2)), (4, .int (iI x4_22))] [.int (iI z_25)] (dW D_hasBoard D_beganBlank F_mines F_moves F_changes G_width G_height G_size B_parts B_longest S_groups S_askedGroup S_taken R_waitingCount R_metCount A_grade A_cell A_mined A_withTotal A_numbers X_low X_high Y_low Y_high F_mined F_number F_state_14 F_cellsIn_12 F_unknownNear F_hitNear F_moveStart F_changed F_waiting F_seen G_near G_nearEnd B_chosen B_partOf B_rest B_unknowns B_partStart B_cells S_minedSet S_safeSet S_partSet S_tally S_askedTally S_groupOf S_groupSize S_links S_linkEnd S_pick S_groupMinedSet S_groupSafeSet O_sums O_nextSums R_found R_openEnds R_need R_waiting R_waits R_common R_met A_number Q_mined Q_all Q_choices Q_term Q_divisor Q_spare X_limbs X_sum Y_limbs Y_sum) := by
        intro z_25 rz_25 h
        replace h := hJ_23 z_25 rz_25 h
        refine wa_iload_n C 2 rfl dX2_put_67 rfl ?_
        refine wa_iconst C (z := 3) dX2_put_68 rfl ?_
        obtain ⟨J_26, h, hJ_26⟩ := h
        have k_27 : ∀ (z_28 : Int), inR z_28 → J_26 z_28 → WA p l e ({ frames := 2, cells := 0, slots := 0, locals := 120 } : Room) s m args below meth c 0 0 Q K ad 7 A 77 [(0, .ref (ad 1)), (1, .int (iI x1)), (4, .int (iI x4_22))] [.int (iI z_28), .int (iI z_25)] (dW D_hasBoard D_beganBlank F_mines F_moves F_changes G_width G_height G_size B_parts B_longest S_groups S_askedGroup S_taken R_waitingCount R_metCount A_grade A_cell A_mined A_withTotal A_numbers X_low X_high Y_low Y_high F_mined F_number F_state_14 F_cellsIn_12 F_unknownNear F_hitNear F_moveStart F_changed F_waiting F_seen G_near G_nearEnd B_chosen B_partOf B_rest B_unknowns B_partStart B_cells S_minedSet S_safeSet S_partSet S_tally S_askedTally S_groupOf S_groupSize S_links S_linkEnd S_pick S_groupMinedSet S_groupSafeSet O_sums O_nextSums R_found R_openEnds R_need R_waiting R_waits R_common R_met A_number Q_mined Q_all Q_choices Q_term Q_divisor Q_spare X_limbs X_sum Y_limbs Y_sum) := by
          intro z_28 rz_28 h
          replace h := hJ_26 z_28 rz_28 h
          refine wa_isub C dX2_put_77 ?_
          obtain ⟨r_29, h⟩ := h
          refine wa_nmi (fun x5_30 ex5_30 => ?_)
          replace h := h x5_30 ex5_30
          have rx5_30 : inR x5_30 := by rw [ex5_30]; exact r_29
          refine wa_istore C dX2_put_78 (by decide) rfl ?_
          refine wa_iload C 3 rfl dX2_put_80 ?_
          obtain ⟨J_31, h, hJ_31⟩ := h
          have k_32 : J_31 → WA p l e ({ frames := 2, cells := 0, slots := 0, locals := 120 } : Room) s m args below meth c 0 0 Q K ad 7 A 91 [(0, .ref (ad 1)), (1, .int (iI x1)), (4, .int (iI x4_22)), (5, .int (iI x5_30))] [] (dW D_hasBoard D_beganBlank F_mines F_moves F_changes G_width G_height G_size B_parts B_longest S_groups S_askedGroup S_taken R_waitingCount R_metCount A_grade A_cell A_mined A_withTotal A_numbers X_low X_high Y_low Y_high F_mined F_number F_state_14 F_cellsIn_12 F_unknownNear F_hitNear F_moveStart F_changed F_waiting F_seen G_near G_nearEnd B_chosen B_partOf B_rest B_unknowns B_partStart B_cells S_minedSet S_safeSet S_partSet S_tally S_askedTally S_groupOf S_groupSize S_links S_linkEnd S_pick S_groupMinedSet S_groupSafeSet O_sums O_nextSums R_found R_openEnds R_need R_waiting R_waits R_common R_met A_number Q_mined Q_all Q_choices Q_term Q_divisor Q_spare X_limbs X_sum Y_limbs Y_sum) := by
            intro h
            replace h := hJ_31 h
            refine wa_iload_n C 1 rfl dX2_put_91 rfl ?_
            refine wa_bipush C (z := 8) dX2_put_92 (by decide) ?_
            refine wa_imul C dX2_put_94 ?_
            obtain ⟨r_33, h⟩ := h
            refine wa_nmi (fun x6_34 ex6_34 => ?_)
            replace h := h x6_34 ex6_34
            have rx6_34 : inR x6_34 := by rw [ex6_34]; exact r_33
            refine wa_istore C dX2_put_95 (by decide) rfl ?_
            obtain ⟨Inv_35, ⟨n_36, h0Inv_35⟩, hInv_35⟩ := h
            have k_39 : ∀ (n_37 : Nat) (x6_40 : Int) (F_unknownNear_41 : Int → Int) (F_hitNear_42 : Int → Int), inR x6_40 → Inv_35 n_37 x6_40 F_unknownNear_41 F_hitNear_42 → WA p l e ({ frames := 2, cells := 0, slots := 0, locals := 120 } : Room) s m args below meth c 0 0 Q K ad 7 A 97 [(0, .ref (ad 1)), (1, .int (iI x1)), (4, .int (iI x4_22)), (5, .int (iI x5_30)), (6, .int (iI x6_40))] [] (dW D_hasBoard D_beganBlank F_mines F_moves F_changes G_width G_height G_size B_parts B_longest S_groups S_askedGroup S_taken R_waitingCount R_metCount A_grade A_cell A_mined A_withTotal A_numbers X_low X_high Y_low Y_high F_mined F_number F_state_14 F_cellsIn_12 F_unknownNear_41 F_hitNear_42 F_moveStart F_changed F_waiting F_seen G_near G_nearEnd B_chosen B_partOf B_rest B_unknowns B_partStart B_cells S_minedSet S_safeSet S_partSet S_tally S_askedTally S_groupOf S_groupSize S_links S_linkEnd S_pick S_groupMinedSet S_groupSafeSet O_sums O_nextSums R_found R_openEnds R_need R_waiting R_waits R_common R_met A_number Q_mined Q_all Q_choices Q_term Q_divisor Q_spare X_limbs X_sum Y_limbs Y_sum) := by
              intro n_37
              induction n_37 using Nat.strongRecOn with
              | ind n_37 ih_38 =>
                intro x6_40 F_unknownNear_41 F_hitNear_42 rx6_40 h
                replace h := hInv_35 n_37 x6_40 F_unknownNear_41 F_hitNear_42 rx6_40 h
                refine wa_iload C 4 rfl dX2_put_97 ?_
                refine wa_aload_n C 0 rfl dX2_put_99 rfl ?_
                refine wa_getR C 1 0 dW_1 rfl rfl (by decide) okX2 gw_83 dX2_put_100 ?_
                refine wa_getR C 2 4 dW_2 rfl rfl (by decide) okX3 gw_65 dX2_put_103 ?_
                refine wa_iload_n C 1 rfl dX2_put_106 rfl ?_
                obtain ⟨t_43, h⟩ := h
                refine wa_iald C 23 dW_23 dX2_put_107 t_43.1 t_43.2 (fun v_44 ev_44 rv_44 => ?_)
                replace h := h v_44 ev_44 rv_44
                refine wa_icmp_ge C (tgt := 157) rx6_40 rv_44 dX2_put_108 (by decide) (fun c_45 => ?_) (fun c_45 => ?_)
                · replace h := h.1 c_45
                  exact ret dX2_put_157 ⟨_, _, _, _, rfl, h⟩
                · replace h := h.2 c_45
                  refine wa_aload_n C 0 rfl dX2_put_111 rfl ?_
                  refine wa_getR C 1 5 dW_1 rfl rfl (by decide) okX2 gw_104 dX2_put_112 ?_
                  refine wa_aload_n C 0 rfl dX2_put_115 rfl ?_
                  refine wa_getR C 1 0 dW_1 rfl rfl (by decide) okX2 gw_83 dX2_put_116 ?_
                  refine wa_getR C 2 3 dW_2 rfl rfl (by decide) okX3 gw_59 dX2_put_119 ?_
                  refine wa_iload C 4 rfl dX2_put_122 ?_
                  obtain ⟨t_46, h⟩ := h
                  refine wa_iald C 22 dW_22 dX2_put_124 t_46.1 t_46.2 (fun v_47 ev_47 rv_47 => ?_)
                  replace h := h v_47 ev_47 rv_47
                  refine wa_dup2 C dX2_put_125 rfl rfl ?_
                  obtain ⟨t_48, h⟩ := h
                  refine wa_iald C 16 dW_16 dX2_put_126 t_48.1 t_48.2 (fun v_49 ev_49 rv_49 => ?_)
                  replace h := h v_49 ev_49 rv_49
                  refine wa_iload C 2 rfl dX2_put_127 ?_
                  refine wa_iadd C dX2_put_129 ?_
                  obtain ⟨t_50, h⟩ := h
                  obtain ⟨r_51, h⟩ := h
                  refine wa_iast C (ws' := fun w9 => (dW D_hasBoard D_beganBlank F_mines F_moves F_changes G_width G_height G_size B_parts B_longest S_groups S_askedGroup S_taken R_waitingCount R_metCount A_grade A_cell A_mined A_withTotal A_numbers X_low X_high Y_low Y_high F_mined F_number F_state_14 F_cellsIn_12 w9 F_hitNear_42 F_moveStart F_changed F_waiting F_seen G_near G_nearEnd B_chosen B_partOf B_rest B_unknowns B_partStart B_cells S_minedSet S_safeSet S_partSet S_tally S_askedTally S_groupOf S_groupSize S_links S_linkEnd S_pick S_groupMinedSet S_groupSafeSet O_sums O_nextSums R_found R_openEnds R_need R_waiting R_waits R_common R_met A_number Q_mined Q_all Q_choices Q_term Q_divisor Q_spare X_limbs X_sum Y_limbs Y_sum)) 16 dW_16 dX2_put_130 t_50.1 t_50.2 r_51 dWs_16 (fun F_unknownNear_52 eF_unknownNear_52 => ?_)
                  replace h := h F_unknownNear_52 eF_unknownNear_52
                  refine wa_aload_n C 0 rfl dX2_put_131 rfl ?_
                  refine wa_getR C 1 6 dW_1 rfl rfl (by decide) okX2 gw_107 dX2_put_132 ?_
                  refine wa_aload_n C 0 rfl dX2_put_135 rfl ?_
                  refine wa_getR C 1 0 dW_1 rfl rfl (by decide) okX2 gw_83 dX2_put_136 ?_
                  refine wa_getR C 2 3 dW_2 rfl rfl (by decide) okX3 gw_59 dX2_put_139 ?_
                  refine wa_iload C 4 rfl dX2_put_142 ?_
                  obtain ⟨t_53, h⟩ := h
                  refine wa_iald C 22 dW_22 dX2_put_144 t_53.1 t_53.2 (fun v_54 ev_54 rv_54 => ?_)
                  replace h := h v_54 ev_54 rv_54
                  refine wa_dup2 C dX2_put_145 rfl rfl ?_
                  obtain ⟨t_55, h⟩ := h
                  refine wa_iald C 17 dW_17 dX2_put_146 t_55.1 t_55.2 (fun v_56 ev_56 rv_56 => ?_)
                  replace h := h v_56 ev_56 rv_56
                  refine wa_iload C 3 rfl dX2_put_147 ?_
                  refine wa_iadd C dX2_put_149 ?_
                  obtain ⟨t_57, h⟩ := h
                  obtain ⟨r_58, h⟩ := h
                  refine wa_iast C (ws' := fun w9 => (dW D_hasBoard D_beganBlank F_mines F_moves F_changes G_width G_height G_size B_parts B_longest S_groups S_askedGroup S_taken R_waitingCount R_metCount A_grade A_cell A_mined A_withTotal A_numbers X_low X_high Y_low Y_high F_mined F_number F_state_14 F_cellsIn_12 F_unknownNear_52 w9 F_moveStart F_changed F_waiting F_seen G_near G_nearEnd B_chosen B_partOf B_rest B_unknowns B_partStart B_cells S_minedSet S_safeSet S_partSet S_tally S_askedTally S_groupOf S_groupSize S_links S_linkEnd S_pick S_groupMinedSet S_groupSafeSet O_sums O_nextSums R_found R_openEnds R_need R_waiting R_waits R_common R_met A_number Q_mined Q_all Q_choices Q_term Q_divisor Q_spare X_limbs X_sum Y_limbs Y_sum)) 17 dW_17 dX2_put_150 t_57.1 t_57.2 r_58 dWs_17 (fun F_hitNear_59 eF_hitNear_59 => ?_)
                  replace h := h F_hitNear_59 eF_hitNear_59
                  obtain ⟨r_60, h⟩ := h
                  refine wa_iinc C (lv' := fun w9 => [(6, .int (iI w9)), (0, .ref (ad 1)), (1, .int (iI x1)), (4, .int (iI x4_22)), (5, .int (iI x5_30))]) 4 rfl dX2_put_151 (by decide) (fun _ => rfl) (fun x6_61 ex6_61 => ?_)
                  replace h := h x6_61 ex6_61
                  have rx6_61 : inR x6_61 := by rw [ex6_61]; exact r_60
                  refine wa_goto C (tgt := 97) dX2_put_154 (by decide) ?_
                  obtain ⟨n_62, ln_62, h⟩ := h
                  refine wa_sub C [1, 2, 3, 4, 0] rfl ?_
                  exact ih_38 n_62 ln_62 x6_61 F_unknownNear_52 F_hitNear_59 rx6_61 h
            refine wa_sub C [1, 2, 3, 4, 0] rfl ?_
            exact k_39 n_36 x6_34 F_unknownNear F_hitNear rx6_34 h0Inv_35
          refine wa_if_ne C (tgt := 91) rx4_22 dX2_put_82 (by decide) (fun c_63 => ?_) (fun c_63 => ?_)
          · replace h := h.1 c_63
            refine wa_sub C [1, 2, 3, 0] rfl ?_
            exact k_32 h
          · replace h := h.2 c_63
            refine wa_iload C 0 rfl dX2_put_85 ?_
            refine wa_if_ne C (tgt := 91) rx5_30 dX2_put_87 (by decide) (fun c_64 => ?_) (fun c_64 => ?_)
            · replace h := h.1 c_64
              refine wa_sub C [1, 2, 3, 0] rfl ?_
              exact k_32 h
            · replace h := h.2 c_64
              exact ret dX2_put_90 ⟨_, _, _, _, rfl, h⟩
        refine wa_icmp_ne C (tgt := 76) rv_2 (inR_k 3 rfl) dX2_put_69 (by decide) (fun c_65 => ?_) (fun c_65 => ?_)
        · replace h := h.1 c_65
          refine wa_iconst C (z := 0) dX2_put_76 rfl ?_
          refine wa_sub C [0, 1, 3] rfl ?_
          exact k_27 0 (inR_k 0 rfl) h
        · replace h := h.2 c_65
          refine wa_iconst C (z := 1) dX2_put_72 rfl ?_
          refine wa_goto C (tgt := 77) dX2_put_73 (by decide) ?_
          refine wa_sub C [0, 1, 3] rfl ?_
          exact k_27 1 (inR_k 1 rfl) h
      refine wa_icmp_ne C (tgt := 66) rx2 (inR_k 3 rfl) dX2_put_59 (by decide) (fun c_66 => ?_) (fun c_66 => ?_)
      · replace h := h.1 c_66
        refine wa_iconst C (z := 0) dX2_put_66 rfl ?_
        refine wa_sub C [1, 2, 4, 0] rfl ?_
        exact k_24 0 (inR_k 0 rfl) h
      · replace h := h.2 c_66
        refine wa_iconst C (z := 1) dX2_put_62 rfl ?_
        refine wa_goto C (tgt := 67) dX2_put_63 (by decide) ?_
        refine wa_sub C [1, 2, 4, 0] rfl ?_
        exact k_24 1 (inR_k 1 rfl) h
    refine wa_icmp_gt C (tgt := 53) rv_2 (inR_k 1 rfl) dX2_put_46 (by decide) (fun c_67 => ?_) (fun c_67 => ?_)
    · replace h := h.1 c_67
      refine wa_iconst C (z := 0) dX2_put_53 rfl ?_
      refine wa_sub C [0, 1, 2, 3] rfl ?_
      exact k_19 0 (inR_k 0 rfl) h
    · replace h := h.2 c_67
      refine wa_iconst C (z := 1) dX2_put_49 rfl ?_
      refine wa_goto C (tgt := 54) dX2_put_50 (by decide) ?_
      refine wa_sub C [0, 1, 2, 3] rfl ?_
      exact k_19 1 (inR_k 1 rfl) h
  refine wa_icmp_gt C (tgt := 43) rx2 (inR_k 1 rfl) dX2_put_36 (by decide) (fun c_68 => ?_) (fun c_68 => ?_)
  · replace h := h.1 c_68
    refine wa_iconst C (z := 0) dX2_put_43 rfl ?_
    refine wa_sub C [1, 2, 3, 0] rfl ?_
    exact k_16 0 (inR_k 0 rfl) h
  · replace h := h.2 c_68
    refine wa_iconst C (z := 1) dX2_put_39 rfl ?_
    refine wa_goto C (tgt := 44) dX2_put_40 (by decide) ?_
    refine wa_sub C [1, 2, 3, 0] rfl ?_
    exact k_16 1 (inR_k 1 rfl) h
def P_X2_takeBackMove (post : (Int) → (Int) → (Int → Int) → (Int → Int) → (Int → Int) → (Int → Int) → Prop) (F_moves : Int) (F_changes : Int) (F_state : Int → Int) (F_cellsIn : Int → Int) (F_unknownNear : Int → Int) (F_hitNear : Int → Int) (F_moveStart : Int → Int) (F_changed : Int → Int) (G_near : Int → Int) (G_nearEnd : Int → Int) : Prop :=
  (0 < F_moves → (inR (F_moves - 1) ∧ (∀ F_moves_5 : Int, F_moves_5 = (F_moves - 1) → (inR (F_changes - 1) ∧ (∀ x1_8 : Int, x1_8 = (F_changes - 1) → (∃ Inv_9 : Nat → (Int) → (Int → Int) → (Int → Int) → (Int → Int) → (Int → Int) → Prop, (∃ n_10 : Nat, Inv_9 n_10 x1_8 F_state F_cellsIn F_unknownNear F_hitNear) ∧ ∀ (n_11 : Nat) (x1_14 : Int) (F_state_15 : Int → Int) (F_cellsIn_16 : Int → Int) (F_unknownNear_17 : Int → Int) (F_hitNear_18 : Int → Int), inR x1_14 → Inv_9 n_11 x1_14 F_state_15 F_cellsIn_16 F_unknownNear_17 F_hitNear_18 → ((0 ≤ F_moves_5 ∧ F_moves_5 < 512) ∧ (∀ v_21 : Int, v_21 = F_moveStart F_moves_5 → inR v_21 → ((x1_14 < v_21 → ((0 ≤ F_moves_5 ∧ F_moves_5 < 512) ∧ (∀ v_25 : Int, v_25 = F_moveStart F_moves_5 → inR v_25 → (post F_moves_5 v_25 F_state_15 F_cellsIn_16 F_unknownNear_17 F_hitNear_18)))) ∧ (¬ x1_14 < v_21 → ((0 ≤ x1_14 ∧ x1_14 < 656) ∧ (∀ v_27 : Int, v_27 = F_changed x1_14 → inR v_27 → ((0 ≤ x1_14 ∧ x1_14 < 656) ∧ (∀ v_29 : Int, v_29 = F_changed x1_14 → inR v_29 → (inR (v_27.tdiv 4) ∧ (inR (v_29.tmod 4) ∧ (P_X2_put (fun (F_state_32 : Int → Int) (F_cellsIn_33 : Int → Int) (F_unknownNear_34 : Int → Int) (F_hitNear_35 : Int → Int) => (inR (x1_14 + (-1)) ∧ (∀ x1_37 : Int, x1_37 = (x1_14 + (-1)) → (∃ n_38 : Nat, n_38 < n_11 ∧ Inv_9 n_38 x1_37 F_state_32 F_cellsIn_33 F_unknownNear_34 F_hitNear_35)))) F_state_15 F_cellsIn_16 F_unknownNear_17 F_hitNear_18 G_near G_nearEnd (v_27.tdiv 4) (v_29.tmod 4)))))))))))))))))) ∧ (¬ 0 < F_moves → (post F_moves F_changes F_state F_cellsIn F_unknownNear F_hitNear))
set_option maxRecDepth 100000 in
set_option maxHeartbeats 4000000 in
theorem c_X2_takeBackMove (l : Launch) (K : wK) (ad : Nat → Nat) {D_hasBoard : Int} {D_beganBlank : Int} {F_mines : Int} {F_moves : Int} {F_changes : Int} {G_width : Int} {G_height : Int} {G_size : Int} {B_parts : Int} {B_longest : Int} {S_groups : Int} {S_askedGroup : Int} {S_taken : Int} {R_waitingCount : Int} {R_metCount : Int} {A_grade : Int} {A_cell : Int} {A_mined : Int} {A_withTotal : Int} {A_numbers : Int} {X_low : Int} {X_high : Int} {Y_low : Int} {Y_high : Int} {F_mined : Int → Int} {F_number : Int → Int} {F_state : Int → Int} {F_cellsIn : Int → Int} {F_unknownNear : Int → Int} {F_hitNear : Int → Int} {F_moveStart : Int → Int} {F_changed : Int → Int} {F_waiting : Int → Int} {F_seen : Int → Int} {G_near : Int → Int} {G_nearEnd : Int → Int} {B_chosen : Int → Int} {B_partOf : Int → Int} {B_rest : Int → Int} {B_unknowns : Int → Int} {B_partStart : Int → Int} {B_cells : Int → Int} {S_minedSet : Int → Int} {S_safeSet : Int → Int} {S_partSet : Int → Int} {S_tally : Int → Int} {S_askedTally : Int → Int} {S_groupOf : Int → Int} {S_groupSize : Int → Int} {S_links : Int → Int} {S_linkEnd : Int → Int} {S_pick : Int → Int} {S_groupMinedSet : Int → Int} {S_groupSafeSet : Int → Int} {O_sums : Int → Int64} {O_nextSums : Int → Int64} {R_found : Int → Int} {R_openEnds : Int → Int} {R_need : Int → Int} {R_waiting : Int → Int} {R_waits : Int → Int} {R_common : Int → Int} {R_met : Int → Int} {A_number : Int → Int} {Q_mined : Int → Int64} {Q_all : Int → Int64} {Q_choices : Int → Int64} {Q_term : Int → Int64} {Q_divisor : Int → Int64} {Q_spare : Int → Int64} {X_limbs : Int → Int64} {X_sum : Int → Int64} {Y_limbs : Int → Int64} {Y_sum : Int → Int64}   (post : (Int) → (Int) → (Int → Int) → (Int → Int) → (Int → Int) → (Int → Int) → Prop) (h : P_X2_takeBackMove post F_moves F_changes F_state F_cellsIn F_unknownNear F_hitNear F_moveStart F_changed G_near G_nearEnd) : mV l yX2_takeBackMove (Cond.code yX2_takeBackMove cX2_takeBackMove 2 none :: GT) ({ frames := 3, cells := 0, slots := 0, locals := 180 } : Room) [.ref (ad 1)] K ad (dW D_hasBoard D_beganBlank F_mines F_moves F_changes G_width G_height G_size B_parts B_longest S_groups S_askedGroup S_taken R_waitingCount R_metCount A_grade A_cell A_mined A_withTotal A_numbers X_low X_high Y_low Y_high F_mined F_number F_state F_cellsIn F_unknownNear F_hitNear F_moveStart F_changed F_waiting F_seen G_near G_nearEnd B_chosen B_partOf B_rest B_unknowns B_partStart B_cells S_minedSet S_safeSet S_partSet S_tally S_askedTally S_groupOf S_groupSize S_links S_linkEnd S_pick S_groupMinedSet S_groupSafeSet O_sums O_nextSums R_found R_openEnds R_need R_waiting R_waits R_common R_met A_number Q_mined Q_all Q_choices Q_term Q_divisor Q_spare X_limbs X_sum Y_limbs Y_sum) (fun u9 => ∃ F_moves9 F_changes9 F_state9 F_cellsIn9 F_unknownNear9 F_hitNear9, u9 = (dW D_hasBoard D_beganBlank F_mines F_moves9 F_changes9 G_width G_height G_size B_parts B_longest S_groups S_askedGroup S_taken R_waitingCount R_metCount A_grade A_cell A_mined A_withTotal A_numbers X_low X_high Y_low Y_high F_mined F_number F_state9 F_cellsIn9 F_unknownNear9 F_hitNear9 F_moveStart F_changed F_waiting F_seen G_near G_nearEnd B_chosen B_partOf B_rest B_unknowns B_partStart B_cells S_minedSet S_safeSet S_partSet S_tally S_askedTally S_groupOf S_groupSize S_links S_linkEnd S_pick S_groupMinedSet S_groupSafeSet O_sums O_nextSums R_found R_openEnds R_need R_waiting R_waits R_common R_met A_number Q_mined Q_all Q_choices Q_term Q_divisor Q_spare X_limbs X_sum Y_limbs Y_sum) ∧ post F_moves9 F_changes9 F_state9 F_cellsIn9 F_unknownNear9 F_hitNear9) := by
  refine mV_of (lv0 := [(0, .ref (ad 1))]) (by decide) (Nat.le_of_ble_eq_true rfl) rfl ?_
  intro p e s m args below meth c Q A C ret
  replace C : Cx p ({ frames := 3, cells := 0, slots := 0, locals := 180 } : Room) m c 0 0 cX2_takeBackMove 2 s args RX2 K A := C
  unfold P_X2_takeBackMove at h
  refine wa_aload_n C 0 rfl dX2_takeBackMove_0 rfl ?_
  refine wa_getI C 1 8 dW_1 rfl rfl (by decide) okX2 gw_112 dX2_takeBackMove_1 (fun r_1 => ?_)
  refine wa_if_gt C (tgt := 8) r_1 dX2_takeBackMove_4 (by decide) (fun c_2 => ?_) (fun c_2 => ?_)
  · replace h := h.1 c_2
    refine wa_aload_n C 0 rfl dX2_takeBackMove_8 rfl ?_
    refine wa_dup C dX2_takeBackMove_9 rfl ?_
    refine wa_getI C 1 8 dW_1 rfl rfl (by decide) okX2 gw_112 dX2_takeBackMove_10 (fun r_3 => ?_)
    refine wa_iconst C (z := 1) dX2_takeBackMove_13 rfl ?_
    refine wa_isub C dX2_takeBackMove_14 ?_
    obtain ⟨r_4, h⟩ := h
    refine wa_nmi (fun F_moves_5 eF_moves_5 => ?_)
    replace h := h F_moves_5 eF_moves_5
    have rF_moves_5 : inR F_moves_5 := by rw [eF_moves_5]; exact r_4
    refine wa_putI C (ws' := (dW D_hasBoard D_beganBlank F_mines F_moves_5 F_changes G_width G_height G_size B_parts B_longest S_groups S_askedGroup S_taken R_waitingCount R_metCount A_grade A_cell A_mined A_withTotal A_numbers X_low X_high Y_low Y_high F_mined F_number F_state F_cellsIn F_unknownNear F_hitNear F_moveStart F_changed F_waiting F_seen G_near G_nearEnd B_chosen B_partOf B_rest B_unknowns B_partStart B_cells S_minedSet S_safeSet S_partSet S_tally S_askedTally S_groupOf S_groupSize S_links S_linkEnd S_pick S_groupMinedSet S_groupSafeSet O_sums O_nextSums R_found R_openEnds R_need R_waiting R_waits R_common R_met A_number Q_mined Q_all Q_choices Q_term Q_divisor Q_spare X_limbs X_sum Y_limbs Y_sum)) 1 8 dW_1 rfl (by decide) okX2 gw_112 rfl rfl (Nat.le_of_ble_eq_true rfl) rF_moves_5 (dWp_1_8 _) dX2_takeBackMove_15 ?_
    refine wa_aload_n C 0 rfl dX2_takeBackMove_18 rfl ?_
    refine wa_getI C 1 11 dW_1 rfl rfl (by decide) okX2 gw_116 dX2_takeBackMove_19 (fun r_6 => ?_)
    refine wa_iconst C (z := 1) dX2_takeBackMove_22 rfl ?_
    refine wa_isub C dX2_takeBackMove_23 ?_
    obtain ⟨r_7, h⟩ := h
    refine wa_nmi (fun x1_8 ex1_8 => ?_)
    replace h := h x1_8 ex1_8
    have rx1_8 : inR x1_8 := by rw [ex1_8]; exact r_7
    refine wa_istore_n C dX2_takeBackMove_24 rfl (by decide) rfl ?_
    obtain ⟨Inv_9, ⟨n_10, h0Inv_9⟩, hInv_9⟩ := h
    have k_13 : ∀ (n_11 : Nat) (x1_14 : Int) (F_state_15 : Int → Int) (F_cellsIn_16 : Int → Int) (F_unknownNear_17 : Int → Int) (F_hitNear_18 : Int → Int), inR x1_14 → Inv_9 n_11 x1_14 F_state_15 F_cellsIn_16 F_unknownNear_17 F_hitNear_18 → WA p l e ({ frames := 3, cells := 0, slots := 0, locals := 180 } : Room) s m args below meth c 0 0 Q K ad 2 A 25 [(0, .ref (ad 1)), (1, .int (iI x1_14))] [] (dW D_hasBoard D_beganBlank F_mines F_moves_5 F_changes G_width G_height G_size B_parts B_longest S_groups S_askedGroup S_taken R_waitingCount R_metCount A_grade A_cell A_mined A_withTotal A_numbers X_low X_high Y_low Y_high F_mined F_number F_state_15 F_cellsIn_16 F_unknownNear_17 F_hitNear_18 F_moveStart F_changed F_waiting F_seen G_near G_nearEnd B_chosen B_partOf B_rest B_unknowns B_partStart B_cells S_minedSet S_safeSet S_partSet S_tally S_askedTally S_groupOf S_groupSize S_links S_linkEnd S_pick S_groupMinedSet S_groupSafeSet O_sums O_nextSums R_found R_openEnds R_need R_waiting R_waits R_common R_met A_number Q_mined Q_all Q_choices Q_term Q_divisor Q_spare X_limbs X_sum Y_limbs Y_sum) := by
      intro n_11
      induction n_11 using Nat.strongRecOn with
      | ind n_11 ih_12 =>
        intro x1_14 F_state_15 F_cellsIn_16 F_unknownNear_17 F_hitNear_18 rx1_14 h
        replace h := hInv_9 n_11 x1_14 F_state_15 F_cellsIn_16 F_unknownNear_17 F_hitNear_18 rx1_14 h
        refine wa_iload_n C 1 rfl dX2_takeBackMove_25 rfl ?_
        refine wa_aload_n C 0 rfl dX2_takeBackMove_26 rfl ?_
        refine wa_getR C 1 9 dW_1 rfl rfl (by decide) okX2 gw_114 dX2_takeBackMove_27 ?_
        refine wa_aload_n C 0 rfl dX2_takeBackMove_30 rfl ?_
        refine wa_getI C 1 8 dW_1 rfl rfl (by decide) okX2 gw_112 dX2_takeBackMove_31 (fun r_19 => ?_)
        obtain ⟨t_20, h⟩ := h
        refine wa_iald C 18 dW_18 dX2_takeBackMove_34 t_20.1 t_20.2 (fun v_21 ev_21 rv_21 => ?_)
        replace h := h v_21 ev_21 rv_21
        refine wa_icmp_lt C (tgt := 64) rx1_14 rv_21 dX2_takeBackMove_35 (by decide) (fun c_22 => ?_) (fun c_22 => ?_)
        · replace h := h.1 c_22
          refine wa_aload_n C 0 rfl dX2_takeBackMove_64 rfl ?_
          refine wa_aload_n C 0 rfl dX2_takeBackMove_65 rfl ?_
          refine wa_getR C 1 9 dW_1 rfl rfl (by decide) okX2 gw_114 dX2_takeBackMove_66 ?_
          refine wa_aload_n C 0 rfl dX2_takeBackMove_69 rfl ?_
          refine wa_getI C 1 8 dW_1 rfl rfl (by decide) okX2 gw_112 dX2_takeBackMove_70 (fun r_23 => ?_)
          obtain ⟨t_24, h⟩ := h
          refine wa_iald C 18 dW_18 dX2_takeBackMove_73 t_24.1 t_24.2 (fun v_25 ev_25 rv_25 => ?_)
          replace h := h v_25 ev_25 rv_25
          refine wa_putI C (ws' := (dW D_hasBoard D_beganBlank F_mines F_moves_5 v_25 G_width G_height G_size B_parts B_longest S_groups S_askedGroup S_taken R_waitingCount R_metCount A_grade A_cell A_mined A_withTotal A_numbers X_low X_high Y_low Y_high F_mined F_number F_state_15 F_cellsIn_16 F_unknownNear_17 F_hitNear_18 F_moveStart F_changed F_waiting F_seen G_near G_nearEnd B_chosen B_partOf B_rest B_unknowns B_partStart B_cells S_minedSet S_safeSet S_partSet S_tally S_askedTally S_groupOf S_groupSize S_links S_linkEnd S_pick S_groupMinedSet S_groupSafeSet O_sums O_nextSums R_found R_openEnds R_need R_waiting R_waits R_common R_met A_number Q_mined Q_all Q_choices Q_term Q_divisor Q_spare X_limbs X_sum Y_limbs Y_sum)) 1 11 dW_1 rfl (by decide) okX2 gw_116 rfl rfl (Nat.le_of_ble_eq_true rfl) rv_25 (dWp_1_11 _) dX2_takeBackMove_74 ?_
          exact ret dX2_takeBackMove_77 ⟨_, _, _, _, _, _, rfl, h⟩
        · replace h := h.2 c_22
          refine wa_aload_n C 0 rfl dX2_takeBackMove_38 rfl ?_
          refine wa_aload_n C 0 rfl dX2_takeBackMove_39 rfl ?_
          refine wa_getR C 1 10 dW_1 rfl rfl (by decide) okX2 gw_115 dX2_takeBackMove_40 ?_
          refine wa_iload_n C 1 rfl dX2_takeBackMove_43 rfl ?_
          obtain ⟨t_26, h⟩ := h
          refine wa_iald C 19 dW_19 dX2_takeBackMove_44 t_26.1 t_26.2 (fun v_27 ev_27 rv_27 => ?_)
          replace h := h v_27 ev_27 rv_27
          refine wa_iconst C (z := 4) dX2_takeBackMove_45 rfl ?_
          refine wa_idiv C dX2_takeBackMove_46 rv_27 (inR_k 4 rfl) (by decide) ?_
          refine wa_aload_n C 0 rfl dX2_takeBackMove_47 rfl ?_
          refine wa_getR C 1 10 dW_1 rfl rfl (by decide) okX2 gw_115 dX2_takeBackMove_48 ?_
          refine wa_iload_n C 1 rfl dX2_takeBackMove_51 rfl ?_
          obtain ⟨t_28, h⟩ := h
          refine wa_iald C 19 dW_19 dX2_takeBackMove_52 t_28.1 t_28.2 (fun v_29 ev_29 rv_29 => ?_)
          replace h := h v_29 ev_29 rv_29
          refine wa_iconst C (z := 4) dX2_takeBackMove_53 rfl ?_
          refine wa_irem C dX2_takeBackMove_54 rv_29 (inR_k 4 rfl) (by decide) ?_
          obtain ⟨r_30, h⟩ := h
          obtain ⟨r_31, h⟩ := h
          refine wa_callVv C (k := 1) (As := [.int (iI (v_27.tdiv 4)), .int (iI (v_29.tmod 4))]) (rest := []) (c_X2_put l K ad (v_27.tdiv 4) (v_29.tmod 4) r_30 r_31 _ h) gw_657 gw_654 dW_1 rfl gw_656 gs_7 gw_2 q_X2_put rfl rfl rfl ⟨by decide, by decide⟩ rfl (Nat.le_of_ble_eq_true rfl) dX2_takeBackMove_55 (fun u9 hp => ?_)
          obtain ⟨F_state_32, F_cellsIn_33, F_unknownNear_34, F_hitNear_35, rfl, h⟩ := hp
          obtain ⟨r_36, h⟩ := h
          refine wa_iinc C (lv' := fun w9 => [(1, .int (iI w9)), (0, .ref (ad 1))]) 1 rfl dX2_takeBackMove_58 (by decide) (fun _ => rfl) (fun x1_37 ex1_37 => ?_)
          replace h := h x1_37 ex1_37
          have rx1_37 : inR x1_37 := by rw [ex1_37]; exact r_36
          refine wa_goto C (tgt := 25) dX2_takeBackMove_61 (by decide) ?_
          obtain ⟨n_38, ln_38, h⟩ := h
          refine wa_sub C [1, 0] rfl ?_
          exact ih_12 n_38 ln_38 x1_37 F_state_32 F_cellsIn_33 F_unknownNear_34 F_hitNear_35 rx1_37 h
    refine wa_sub C [1, 0] rfl ?_
    exact k_13 n_10 x1_8 F_state F_cellsIn F_unknownNear F_hitNear rx1_8 h0Inv_9
  · replace h := h.2 c_2
    exact ret dX2_takeBackMove_7 ⟨_, _, _, _, _, _, rfl, h⟩
def P_X2_change (post : (Int) → (Int → Int) → (Int → Int) → (Int → Int) → (Int → Int) → (Int → Int) → Prop) (F_changes : Int) (F_state : Int → Int) (F_cellsIn : Int → Int) (F_unknownNear : Int → Int) (F_hitNear : Int → Int) (F_changed : Int → Int) (G_near : Int → Int) (G_nearEnd : Int → Int) (x1 : Int) (x2 : Int) : Prop :=
  (656 ≤ F_changes → (post F_changes F_state F_cellsIn F_unknownNear F_hitNear F_changed)) ∧ (¬ 656 ≤ F_changes → ((0 ≤ x1 ∧ x1 < 144) ∧ (∀ v_5 : Int, v_5 = F_state x1 → inR v_5 → ((0 ≤ F_changes ∧ F_changes < 656) ∧ (inR ((x1 * 4) + v_5) ∧ (∀ F_changed_8 : Int → Int, F_changed_8 = upZ F_changed F_changes ((x1 * 4) + v_5) → (inR (F_changes + 1) ∧ (∀ F_changes_11 : Int, F_changes_11 = (F_changes + 1) → (P_X2_put (fun (F_state_12 : Int → Int) (F_cellsIn_13 : Int → Int) (F_unknownNear_14 : Int → Int) (F_hitNear_15 : Int → Int) => (post F_changes_11 F_state_12 F_cellsIn_13 F_unknownNear_14 F_hitNear_15 F_changed_8)) F_state F_cellsIn F_unknownNear F_hitNear G_near G_nearEnd x1 x2)))))))))
set_option maxRecDepth 100000 in
set_option maxHeartbeats 4000000 in
theorem c_X2_change (l : Launch) (K : wK) (ad : Nat → Nat) {D_hasBoard : Int} {D_beganBlank : Int} {F_mines : Int} {F_moves : Int} {F_changes : Int} {G_width : Int} {G_height : Int} {G_size : Int} {B_parts : Int} {B_longest : Int} {S_groups : Int} {S_askedGroup : Int} {S_taken : Int} {R_waitingCount : Int} {R_metCount : Int} {A_grade : Int} {A_cell : Int} {A_mined : Int} {A_withTotal : Int} {A_numbers : Int} {X_low : Int} {X_high : Int} {Y_low : Int} {Y_high : Int} {F_mined : Int → Int} {F_number : Int → Int} {F_state : Int → Int} {F_cellsIn : Int → Int} {F_unknownNear : Int → Int} {F_hitNear : Int → Int} {F_moveStart : Int → Int} {F_changed : Int → Int} {F_waiting : Int → Int} {F_seen : Int → Int} {G_near : Int → Int} {G_nearEnd : Int → Int} {B_chosen : Int → Int} {B_partOf : Int → Int} {B_rest : Int → Int} {B_unknowns : Int → Int} {B_partStart : Int → Int} {B_cells : Int → Int} {S_minedSet : Int → Int} {S_safeSet : Int → Int} {S_partSet : Int → Int} {S_tally : Int → Int} {S_askedTally : Int → Int} {S_groupOf : Int → Int} {S_groupSize : Int → Int} {S_links : Int → Int} {S_linkEnd : Int → Int} {S_pick : Int → Int} {S_groupMinedSet : Int → Int} {S_groupSafeSet : Int → Int} {O_sums : Int → Int64} {O_nextSums : Int → Int64} {R_found : Int → Int} {R_openEnds : Int → Int} {R_need : Int → Int} {R_waiting : Int → Int} {R_waits : Int → Int} {R_common : Int → Int} {R_met : Int → Int} {A_number : Int → Int} {Q_mined : Int → Int64} {Q_all : Int → Int64} {Q_choices : Int → Int64} {Q_term : Int → Int64} {Q_divisor : Int → Int64} {Q_spare : Int → Int64} {X_limbs : Int → Int64} {X_sum : Int → Int64} {Y_limbs : Int → Int64} {Y_sum : Int → Int64} (x1 : Int) (x2 : Int) (rx1 : inR x1) (rx2 : inR x2) (post : (Int) → (Int → Int) → (Int → Int) → (Int → Int) → (Int → Int) → (Int → Int) → Prop) (h : P_X2_change post F_changes F_state F_cellsIn F_unknownNear F_hitNear F_changed G_near G_nearEnd x1 x2) : mV l yX2_change (Cond.code yX2_change cX2_change 3 none :: GT) ({ frames := 3, cells := 0, slots := 0, locals := 180 } : Room) [.ref (ad 1), .int (iI x1), .int (iI x2)] K ad (dW D_hasBoard D_beganBlank F_mines F_moves F_changes G_width G_height G_size B_parts B_longest S_groups S_askedGroup S_taken R_waitingCount R_metCount A_grade A_cell A_mined A_withTotal A_numbers X_low X_high Y_low Y_high F_mined F_number F_state F_cellsIn F_unknownNear F_hitNear F_moveStart F_changed F_waiting F_seen G_near G_nearEnd B_chosen B_partOf B_rest B_unknowns B_partStart B_cells S_minedSet S_safeSet S_partSet S_tally S_askedTally S_groupOf S_groupSize S_links S_linkEnd S_pick S_groupMinedSet S_groupSafeSet O_sums O_nextSums R_found R_openEnds R_need R_waiting R_waits R_common R_met A_number Q_mined Q_all Q_choices Q_term Q_divisor Q_spare X_limbs X_sum Y_limbs Y_sum) (fun u9 => ∃ F_changes9 F_state9 F_cellsIn9 F_unknownNear9 F_hitNear9 F_changed9, u9 = (dW D_hasBoard D_beganBlank F_mines F_moves F_changes9 G_width G_height G_size B_parts B_longest S_groups S_askedGroup S_taken R_waitingCount R_metCount A_grade A_cell A_mined A_withTotal A_numbers X_low X_high Y_low Y_high F_mined F_number F_state9 F_cellsIn9 F_unknownNear9 F_hitNear9 F_moveStart F_changed9 F_waiting F_seen G_near G_nearEnd B_chosen B_partOf B_rest B_unknowns B_partStart B_cells S_minedSet S_safeSet S_partSet S_tally S_askedTally S_groupOf S_groupSize S_links S_linkEnd S_pick S_groupMinedSet S_groupSafeSet O_sums O_nextSums R_found R_openEnds R_need R_waiting R_waits R_common R_met A_number Q_mined Q_all Q_choices Q_term Q_divisor Q_spare X_limbs X_sum Y_limbs Y_sum) ∧ post F_changes9 F_state9 F_cellsIn9 F_unknownNear9 F_hitNear9 F_changed9) := by
  refine mV_of (lv0 := [(0, .ref (ad 1)), (1, .int (iI x1)), (2, .int (iI x2))]) (by decide) (Nat.le_of_ble_eq_true rfl) rfl ?_
  intro p e s m args below meth c Q A C ret
  replace C : Cx p ({ frames := 3, cells := 0, slots := 0, locals := 180 } : Room) m c 0 0 cX2_change 3 s args RX2 K A := C
  unfold P_X2_change at h
  refine wa_aload_n C 0 rfl dX2_change_0 rfl ?_
  refine wa_getI C 1 11 dW_1 rfl rfl (by decide) okX2 gw_116 dX2_change_1 (fun r_1 => ?_)
  refine wa_sipush C (z := 656) dX2_change_4 (by decide) ?_
  refine wa_icmp_ge C (tgt := 45) r_1 (inR_k 656 rfl) dX2_change_7 (by decide) (fun c_2 => ?_) (fun c_2 => ?_)
  · replace h := h.1 c_2
    exact ret dX2_change_45 ⟨_, _, _, _, _, _, rfl, h⟩
  · replace h := h.2 c_2
    refine wa_aload_n C 0 rfl dX2_change_10 rfl ?_
    refine wa_getR C 1 10 dW_1 rfl rfl (by decide) okX2 gw_115 dX2_change_11 ?_
    refine wa_aload_n C 0 rfl dX2_change_14 rfl ?_
    refine wa_getI C 1 11 dW_1 rfl rfl (by decide) okX2 gw_116 dX2_change_15 (fun r_3 => ?_)
    refine wa_iload_n C 1 rfl dX2_change_18 rfl ?_
    refine wa_iconst C (z := 4) dX2_change_19 rfl ?_
    refine wa_imul C dX2_change_20 ?_
    refine wa_aload_n C 0 rfl dX2_change_21 rfl ?_
    refine wa_getR C 1 3 dW_1 rfl rfl (by decide) okX2 gw_96 dX2_change_22 ?_
    refine wa_iload_n C 1 rfl dX2_change_25 rfl ?_
    obtain ⟨t_4, h⟩ := h
    refine wa_iald C 14 dW_14 dX2_change_26 t_4.1 t_4.2 (fun v_5 ev_5 rv_5 => ?_)
    replace h := h v_5 ev_5 rv_5
    refine wa_iadd C dX2_change_27 ?_
    obtain ⟨t_6, h⟩ := h
    obtain ⟨r_7, h⟩ := h
    refine wa_iast C (ws' := fun w9 => (dW D_hasBoard D_beganBlank F_mines F_moves F_changes G_width G_height G_size B_parts B_longest S_groups S_askedGroup S_taken R_waitingCount R_metCount A_grade A_cell A_mined A_withTotal A_numbers X_low X_high Y_low Y_high F_mined F_number F_state F_cellsIn F_unknownNear F_hitNear F_moveStart w9 F_waiting F_seen G_near G_nearEnd B_chosen B_partOf B_rest B_unknowns B_partStart B_cells S_minedSet S_safeSet S_partSet S_tally S_askedTally S_groupOf S_groupSize S_links S_linkEnd S_pick S_groupMinedSet S_groupSafeSet O_sums O_nextSums R_found R_openEnds R_need R_waiting R_waits R_common R_met A_number Q_mined Q_all Q_choices Q_term Q_divisor Q_spare X_limbs X_sum Y_limbs Y_sum)) 19 dW_19 dX2_change_28 t_6.1 t_6.2 r_7 dWs_19 (fun F_changed_8 eF_changed_8 => ?_)
    replace h := h F_changed_8 eF_changed_8
    refine wa_aload_n C 0 rfl dX2_change_29 rfl ?_
    refine wa_dup C dX2_change_30 rfl ?_
    refine wa_getI C 1 11 dW_1 rfl rfl (by decide) okX2 gw_116 dX2_change_31 (fun r_9 => ?_)
    refine wa_iconst C (z := 1) dX2_change_34 rfl ?_
    refine wa_iadd C dX2_change_35 ?_
    obtain ⟨r_10, h⟩ := h
    refine wa_nmi (fun F_changes_11 eF_changes_11 => ?_)
    replace h := h F_changes_11 eF_changes_11
    have rF_changes_11 : inR F_changes_11 := by rw [eF_changes_11]; exact r_10
    refine wa_putI C (ws' := (dW D_hasBoard D_beganBlank F_mines F_moves F_changes_11 G_width G_height G_size B_parts B_longest S_groups S_askedGroup S_taken R_waitingCount R_metCount A_grade A_cell A_mined A_withTotal A_numbers X_low X_high Y_low Y_high F_mined F_number F_state F_cellsIn F_unknownNear F_hitNear F_moveStart F_changed_8 F_waiting F_seen G_near G_nearEnd B_chosen B_partOf B_rest B_unknowns B_partStart B_cells S_minedSet S_safeSet S_partSet S_tally S_askedTally S_groupOf S_groupSize S_links S_linkEnd S_pick S_groupMinedSet S_groupSafeSet O_sums O_nextSums R_found R_openEnds R_need R_waiting R_waits R_common R_met A_number Q_mined Q_all Q_choices Q_term Q_divisor Q_spare X_limbs X_sum Y_limbs Y_sum)) 1 11 dW_1 rfl (by decide) okX2 gw_116 rfl rfl (Nat.le_of_ble_eq_true rfl) rF_changes_11 (dWp_1_11 _) dX2_change_36 ?_
    refine wa_aload_n C 0 rfl dX2_change_39 rfl ?_
    refine wa_iload_n C 1 rfl dX2_change_40 rfl ?_
    refine wa_iload_n C 2 rfl dX2_change_41 rfl ?_
    refine wa_callVv C (k := 1) (As := [.int (iI x1), .int (iI x2)]) (rest := []) (c_X2_put l K ad x1 x2 rx1 rx2 _ h) gw_657 gw_654 dW_1 rfl gw_656 gs_7 gw_2 q_X2_put rfl rfl rfl ⟨by decide, by decide⟩ rfl (Nat.le_of_ble_eq_true rfl) dX2_change_42 (fun u9 hp => ?_)
    obtain ⟨F_state_12, F_cellsIn_13, F_unknownNear_14, F_hitNear_15, rfl, h⟩ := hp
    exact ret dX2_change_45 ⟨_, _, _, _, _, _, rfl, h⟩
def P_X2_uncoverSafeAround (post : Int → (Int) → (Int → Int) → (Int → Int) → (Int → Int) → (Int → Int) → (Int → Int) → (Int → Int) → Prop) (F_changes : Int) (F_mined : Int → Int) (F_state : Int → Int) (F_cellsIn : Int → Int) (F_unknownNear : Int → Int) (F_hitNear : Int → Int) (F_changed : Int → Int) (F_waiting : Int → Int) (G_near : Int → Int) (G_nearEnd : Int → Int) (x1 : Int) (x2 : Int) : Prop :=
  inR (x1 * 8) ∧ (∀ x4_2 : Int, x4_2 = (x1 * 8) → (∃ Inv_3 : Nat → (Int) → (Int) → (Int) → (Int → Int) → (Int → Int) → (Int → Int) → (Int → Int) → (Int → Int) → (Int → Int) → Prop, (∃ n_4 : Nat, Inv_3 n_4 x2 x4_2 F_changes F_state F_cellsIn F_unknownNear F_hitNear F_changed F_waiting) ∧ ∀ (n_5 : Nat) (x3_8 : Int) (x4_9 : Int) (F_changes_10 : Int) (F_state_11 : Int → Int) (F_cellsIn_12 : Int → Int) (F_unknownNear_13 : Int → Int) (F_hitNear_14 : Int → Int) (F_changed_15 : Int → Int) (F_waiting_16 : Int → Int), inR x3_8 → inR x4_9 → Inv_3 n_5 x3_8 x4_9 F_changes_10 F_state_11 F_cellsIn_12 F_unknownNear_13 F_hitNear_14 F_changed_15 F_waiting_16 → ((0 ≤ x1 ∧ x1 < 144) ∧ (∀ v_18 : Int, v_18 = G_nearEnd x1 → inR v_18 → ((v_18 ≤ x4_9 → (post x3_8 F_changes_10 F_state_11 F_cellsIn_12 F_unknownNear_13 F_hitNear_14 F_changed_15 F_waiting_16)) ∧ (¬ v_18 ≤ x4_9 → ((0 ≤ x4_9 ∧ x4_9 < 1152) ∧ (∀ v_21 : Int, v_21 = G_near x4_9 → inR v_21 → (P_X2_isUnknown (fun (c_22 : Int) => (c_22 = 0 ∨ c_22 = 1) → (∃ J_23 : (Int) → (Int) → (Int → Int) → (Int → Int) → (Int → Int) → (Int → Int) → (Int → Int) → (Int → Int) → Prop, ((c_22 = 0 → (J_23 x3_8 F_changes_10 F_state_11 F_cellsIn_12 F_unknownNear_13 F_hitNear_14 F_changed_15 F_waiting_16)) ∧ (¬ c_22 = 0 → ((0 ≤ v_21 ∧ v_21 < 144) ∧ (∀ v_38 : Int, v_38 = F_mined v_21 → (v_38 = 0 ∨ v_38 = 1) → ((¬ v_38 = 0 → (J_23 x3_8 F_changes_10 F_state_11 F_cellsIn_12 F_unknownNear_13 F_hitNear_14 F_changed_15 F_waiting_16)) ∧ (v_38 = 0 → ((144 ≤ x3_8 → (J_23 x3_8 F_changes_10 F_state_11 F_cellsIn_12 F_unknownNear_13 F_hitNear_14 F_changed_15 F_waiting_16)) ∧ (¬ 144 ≤ x3_8 → (P_X2_change (fun (F_changes_41 : Int) (F_state_42 : Int → Int) (F_cellsIn_43 : Int → Int) (F_unknownNear_44 : Int → Int) (F_hitNear_45 : Int → Int) (F_changed_46 : Int → Int) => ((0 ≤ x3_8 ∧ x3_8 < 144) ∧ (∀ F_waiting_48 : Int → Int, F_waiting_48 = upZ F_waiting_16 x3_8 v_21 → (inR (x3_8 + 1) ∧ (∀ x3_50 : Int, x3_50 = (x3_8 + 1) → (J_23 x3_50 F_changes_41 F_state_42 F_cellsIn_43 F_unknownNear_44 F_hitNear_45 F_changed_46 F_waiting_48)))))) F_changes_10 F_state_11 F_cellsIn_12 F_unknownNear_13 F_hitNear_14 F_changed_15 G_near G_nearEnd v_21 2))))))))) ∧ (∀ (x3_25 : Int) (F_changes_26 : Int) (F_state_27 : Int → Int) (F_cellsIn_28 : Int → Int) (F_unknownNear_29 : Int → Int) (F_hitNear_30 : Int → Int) (F_changed_31 : Int → Int) (F_waiting_32 : Int → Int), inR x3_25 → J_23 x3_25 F_changes_26 F_state_27 F_cellsIn_28 F_unknownNear_29 F_hitNear_30 F_changed_31 F_waiting_32 → (inR (x4_9 + 1) ∧ (∀ x4_34 : Int, x4_34 = (x4_9 + 1) → (∃ n_35 : Nat, n_35 < n_5 ∧ Inv_3 n_35 x3_25 x4_34 F_changes_26 F_state_27 F_cellsIn_28 F_unknownNear_29 F_hitNear_30 F_changed_31 F_waiting_32)))))) F_state_11 v_21)))))))))
set_option maxRecDepth 100000 in
set_option maxHeartbeats 4000000 in
theorem c_X2_uncoverSafeAround (l : Launch) (K : wK) (ad : Nat → Nat) {D_hasBoard : Int} {D_beganBlank : Int} {F_mines : Int} {F_moves : Int} {F_changes : Int} {G_width : Int} {G_height : Int} {G_size : Int} {B_parts : Int} {B_longest : Int} {S_groups : Int} {S_askedGroup : Int} {S_taken : Int} {R_waitingCount : Int} {R_metCount : Int} {A_grade : Int} {A_cell : Int} {A_mined : Int} {A_withTotal : Int} {A_numbers : Int} {X_low : Int} {X_high : Int} {Y_low : Int} {Y_high : Int} {F_mined : Int → Int} {F_number : Int → Int} {F_state : Int → Int} {F_cellsIn : Int → Int} {F_unknownNear : Int → Int} {F_hitNear : Int → Int} {F_moveStart : Int → Int} {F_changed : Int → Int} {F_waiting : Int → Int} {F_seen : Int → Int} {G_near : Int → Int} {G_nearEnd : Int → Int} {B_chosen : Int → Int} {B_partOf : Int → Int} {B_rest : Int → Int} {B_unknowns : Int → Int} {B_partStart : Int → Int} {B_cells : Int → Int} {S_minedSet : Int → Int} {S_safeSet : Int → Int} {S_partSet : Int → Int} {S_tally : Int → Int} {S_askedTally : Int → Int} {S_groupOf : Int → Int} {S_groupSize : Int → Int} {S_links : Int → Int} {S_linkEnd : Int → Int} {S_pick : Int → Int} {S_groupMinedSet : Int → Int} {S_groupSafeSet : Int → Int} {O_sums : Int → Int64} {O_nextSums : Int → Int64} {R_found : Int → Int} {R_openEnds : Int → Int} {R_need : Int → Int} {R_waiting : Int → Int} {R_waits : Int → Int} {R_common : Int → Int} {R_met : Int → Int} {A_number : Int → Int} {Q_mined : Int → Int64} {Q_all : Int → Int64} {Q_choices : Int → Int64} {Q_term : Int → Int64} {Q_divisor : Int → Int64} {Q_spare : Int → Int64} {X_limbs : Int → Int64} {X_sum : Int → Int64} {Y_limbs : Int → Int64} {Y_sum : Int → Int64} (x1 : Int) (x2 : Int) (rx1 : inR x1) (rx2 : inR x2) (post : Int → (Int) → (Int → Int) → (Int → Int) → (Int → Int) → (Int → Int) → (Int → Int) → (Int → Int) → Prop) (h : P_X2_uncoverSafeAround post F_changes F_mined F_state F_cellsIn F_unknownNear F_hitNear F_changed F_waiting G_near G_nearEnd x1 x2) : mI l yX2_uncoverSafeAround (Cond.code yX2_uncoverSafeAround cX2_uncoverSafeAround 6 (some .int) :: GT) ({ frames := 4, cells := 0, slots := 0, locals := 240 } : Room) [.ref (ad 1), .int (iI x1), .int (iI x2)] K ad (dW D_hasBoard D_beganBlank F_mines F_moves F_changes G_width G_height G_size B_parts B_longest S_groups S_askedGroup S_taken R_waitingCount R_metCount A_grade A_cell A_mined A_withTotal A_numbers X_low X_high Y_low Y_high F_mined F_number F_state F_cellsIn F_unknownNear F_hitNear F_moveStart F_changed F_waiting F_seen G_near G_nearEnd B_chosen B_partOf B_rest B_unknowns B_partStart B_cells S_minedSet S_safeSet S_partSet S_tally S_askedTally S_groupOf S_groupSize S_links S_linkEnd S_pick S_groupMinedSet S_groupSafeSet O_sums O_nextSums R_found R_openEnds R_need R_waiting R_waits R_common R_met A_number Q_mined Q_all Q_choices Q_term Q_divisor Q_spare X_limbs X_sum Y_limbs Y_sum) (fun z9 u9 => ∃ F_changes9 F_state9 F_cellsIn9 F_unknownNear9 F_hitNear9 F_changed9 F_waiting9, u9 = (dW D_hasBoard D_beganBlank F_mines F_moves F_changes9 G_width G_height G_size B_parts B_longest S_groups S_askedGroup S_taken R_waitingCount R_metCount A_grade A_cell A_mined A_withTotal A_numbers X_low X_high Y_low Y_high F_mined F_number F_state9 F_cellsIn9 F_unknownNear9 F_hitNear9 F_moveStart F_changed9 F_waiting9 F_seen G_near G_nearEnd B_chosen B_partOf B_rest B_unknowns B_partStart B_cells S_minedSet S_safeSet S_partSet S_tally S_askedTally S_groupOf S_groupSize S_links S_linkEnd S_pick S_groupMinedSet S_groupSafeSet O_sums O_nextSums R_found R_openEnds R_need R_waiting R_waits R_common R_met A_number Q_mined Q_all Q_choices Q_term Q_divisor Q_spare X_limbs X_sum Y_limbs Y_sum) ∧ post z9 F_changes9 F_state9 F_cellsIn9 F_unknownNear9 F_hitNear9 F_changed9 F_waiting9) := by
  refine mI_of (lv0 := [(0, .ref (ad 1)), (1, .int (iI x1)), (2, .int (iI x2))]) (by decide) (Nat.le_of_ble_eq_true rfl) rfl ?_
  intro p e s m args below meth c Q A C ret
  replace C : Cx p ({ frames := 4, cells := 0, slots := 0, locals := 240 } : Room) m c 0 0 cX2_uncoverSafeAround 6 s args RX2 K A := C
  unfold P_X2_uncoverSafeAround at h
  refine wa_iload_n C 2 rfl dX2_uncoverSafeAround_0 rfl ?_
  refine wa_istore_n C dX2_uncoverSafeAround_1 rfl (by decide) rfl ?_
  refine wa_iload_n C 2 rfl dX2_uncoverSafeAround_2 rfl ?_
  refine wa_bipush C (z := 8) dX2_uncoverSafeAround_3 (by decide) ?_
  refine wa_imul C dX2_uncoverSafeAround_5 ?_
  obtain ⟨r_1, h⟩ := h
  refine wa_nmi (fun x4_2 ex4_2 => ?_)
  replace h := h x4_2 ex4_2
  have rx4_2 : inR x4_2 := by rw [ex4_2]; exact r_1
  refine wa_istore C dX2_uncoverSafeAround_6 (by decide) rfl ?_
  obtain ⟨Inv_3, ⟨n_4, h0Inv_3⟩, hInv_3⟩ := h
  have k_7 : ∀ (n_5 : Nat) (x3_8 : Int) (x4_9 : Int) (F_changes_10 : Int) (F_state_11 : Int → Int) (F_cellsIn_12 : Int → Int) (F_unknownNear_13 : Int → Int) (F_hitNear_14 : Int → Int) (F_changed_15 : Int → Int) (F_waiting_16 : Int → Int), inR x3_8 → inR x4_9 → Inv_3 n_5 x3_8 x4_9 F_changes_10 F_state_11 F_cellsIn_12 F_unknownNear_13 F_hitNear_14 F_changed_15 F_waiting_16 → WA p l e ({ frames := 4, cells := 0, slots := 0, locals := 240 } : Room) s m args below meth c 0 0 Q K ad 6 A 8 [(0, .ref (ad 1)), (1, .int (iI x1)), (3, .int (iI x3_8)), (4, .int (iI x4_9))] [] (dW D_hasBoard D_beganBlank F_mines F_moves F_changes_10 G_width G_height G_size B_parts B_longest S_groups S_askedGroup S_taken R_waitingCount R_metCount A_grade A_cell A_mined A_withTotal A_numbers X_low X_high Y_low Y_high F_mined F_number F_state_11 F_cellsIn_12 F_unknownNear_13 F_hitNear_14 F_moveStart F_changed_15 F_waiting_16 F_seen G_near G_nearEnd B_chosen B_partOf B_rest B_unknowns B_partStart B_cells S_minedSet S_safeSet S_partSet S_tally S_askedTally S_groupOf S_groupSize S_links S_linkEnd S_pick S_groupMinedSet S_groupSafeSet O_sums O_nextSums R_found R_openEnds R_need R_waiting R_waits R_common R_met A_number Q_mined Q_all Q_choices Q_term Q_divisor Q_spare X_limbs X_sum Y_limbs Y_sum) := by
    intro n_5
    induction n_5 using Nat.strongRecOn with
    | ind n_5 ih_6 =>
      intro x3_8 x4_9 F_changes_10 F_state_11 F_cellsIn_12 F_unknownNear_13 F_hitNear_14 F_changed_15 F_waiting_16 rx3_8 rx4_9 h
      replace h := hInv_3 n_5 x3_8 x4_9 F_changes_10 F_state_11 F_cellsIn_12 F_unknownNear_13 F_hitNear_14 F_changed_15 F_waiting_16 rx3_8 rx4_9 h
      refine wa_iload C 3 rfl dX2_uncoverSafeAround_8 ?_
      refine wa_aload_n C 0 rfl dX2_uncoverSafeAround_10 rfl ?_
      refine wa_getR C 1 0 dW_1 rfl rfl (by decide) okX2 gw_83 dX2_uncoverSafeAround_11 ?_
      refine wa_getR C 2 4 dW_2 rfl rfl (by decide) okX3 gw_65 dX2_uncoverSafeAround_14 ?_
      refine wa_iload_n C 1 rfl dX2_uncoverSafeAround_17 rfl ?_
      obtain ⟨t_17, h⟩ := h
      refine wa_iald C 23 dW_23 dX2_uncoverSafeAround_18 t_17.1 t_17.2 (fun v_18 ev_18 rv_18 => ?_)
      replace h := h v_18 ev_18 rv_18
      refine wa_icmp_ge C (tgt := 84) rx4_9 rv_18 dX2_uncoverSafeAround_19 (by decide) (fun c_19 => ?_) (fun c_19 => ?_)
      · replace h := h.1 c_19
        refine wa_iload_n C 2 rfl dX2_uncoverSafeAround_84 rfl ?_
        exact ret dX2_uncoverSafeAround_85 rx3_8 ⟨_, _, _, _, _, _, _, rfl, h⟩
      · replace h := h.2 c_19
        refine wa_aload_n C 0 rfl dX2_uncoverSafeAround_22 rfl ?_
        refine wa_getR C 1 0 dW_1 rfl rfl (by decide) okX2 gw_83 dX2_uncoverSafeAround_23 ?_
        refine wa_getR C 2 3 dW_2 rfl rfl (by decide) okX3 gw_59 dX2_uncoverSafeAround_26 ?_
        refine wa_iload C 3 rfl dX2_uncoverSafeAround_29 ?_
        obtain ⟨t_20, h⟩ := h
        refine wa_iald C 22 dW_22 dX2_uncoverSafeAround_31 t_20.1 t_20.2 (fun v_21 ev_21 rv_21 => ?_)
        replace h := h v_21 ev_21 rv_21
        refine wa_istore C dX2_uncoverSafeAround_32 (by decide) rfl ?_
        refine wa_aload_n C 1 rfl dX2_uncoverSafeAround_34 rfl ?_
        refine wa_iload C 0 rfl dX2_uncoverSafeAround_35 ?_
        refine wa_callVi C (k := 1) (As := [.int (iI v_21)]) (rest := []) (c_X2_isUnknown l K ad v_21 rv_21 _ h) gw_665 gw_662 dW_1 rfl gw_663 gw_664 gw_2 q_X2_isUnknown rfl rfl rfl ⟨by decide, by decide⟩ rfl (Nat.le_of_ble_eq_true rfl) dX2_uncoverSafeAround_37 (fun c_22 u9 rc_22 hp => ?_)
        obtain ⟨bc_22, rfl, h⟩ := hp
        replace h := h bc_22
        obtain ⟨J_23, h, hJ_23⟩ := h
        have k_24 : ∀ (x3_25 : Int) (F_changes_26 : Int) (F_state_27 : Int → Int) (F_cellsIn_28 : Int → Int) (F_unknownNear_29 : Int → Int) (F_hitNear_30 : Int → Int) (F_changed_31 : Int → Int) (F_waiting_32 : Int → Int), inR x3_25 → J_23 x3_25 F_changes_26 F_state_27 F_cellsIn_28 F_unknownNear_29 F_hitNear_30 F_changed_31 F_waiting_32 → WA p l e ({ frames := 4, cells := 0, slots := 0, locals := 240 } : Room) s m args below meth c 0 0 Q K ad 6 A 78 [(0, .ref (ad 1)), (1, .int (iI x1)), (3, .int (iI x3_25)), (4, .int (iI x4_9))] [] (dW D_hasBoard D_beganBlank F_mines F_moves F_changes_26 G_width G_height G_size B_parts B_longest S_groups S_askedGroup S_taken R_waitingCount R_metCount A_grade A_cell A_mined A_withTotal A_numbers X_low X_high Y_low Y_high F_mined F_number F_state_27 F_cellsIn_28 F_unknownNear_29 F_hitNear_30 F_moveStart F_changed_31 F_waiting_32 F_seen G_near G_nearEnd B_chosen B_partOf B_rest B_unknowns B_partStart B_cells S_minedSet S_safeSet S_partSet S_tally S_askedTally S_groupOf S_groupSize S_links S_linkEnd S_pick S_groupMinedSet S_groupSafeSet O_sums O_nextSums R_found R_openEnds R_need R_waiting R_waits R_common R_met A_number Q_mined Q_all Q_choices Q_term Q_divisor Q_spare X_limbs X_sum Y_limbs Y_sum) := by
          intro x3_25 F_changes_26 F_state_27 F_cellsIn_28 F_unknownNear_29 F_hitNear_30 F_changed_31 F_waiting_32 rx3_25 h
          replace h := hJ_23 x3_25 F_changes_26 F_state_27 F_cellsIn_28 F_unknownNear_29 F_hitNear_30 F_changed_31 F_waiting_32 rx3_25 h
          obtain ⟨r_33, h⟩ := h
          refine wa_iinc C (lv' := fun w9 => [(4, .int (iI w9)), (0, .ref (ad 1)), (1, .int (iI x1)), (3, .int (iI x3_25))]) 3 rfl dX2_uncoverSafeAround_78 (by decide) (fun _ => rfl) (fun x4_34 ex4_34 => ?_)
          replace h := h x4_34 ex4_34
          have rx4_34 : inR x4_34 := by rw [ex4_34]; exact r_33
          refine wa_goto C (tgt := 8) dX2_uncoverSafeAround_81 (by decide) ?_
          obtain ⟨n_35, ln_35, h⟩ := h
          refine wa_sub C [1, 2, 3, 0] rfl ?_
          exact ih_6 n_35 ln_35 x3_25 x4_34 F_changes_26 F_state_27 F_cellsIn_28 F_unknownNear_29 F_hitNear_30 F_changed_31 F_waiting_32 rx3_25 rx4_34 h
        refine wa_if_eq C (tgt := 78) (inR_b bc_22) dX2_uncoverSafeAround_40 (by decide) (fun c_36 => ?_) (fun c_36 => ?_)
        · replace h := h.1 c_36
          refine wa_sub C [1, 2, 3, 4] rfl ?_
          exact k_24 x3_8 F_changes_10 F_state_11 F_cellsIn_12 F_unknownNear_13 F_hitNear_14 F_changed_15 F_waiting_16 rx3_8 h
        · replace h := h.2 c_36
          refine wa_aload_n C 1 rfl dX2_uncoverSafeAround_43 rfl ?_
          refine wa_getR C 1 1 dW_1 rfl rfl (by decide) okX2 gw_89 dX2_uncoverSafeAround_44 ?_
          refine wa_iload C 0 rfl dX2_uncoverSafeAround_47 ?_
          obtain ⟨t_37, h⟩ := h
          refine wa_bald C 12 dW_12 dX2_uncoverSafeAround_49 t_37.1 t_37.2 (fun v_38 ev_38 rv_38 => ?_)
          replace h := h v_38 ev_38 rv_38
          refine wa_if_ne C (tgt := 78) (inR_b rv_38) dX2_uncoverSafeAround_50 (by decide) (fun c_39 => ?_) (fun c_39 => ?_)
          · replace h := h.1 c_39
            refine wa_sub C [1, 2, 3, 4] rfl ?_
            exact k_24 x3_8 F_changes_10 F_state_11 F_cellsIn_12 F_unknownNear_13 F_hitNear_14 F_changed_15 F_waiting_16 rx3_8 h
          · replace h := h.2 c_39
            refine wa_iload_n C 3 rfl dX2_uncoverSafeAround_53 rfl ?_
            refine wa_sipush C (z := 144) dX2_uncoverSafeAround_54 (by decide) ?_
            refine wa_icmp_ge C (tgt := 78) rx3_8 (inR_k 144 rfl) dX2_uncoverSafeAround_57 (by decide) (fun c_40 => ?_) (fun c_40 => ?_)
            · replace h := h.1 c_40
              refine wa_sub C [1, 2, 3, 4] rfl ?_
              exact k_24 x3_8 F_changes_10 F_state_11 F_cellsIn_12 F_unknownNear_13 F_hitNear_14 F_changed_15 F_waiting_16 rx3_8 h
            · replace h := h.2 c_40
              refine wa_aload_n C 1 rfl dX2_uncoverSafeAround_60 rfl ?_
              refine wa_iload C 0 rfl dX2_uncoverSafeAround_61 ?_
              refine wa_iconst C (z := 2) dX2_uncoverSafeAround_63 rfl ?_
              refine wa_callVv C (k := 1) (As := [.int (iI v_21), .int (iI 2)]) (rest := []) (c_X2_change l K ad v_21 2 rv_21 (inR_k 2 rfl) _ h) gw_653 gw_650 dW_1 rfl gw_651 gw_652 gw_2 q_X2_change rfl rfl rfl ⟨by decide, by decide⟩ rfl (Nat.le_of_ble_eq_true rfl) dX2_uncoverSafeAround_64 (fun u9 hp => ?_)
              obtain ⟨F_changes_41, F_state_42, F_cellsIn_43, F_unknownNear_44, F_hitNear_45, F_changed_46, rfl, h⟩ := hp
              refine wa_aload_n C 1 rfl dX2_uncoverSafeAround_67 rfl ?_
              refine wa_getR C 1 12 dW_1 rfl rfl (by decide) okX2 gw_117 dX2_uncoverSafeAround_68 ?_
              refine wa_iload_n C 3 rfl dX2_uncoverSafeAround_71 rfl ?_
              refine wa_iload C 0 rfl dX2_uncoverSafeAround_72 ?_
              obtain ⟨t_47, h⟩ := h
              refine wa_iast C (ws' := fun w9 => (dW D_hasBoard D_beganBlank F_mines F_moves F_changes_41 G_width G_height G_size B_parts B_longest S_groups S_askedGroup S_taken R_waitingCount R_metCount A_grade A_cell A_mined A_withTotal A_numbers X_low X_high Y_low Y_high F_mined F_number F_state_42 F_cellsIn_43 F_unknownNear_44 F_hitNear_45 F_moveStart F_changed_46 w9 F_seen G_near G_nearEnd B_chosen B_partOf B_rest B_unknowns B_partStart B_cells S_minedSet S_safeSet S_partSet S_tally S_askedTally S_groupOf S_groupSize S_links S_linkEnd S_pick S_groupMinedSet S_groupSafeSet O_sums O_nextSums R_found R_openEnds R_need R_waiting R_waits R_common R_met A_number Q_mined Q_all Q_choices Q_term Q_divisor Q_spare X_limbs X_sum Y_limbs Y_sum)) 20 dW_20 dX2_uncoverSafeAround_74 t_47.1 t_47.2 rv_21 dWs_20 (fun F_waiting_48 eF_waiting_48 => ?_)
              replace h := h F_waiting_48 eF_waiting_48
              obtain ⟨r_49, h⟩ := h
              refine wa_iinc C (lv' := fun w9 => [(3, .int (iI w9)), (5, .int (iI v_21)), (0, .ref (ad 1)), (1, .int (iI x1)), (4, .int (iI x4_9))]) 3 rfl dX2_uncoverSafeAround_75 (by decide) (fun _ => rfl) (fun x3_50 ex3_50 => ?_)
              replace h := h x3_50 ex3_50
              have rx3_50 : inR x3_50 := by rw [ex3_50]; exact r_49
              refine wa_sub C [2, 3, 0, 4] rfl ?_
              exact k_24 x3_50 F_changes_41 F_state_42 F_cellsIn_43 F_unknownNear_44 F_hitNear_45 F_changed_46 F_waiting_48 rx3_50 h
  refine wa_sub C [2, 3, 1, 0] rfl ?_
  exact k_7 n_4 x2 x4_2 F_changes F_state F_cellsIn F_unknownNear F_hitNear F_changed F_waiting rx2 rx4_2 h0Inv_3
def P_X2_uncover (post : (Int) → (Int → Int) → (Int → Int) → (Int → Int) → (Int → Int) → (Int → Int) → (Int → Int) → Prop) (F_changes : Int) (F_mined : Int → Int) (F_number : Int → Int) (F_state : Int → Int) (F_cellsIn : Int → Int) (F_unknownNear : Int → Int) (F_hitNear : Int → Int) (F_changed : Int → Int) (F_waiting : Int → Int) (G_near : Int → Int) (G_nearEnd : Int → Int) (x1 : Int) : Prop :=
  (0 ≤ x1 ∧ x1 < 144) ∧ (∀ v_2 : Int, v_2 = F_mined x1 → (v_2 = 0 ∨ v_2 = 1) → ((v_2 = 0 → (P_X2_change (fun (F_changes_4 : Int) (F_state_5 : Int → Int) (F_cellsIn_6 : Int → Int) (F_unknownNear_7 : Int → Int) (F_hitNear_8 : Int → Int) (F_changed_9 : Int → Int) => (∀ F_waiting_10 : Int → Int, F_waiting_10 = upZ F_waiting 0 x1 → (∃ Inv_11 : Nat → (Int) → (Int) → (Int) → (Int → Int) → (Int → Int) → (Int → Int) → (Int → Int) → (Int → Int) → (Int → Int) → Prop, (∃ n_12 : Nat, Inv_11 n_12 1 0 F_changes_4 F_state_5 F_cellsIn_6 F_unknownNear_7 F_hitNear_8 F_changed_9 F_waiting_10) ∧ ∀ (n_13 : Nat) (x2_16 : Int) (x3_17 : Int) (F_changes_18 : Int) (F_state_19 : Int → Int) (F_cellsIn_20 : Int → Int) (F_unknownNear_21 : Int → Int) (F_hitNear_22 : Int → Int) (F_changed_23 : Int → Int) (F_waiting_24 : Int → Int), inR x2_16 → inR x3_17 → Inv_11 n_13 x2_16 x3_17 F_changes_18 F_state_19 F_cellsIn_20 F_unknownNear_21 F_hitNear_22 F_changed_23 F_waiting_24 → ((x2_16 ≤ x3_17 → (post F_changes_18 F_state_19 F_cellsIn_20 F_unknownNear_21 F_hitNear_22 F_changed_23 F_waiting_24)) ∧ (¬ x2_16 ≤ x3_17 → ((144 ≤ x3_17 → (post F_changes_18 F_state_19 F_cellsIn_20 F_unknownNear_21 F_hitNear_22 F_changed_23 F_waiting_24)) ∧ (¬ 144 ≤ x3_17 → ((0 ≤ x3_17 ∧ x3_17 < 144) ∧ (∀ v_28 : Int, v_28 = F_waiting_24 x3_17 → inR v_28 → ((0 ≤ v_28 ∧ v_28 < 144) ∧ (∀ v_30 : Int, v_30 = F_number v_28 → inR v_30 → (∃ J_31 : (Int) → (Int) → (Int → Int) → (Int → Int) → (Int → Int) → (Int → Int) → (Int → Int) → (Int → Int) → Prop, ((¬ v_30 = 0 → (J_31 x2_16 F_changes_18 F_state_19 F_cellsIn_20 F_unknownNear_21 F_hitNear_22 F_changed_23 F_waiting_24)) ∧ (v_30 = 0 → ((0 ≤ x3_17 ∧ x3_17 < 144) ∧ (∀ v_46 : Int, v_46 = F_waiting_24 x3_17 → inR v_46 → (P_X2_uncoverSafeAround (fun (c_47 : Int) (F_changes_48 : Int) (F_state_49 : Int → Int) (F_cellsIn_50 : Int → Int) (F_unknownNear_51 : Int → Int) (F_hitNear_52 : Int → Int) (F_changed_53 : Int → Int) (F_waiting_54 : Int → Int) => inR c_47 → (J_31 c_47 F_changes_48 F_state_49 F_cellsIn_50 F_unknownNear_51 F_hitNear_52 F_changed_53 F_waiting_54)) F_changes_18 F_mined F_state_19 F_cellsIn_20 F_unknownNear_21 F_hitNear_22 F_changed_23 F_waiting_24 G_near G_nearEnd v_46 x2_16))))) ∧ (∀ (x2_33 : Int) (F_changes_34 : Int) (F_state_35 : Int → Int) (F_cellsIn_36 : Int → Int) (F_unknownNear_37 : Int → Int) (F_hitNear_38 : Int → Int) (F_changed_39 : Int → Int) (F_waiting_40 : Int → Int), inR x2_33 → J_31 x2_33 F_changes_34 F_state_35 F_cellsIn_36 F_unknownNear_37 F_hitNear_38 F_changed_39 F_waiting_40 → (inR (x3_17 + 1) ∧ (∀ x3_42 : Int, x3_42 = (x3_17 + 1) → (∃ n_43 : Nat, n_43 < n_13 ∧ Inv_11 n_43 x2_33 x3_42 F_changes_34 F_state_35 F_cellsIn_36 F_unknownNear_37 F_hitNear_38 F_changed_39 F_waiting_40)))))))))))))))) F_changes F_state F_cellsIn F_unknownNear F_hitNear F_changed G_near G_nearEnd x1 2)) ∧ (¬ v_2 = 0 → (P_X2_change (fun (F_changes_55 : Int) (F_state_56 : Int → Int) (F_cellsIn_57 : Int → Int) (F_unknownNear_58 : Int → Int) (F_hitNear_59 : Int → Int) (F_changed_60 : Int → Int) => (post F_changes_55 F_state_56 F_cellsIn_57 F_unknownNear_58 F_hitNear_59 F_changed_60 F_waiting)) F_changes F_state F_cellsIn F_unknownNear F_hitNear F_changed G_near G_nearEnd x1 3))))
set_option maxRecDepth 100000 in
set_option maxHeartbeats 4000000 in
theorem c_X2_uncover (l : Launch) (K : wK) (ad : Nat → Nat) {D_hasBoard : Int} {D_beganBlank : Int} {F_mines : Int} {F_moves : Int} {F_changes : Int} {G_width : Int} {G_height : Int} {G_size : Int} {B_parts : Int} {B_longest : Int} {S_groups : Int} {S_askedGroup : Int} {S_taken : Int} {R_waitingCount : Int} {R_metCount : Int} {A_grade : Int} {A_cell : Int} {A_mined : Int} {A_withTotal : Int} {A_numbers : Int} {X_low : Int} {X_high : Int} {Y_low : Int} {Y_high : Int} {F_mined : Int → Int} {F_number : Int → Int} {F_state : Int → Int} {F_cellsIn : Int → Int} {F_unknownNear : Int → Int} {F_hitNear : Int → Int} {F_moveStart : Int → Int} {F_changed : Int → Int} {F_waiting : Int → Int} {F_seen : Int → Int} {G_near : Int → Int} {G_nearEnd : Int → Int} {B_chosen : Int → Int} {B_partOf : Int → Int} {B_rest : Int → Int} {B_unknowns : Int → Int} {B_partStart : Int → Int} {B_cells : Int → Int} {S_minedSet : Int → Int} {S_safeSet : Int → Int} {S_partSet : Int → Int} {S_tally : Int → Int} {S_askedTally : Int → Int} {S_groupOf : Int → Int} {S_groupSize : Int → Int} {S_links : Int → Int} {S_linkEnd : Int → Int} {S_pick : Int → Int} {S_groupMinedSet : Int → Int} {S_groupSafeSet : Int → Int} {O_sums : Int → Int64} {O_nextSums : Int → Int64} {R_found : Int → Int} {R_openEnds : Int → Int} {R_need : Int → Int} {R_waiting : Int → Int} {R_waits : Int → Int} {R_common : Int → Int} {R_met : Int → Int} {A_number : Int → Int} {Q_mined : Int → Int64} {Q_all : Int → Int64} {Q_choices : Int → Int64} {Q_term : Int → Int64} {Q_divisor : Int → Int64} {Q_spare : Int → Int64} {X_limbs : Int → Int64} {X_sum : Int → Int64} {Y_limbs : Int → Int64} {Y_sum : Int → Int64} (x1 : Int) (rx1 : inR x1) (post : (Int) → (Int → Int) → (Int → Int) → (Int → Int) → (Int → Int) → (Int → Int) → (Int → Int) → Prop) (h : P_X2_uncover post F_changes F_mined F_number F_state F_cellsIn F_unknownNear F_hitNear F_changed F_waiting G_near G_nearEnd x1) : mV l yX2_uncover (Cond.code yX2_uncover cX2_uncover 4 none :: GT) ({ frames := 5, cells := 0, slots := 0, locals := 300 } : Room) [.ref (ad 1), .int (iI x1)] K ad (dW D_hasBoard D_beganBlank F_mines F_moves F_changes G_width G_height G_size B_parts B_longest S_groups S_askedGroup S_taken R_waitingCount R_metCount A_grade A_cell A_mined A_withTotal A_numbers X_low X_high Y_low Y_high F_mined F_number F_state F_cellsIn F_unknownNear F_hitNear F_moveStart F_changed F_waiting F_seen G_near G_nearEnd B_chosen B_partOf B_rest B_unknowns B_partStart B_cells S_minedSet S_safeSet S_partSet S_tally S_askedTally S_groupOf S_groupSize S_links S_linkEnd S_pick S_groupMinedSet S_groupSafeSet O_sums O_nextSums R_found R_openEnds R_need R_waiting R_waits R_common R_met A_number Q_mined Q_all Q_choices Q_term Q_divisor Q_spare X_limbs X_sum Y_limbs Y_sum) (fun u9 => ∃ F_changes9 F_state9 F_cellsIn9 F_unknownNear9 F_hitNear9 F_changed9 F_waiting9, u9 = (dW D_hasBoard D_beganBlank F_mines F_moves F_changes9 G_width G_height G_size B_parts B_longest S_groups S_askedGroup S_taken R_waitingCount R_metCount A_grade A_cell A_mined A_withTotal A_numbers X_low X_high Y_low Y_high F_mined F_number F_state9 F_cellsIn9 F_unknownNear9 F_hitNear9 F_moveStart F_changed9 F_waiting9 F_seen G_near G_nearEnd B_chosen B_partOf B_rest B_unknowns B_partStart B_cells S_minedSet S_safeSet S_partSet S_tally S_askedTally S_groupOf S_groupSize S_links S_linkEnd S_pick S_groupMinedSet S_groupSafeSet O_sums O_nextSums R_found R_openEnds R_need R_waiting R_waits R_common R_met A_number Q_mined Q_all Q_choices Q_term Q_divisor Q_spare X_limbs X_sum Y_limbs Y_sum) ∧ post F_changes9 F_state9 F_cellsIn9 F_unknownNear9 F_hitNear9 F_changed9 F_waiting9) := by
  refine mV_of (lv0 := [(0, .ref (ad 1)), (1, .int (iI x1))]) (by decide) (Nat.le_of_ble_eq_true rfl) rfl ?_
  intro p e s m args below meth c Q A C ret
  replace C : Cx p ({ frames := 5, cells := 0, slots := 0, locals := 300 } : Room) m c 0 0 cX2_uncover 4 s args RX2 K A := C
  unfold P_X2_uncover at h
  refine wa_aload_n C 0 rfl dX2_uncover_0 rfl ?_
  refine wa_getR C 1 1 dW_1 rfl rfl (by decide) okX2 gw_89 dX2_uncover_1 ?_
  refine wa_iload_n C 1 rfl dX2_uncover_4 rfl ?_
  obtain ⟨t_1, h⟩ := h
  refine wa_bald C 12 dW_12 dX2_uncover_5 t_1.1 t_1.2 (fun v_2 ev_2 rv_2 => ?_)
  replace h := h v_2 ev_2 rv_2
  refine wa_if_eq C (tgt := 16) (inR_b rv_2) dX2_uncover_6 (by decide) (fun c_3 => ?_) (fun c_3 => ?_)
  · replace h := h.1 c_3
    refine wa_aload_n C 0 rfl dX2_uncover_16 rfl ?_
    refine wa_iload_n C 1 rfl dX2_uncover_17 rfl ?_
    refine wa_iconst C (z := 2) dX2_uncover_18 rfl ?_
    refine wa_callVv C (k := 1) (As := [.int (iI x1), .int (iI 2)]) (rest := []) (c_X2_change l K ad x1 2 rx1 (inR_k 2 rfl) _ h) gw_653 gw_650 dW_1 rfl gw_651 gw_652 gw_2 q_X2_change rfl rfl rfl ⟨by decide, by decide⟩ rfl (Nat.le_of_ble_eq_true rfl) dX2_uncover_19 (fun u9 hp => ?_)
    obtain ⟨F_changes_4, F_state_5, F_cellsIn_6, F_unknownNear_7, F_hitNear_8, F_changed_9, rfl, h⟩ := hp
    refine wa_aload_n C 0 rfl dX2_uncover_22 rfl ?_
    refine wa_getR C 1 12 dW_1 rfl rfl (by decide) okX2 gw_117 dX2_uncover_23 ?_
    refine wa_iconst C (z := 0) dX2_uncover_26 rfl ?_
    refine wa_iload_n C 1 rfl dX2_uncover_27 rfl ?_
    refine wa_iast C (ws' := fun w9 => (dW D_hasBoard D_beganBlank F_mines F_moves F_changes_4 G_width G_height G_size B_parts B_longest S_groups S_askedGroup S_taken R_waitingCount R_metCount A_grade A_cell A_mined A_withTotal A_numbers X_low X_high Y_low Y_high F_mined F_number F_state_5 F_cellsIn_6 F_unknownNear_7 F_hitNear_8 F_moveStart F_changed_9 w9 F_seen G_near G_nearEnd B_chosen B_partOf B_rest B_unknowns B_partStart B_cells S_minedSet S_safeSet S_partSet S_tally S_askedTally S_groupOf S_groupSize S_links S_linkEnd S_pick S_groupMinedSet S_groupSafeSet O_sums O_nextSums R_found R_openEnds R_need R_waiting R_waits R_common R_met A_number Q_mined Q_all Q_choices Q_term Q_divisor Q_spare X_limbs X_sum Y_limbs Y_sum)) 20 dW_20 dX2_uncover_28 (by decide) (by decide) rx1 dWs_20 (fun F_waiting_10 eF_waiting_10 => ?_)
    replace h := h F_waiting_10 eF_waiting_10
    refine wa_iconst C (z := 1) dX2_uncover_29 rfl ?_
    refine wa_istore_n C dX2_uncover_30 rfl (by decide) rfl ?_
    refine wa_iconst C (z := 0) dX2_uncover_31 rfl ?_
    refine wa_istore_n C dX2_uncover_32 rfl (by decide) rfl ?_
    obtain ⟨Inv_11, ⟨n_12, h0Inv_11⟩, hInv_11⟩ := h
    have k_15 : ∀ (n_13 : Nat) (x2_16 : Int) (x3_17 : Int) (F_changes_18 : Int) (F_state_19 : Int → Int) (F_cellsIn_20 : Int → Int) (F_unknownNear_21 : Int → Int) (F_hitNear_22 : Int → Int) (F_changed_23 : Int → Int) (F_waiting_24 : Int → Int), inR x2_16 → inR x3_17 → Inv_11 n_13 x2_16 x3_17 F_changes_18 F_state_19 F_cellsIn_20 F_unknownNear_21 F_hitNear_22 F_changed_23 F_waiting_24 → WA p l e ({ frames := 5, cells := 0, slots := 0, locals := 300 } : Room) s m args below meth c 0 0 Q K ad 4 A 33 [(0, .ref (ad 1)), (2, .int (iI x2_16)), (3, .int (iI x3_17))] [] (dW D_hasBoard D_beganBlank F_mines F_moves F_changes_18 G_width G_height G_size B_parts B_longest S_groups S_askedGroup S_taken R_waitingCount R_metCount A_grade A_cell A_mined A_withTotal A_numbers X_low X_high Y_low Y_high F_mined F_number F_state_19 F_cellsIn_20 F_unknownNear_21 F_hitNear_22 F_moveStart F_changed_23 F_waiting_24 F_seen G_near G_nearEnd B_chosen B_partOf B_rest B_unknowns B_partStart B_cells S_minedSet S_safeSet S_partSet S_tally S_askedTally S_groupOf S_groupSize S_links S_linkEnd S_pick S_groupMinedSet S_groupSafeSet O_sums O_nextSums R_found R_openEnds R_need R_waiting R_waits R_common R_met A_number Q_mined Q_all Q_choices Q_term Q_divisor Q_spare X_limbs X_sum Y_limbs Y_sum) := by
      intro n_13
      induction n_13 using Nat.strongRecOn with
      | ind n_13 ih_14 =>
        intro x2_16 x3_17 F_changes_18 F_state_19 F_cellsIn_20 F_unknownNear_21 F_hitNear_22 F_changed_23 F_waiting_24 rx2_16 rx3_17 h
        replace h := hInv_11 n_13 x2_16 x3_17 F_changes_18 F_state_19 F_cellsIn_20 F_unknownNear_21 F_hitNear_22 F_changed_23 F_waiting_24 rx2_16 rx3_17 h
        refine wa_iload_n C 2 rfl dX2_uncover_33 rfl ?_
        refine wa_iload_n C 1 rfl dX2_uncover_34 rfl ?_
        refine wa_icmp_ge C (tgt := 77) rx3_17 rx2_16 dX2_uncover_35 (by decide) (fun c_25 => ?_) (fun c_25 => ?_)
        · replace h := h.1 c_25
          exact ret dX2_uncover_77 ⟨_, _, _, _, _, _, _, rfl, h⟩
        · replace h := h.2 c_25
          refine wa_iload_n C 2 rfl dX2_uncover_38 rfl ?_
          refine wa_sipush C (z := 144) dX2_uncover_39 (by decide) ?_
          refine wa_icmp_ge C (tgt := 77) rx3_17 (inR_k 144 rfl) dX2_uncover_42 (by decide) (fun c_26 => ?_) (fun c_26 => ?_)
          · replace h := h.1 c_26
            exact ret dX2_uncover_77 ⟨_, _, _, _, _, _, _, rfl, h⟩
          · replace h := h.2 c_26
            refine wa_aload_n C 0 rfl dX2_uncover_45 rfl ?_
            refine wa_getR C 1 2 dW_1 rfl rfl (by decide) okX2 gw_92 dX2_uncover_46 ?_
            refine wa_aload_n C 0 rfl dX2_uncover_49 rfl ?_
            refine wa_getR C 1 12 dW_1 rfl rfl (by decide) okX2 gw_117 dX2_uncover_50 ?_
            refine wa_iload_n C 2 rfl dX2_uncover_53 rfl ?_
            obtain ⟨t_27, h⟩ := h
            refine wa_iald C 20 dW_20 dX2_uncover_54 t_27.1 t_27.2 (fun v_28 ev_28 rv_28 => ?_)
            replace h := h v_28 ev_28 rv_28
            obtain ⟨t_29, h⟩ := h
            refine wa_iald C 13 dW_13 dX2_uncover_55 t_29.1 t_29.2 (fun v_30 ev_30 rv_30 => ?_)
            replace h := h v_30 ev_30 rv_30
            obtain ⟨J_31, h, hJ_31⟩ := h
            have k_32 : ∀ (x2_33 : Int) (F_changes_34 : Int) (F_state_35 : Int → Int) (F_cellsIn_36 : Int → Int) (F_unknownNear_37 : Int → Int) (F_hitNear_38 : Int → Int) (F_changed_39 : Int → Int) (F_waiting_40 : Int → Int), inR x2_33 → J_31 x2_33 F_changes_34 F_state_35 F_cellsIn_36 F_unknownNear_37 F_hitNear_38 F_changed_39 F_waiting_40 → WA p l e ({ frames := 5, cells := 0, slots := 0, locals := 300 } : Room) s m args below meth c 0 0 Q K ad 4 A 71 [(0, .ref (ad 1)), (2, .int (iI x2_33)), (3, .int (iI x3_17))] [] (dW D_hasBoard D_beganBlank F_mines F_moves F_changes_34 G_width G_height G_size B_parts B_longest S_groups S_askedGroup S_taken R_waitingCount R_metCount A_grade A_cell A_mined A_withTotal A_numbers X_low X_high Y_low Y_high F_mined F_number F_state_35 F_cellsIn_36 F_unknownNear_37 F_hitNear_38 F_moveStart F_changed_39 F_waiting_40 F_seen G_near G_nearEnd B_chosen B_partOf B_rest B_unknowns B_partStart B_cells S_minedSet S_safeSet S_partSet S_tally S_askedTally S_groupOf S_groupSize S_links S_linkEnd S_pick S_groupMinedSet S_groupSafeSet O_sums O_nextSums R_found R_openEnds R_need R_waiting R_waits R_common R_met A_number Q_mined Q_all Q_choices Q_term Q_divisor Q_spare X_limbs X_sum Y_limbs Y_sum) := by
              intro x2_33 F_changes_34 F_state_35 F_cellsIn_36 F_unknownNear_37 F_hitNear_38 F_changed_39 F_waiting_40 rx2_33 h
              replace h := hJ_31 x2_33 F_changes_34 F_state_35 F_cellsIn_36 F_unknownNear_37 F_hitNear_38 F_changed_39 F_waiting_40 rx2_33 h
              obtain ⟨r_41, h⟩ := h
              refine wa_iinc C (lv' := fun w9 => [(3, .int (iI w9)), (0, .ref (ad 1)), (2, .int (iI x2_33))]) 2 rfl dX2_uncover_71 (by decide) (fun _ => rfl) (fun x3_42 ex3_42 => ?_)
              replace h := h x3_42 ex3_42
              have rx3_42 : inR x3_42 := by rw [ex3_42]; exact r_41
              refine wa_goto C (tgt := 33) dX2_uncover_74 (by decide) ?_
              obtain ⟨n_43, ln_43, h⟩ := h
              refine wa_sub C [1, 2, 0] rfl ?_
              exact ih_14 n_43 ln_43 x2_33 x3_42 F_changes_34 F_state_35 F_cellsIn_36 F_unknownNear_37 F_hitNear_38 F_changed_39 F_waiting_40 rx2_33 rx3_42 h
            refine wa_if_ne C (tgt := 71) rv_30 dX2_uncover_56 (by decide) (fun c_44 => ?_) (fun c_44 => ?_)
            · replace h := h.1 c_44
              refine wa_sub C [0, 1, 2] rfl ?_
              exact k_32 x2_16 F_changes_18 F_state_19 F_cellsIn_20 F_unknownNear_21 F_hitNear_22 F_changed_23 F_waiting_24 rx2_16 h
            · replace h := h.2 c_44
              refine wa_aload_n C 0 rfl dX2_uncover_59 rfl ?_
              refine wa_aload_n C 0 rfl dX2_uncover_60 rfl ?_
              refine wa_getR C 1 12 dW_1 rfl rfl (by decide) okX2 gw_117 dX2_uncover_61 ?_
              refine wa_iload_n C 2 rfl dX2_uncover_64 rfl ?_
              obtain ⟨t_45, h⟩ := h
              refine wa_iald C 20 dW_20 dX2_uncover_65 t_45.1 t_45.2 (fun v_46 ev_46 rv_46 => ?_)
              replace h := h v_46 ev_46 rv_46
              refine wa_iload_n C 1 rfl dX2_uncover_66 rfl ?_
              refine wa_callVi C (k := 1) (As := [.int (iI v_46), .int (iI x2_16)]) (rest := []) (c_X2_uncoverSafeAround l K ad v_46 x2_16 rv_46 rx2_16 _ h) gw_661 gw_658 dW_1 rfl gw_660 gs_8 gw_2 q_X2_uncoverSafeAround rfl rfl rfl ⟨by decide, by decide⟩ rfl (Nat.le_of_ble_eq_true rfl) dX2_uncover_67 (fun c_47 u9 rc_47 hp => ?_)
              obtain ⟨F_changes_48, F_state_49, F_cellsIn_50, F_unknownNear_51, F_hitNear_52, F_changed_53, F_waiting_54, rfl, h⟩ := hp
              replace h := h rc_47
              refine wa_istore_n C dX2_uncover_70 rfl (by decide) rfl ?_
              refine wa_sub C [1, 0, 2] rfl ?_
              exact k_32 c_47 F_changes_48 F_state_49 F_cellsIn_50 F_unknownNear_51 F_hitNear_52 F_changed_53 F_waiting_54 rc_47 h
    refine wa_sub C [2, 1, 0] rfl ?_
    exact k_15 n_12 1 0 F_changes_4 F_state_5 F_cellsIn_6 F_unknownNear_7 F_hitNear_8 F_changed_9 F_waiting_10 (inR_k 1 rfl) (inR_k 0 rfl) h0Inv_11
  · replace h := h.2 c_3
    refine wa_aload_n C 0 rfl dX2_uncover_9 rfl ?_
    refine wa_iload_n C 1 rfl dX2_uncover_10 rfl ?_
    refine wa_iconst C (z := 3) dX2_uncover_11 rfl ?_
    refine wa_callVv C (k := 1) (As := [.int (iI x1), .int (iI 3)]) (rest := []) (c_X2_change l K ad x1 3 rx1 (inR_k 3 rfl) _ h) gw_653 gw_650 dW_1 rfl gw_651 gw_652 gw_2 q_X2_change rfl rfl rfl ⟨by decide, by decide⟩ rfl (Nat.le_of_ble_eq_true rfl) dX2_uncover_12 (fun u9 hp => ?_)
    obtain ⟨F_changes_55, F_state_56, F_cellsIn_57, F_unknownNear_58, F_hitNear_59, F_changed_60, rfl, h⟩ := hp
    exact ret dX2_uncover_15 ⟨_, _, _, _, _, _, _, rfl, h⟩
def P_X2_uncoverAround (post : (Int) → (Int → Int) → (Int → Int) → (Int → Int) → (Int → Int) → (Int → Int) → (Int → Int) → Prop) (F_changes : Int) (F_mined : Int → Int) (F_number : Int → Int) (F_state : Int → Int) (F_cellsIn : Int → Int) (F_unknownNear : Int → Int) (F_hitNear : Int → Int) (F_changed : Int → Int) (F_waiting : Int → Int) (G_near : Int → Int) (G_nearEnd : Int → Int) (x1 : Int) : Prop :=
  inR (x1 * 8) ∧ (∀ x2_2 : Int, x2_2 = (x1 * 8) → (∃ Inv_3 : Nat → (Int) → (Int) → (Int → Int) → (Int → Int) → (Int → Int) → (Int → Int) → (Int → Int) → (Int → Int) → Prop, (∃ n_4 : Nat, Inv_3 n_4 x2_2 F_changes F_state F_cellsIn F_unknownNear F_hitNear F_changed F_waiting) ∧ ∀ (n_5 : Nat) (x2_8 : Int) (F_changes_9 : Int) (F_state_10 : Int → Int) (F_cellsIn_11 : Int → Int) (F_unknownNear_12 : Int → Int) (F_hitNear_13 : Int → Int) (F_changed_14 : Int → Int) (F_waiting_15 : Int → Int), inR x2_8 → Inv_3 n_5 x2_8 F_changes_9 F_state_10 F_cellsIn_11 F_unknownNear_12 F_hitNear_13 F_changed_14 F_waiting_15 → ((0 ≤ x1 ∧ x1 < 144) ∧ (∀ v_17 : Int, v_17 = G_nearEnd x1 → inR v_17 → ((v_17 ≤ x2_8 → (post F_changes_9 F_state_10 F_cellsIn_11 F_unknownNear_12 F_hitNear_13 F_changed_14 F_waiting_15)) ∧ (¬ v_17 ≤ x2_8 → ((0 ≤ x2_8 ∧ x2_8 < 1152) ∧ (∀ v_20 : Int, v_20 = G_near x2_8 → inR v_20 → ((0 ≤ v_20 ∧ v_20 < 144) ∧ (∀ v_22 : Int, v_22 = F_state_10 v_20 → inR v_22 → (∃ J_23 : (Int) → (Int → Int) → (Int → Int) → (Int → Int) → (Int → Int) → (Int → Int) → (Int → Int) → Prop, ((¬ v_22 = 0 → (J_23 F_changes_9 F_state_10 F_cellsIn_11 F_unknownNear_12 F_hitNear_13 F_changed_14 F_waiting_15)) ∧ (v_22 = 0 → ((0 ≤ x2_8 ∧ x2_8 < 1152) ∧ (∀ v_37 : Int, v_37 = G_near x2_8 → inR v_37 → (P_X2_uncover (fun (F_changes_38 : Int) (F_state_39 : Int → Int) (F_cellsIn_40 : Int → Int) (F_unknownNear_41 : Int → Int) (F_hitNear_42 : Int → Int) (F_changed_43 : Int → Int) (F_waiting_44 : Int → Int) => (J_23 F_changes_38 F_state_39 F_cellsIn_40 F_unknownNear_41 F_hitNear_42 F_changed_43 F_waiting_44)) F_changes_9 F_mined F_number F_state_10 F_cellsIn_11 F_unknownNear_12 F_hitNear_13 F_changed_14 F_waiting_15 G_near G_nearEnd v_37))))) ∧ (∀ (F_changes_25 : Int) (F_state_26 : Int → Int) (F_cellsIn_27 : Int → Int) (F_unknownNear_28 : Int → Int) (F_hitNear_29 : Int → Int) (F_changed_30 : Int → Int) (F_waiting_31 : Int → Int), J_23 F_changes_25 F_state_26 F_cellsIn_27 F_unknownNear_28 F_hitNear_29 F_changed_30 F_waiting_31 → (inR (x2_8 + 1) ∧ (∀ x2_33 : Int, x2_33 = (x2_8 + 1) → (∃ n_34 : Nat, n_34 < n_5 ∧ Inv_3 n_34 x2_33 F_changes_25 F_state_26 F_cellsIn_27 F_unknownNear_28 F_hitNear_29 F_changed_30 F_waiting_31)))))))))))))))
set_option maxRecDepth 100000 in
set_option maxHeartbeats 4000000 in
theorem c_X2_uncoverAround (l : Launch) (K : wK) (ad : Nat → Nat) {D_hasBoard : Int} {D_beganBlank : Int} {F_mines : Int} {F_moves : Int} {F_changes : Int} {G_width : Int} {G_height : Int} {G_size : Int} {B_parts : Int} {B_longest : Int} {S_groups : Int} {S_askedGroup : Int} {S_taken : Int} {R_waitingCount : Int} {R_metCount : Int} {A_grade : Int} {A_cell : Int} {A_mined : Int} {A_withTotal : Int} {A_numbers : Int} {X_low : Int} {X_high : Int} {Y_low : Int} {Y_high : Int} {F_mined : Int → Int} {F_number : Int → Int} {F_state : Int → Int} {F_cellsIn : Int → Int} {F_unknownNear : Int → Int} {F_hitNear : Int → Int} {F_moveStart : Int → Int} {F_changed : Int → Int} {F_waiting : Int → Int} {F_seen : Int → Int} {G_near : Int → Int} {G_nearEnd : Int → Int} {B_chosen : Int → Int} {B_partOf : Int → Int} {B_rest : Int → Int} {B_unknowns : Int → Int} {B_partStart : Int → Int} {B_cells : Int → Int} {S_minedSet : Int → Int} {S_safeSet : Int → Int} {S_partSet : Int → Int} {S_tally : Int → Int} {S_askedTally : Int → Int} {S_groupOf : Int → Int} {S_groupSize : Int → Int} {S_links : Int → Int} {S_linkEnd : Int → Int} {S_pick : Int → Int} {S_groupMinedSet : Int → Int} {S_groupSafeSet : Int → Int} {O_sums : Int → Int64} {O_nextSums : Int → Int64} {R_found : Int → Int} {R_openEnds : Int → Int} {R_need : Int → Int} {R_waiting : Int → Int} {R_waits : Int → Int} {R_common : Int → Int} {R_met : Int → Int} {A_number : Int → Int} {Q_mined : Int → Int64} {Q_all : Int → Int64} {Q_choices : Int → Int64} {Q_term : Int → Int64} {Q_divisor : Int → Int64} {Q_spare : Int → Int64} {X_limbs : Int → Int64} {X_sum : Int → Int64} {Y_limbs : Int → Int64} {Y_sum : Int → Int64} (x1 : Int) (rx1 : inR x1) (post : (Int) → (Int → Int) → (Int → Int) → (Int → Int) → (Int → Int) → (Int → Int) → (Int → Int) → Prop) (h : P_X2_uncoverAround post F_changes F_mined F_number F_state F_cellsIn F_unknownNear F_hitNear F_changed F_waiting G_near G_nearEnd x1) : mV l yX2_uncoverAround (Cond.code yX2_uncoverAround cX2_uncoverAround 3 none :: GT) ({ frames := 6, cells := 0, slots := 0, locals := 360 } : Room) [.ref (ad 1), .int (iI x1)] K ad (dW D_hasBoard D_beganBlank F_mines F_moves F_changes G_width G_height G_size B_parts B_longest S_groups S_askedGroup S_taken R_waitingCount R_metCount A_grade A_cell A_mined A_withTotal A_numbers X_low X_high Y_low Y_high F_mined F_number F_state F_cellsIn F_unknownNear F_hitNear F_moveStart F_changed F_waiting F_seen G_near G_nearEnd B_chosen B_partOf B_rest B_unknowns B_partStart B_cells S_minedSet S_safeSet S_partSet S_tally S_askedTally S_groupOf S_groupSize S_links S_linkEnd S_pick S_groupMinedSet S_groupSafeSet O_sums O_nextSums R_found R_openEnds R_need R_waiting R_waits R_common R_met A_number Q_mined Q_all Q_choices Q_term Q_divisor Q_spare X_limbs X_sum Y_limbs Y_sum) (fun u9 => ∃ F_changes9 F_state9 F_cellsIn9 F_unknownNear9 F_hitNear9 F_changed9 F_waiting9, u9 = (dW D_hasBoard D_beganBlank F_mines F_moves F_changes9 G_width G_height G_size B_parts B_longest S_groups S_askedGroup S_taken R_waitingCount R_metCount A_grade A_cell A_mined A_withTotal A_numbers X_low X_high Y_low Y_high F_mined F_number F_state9 F_cellsIn9 F_unknownNear9 F_hitNear9 F_moveStart F_changed9 F_waiting9 F_seen G_near G_nearEnd B_chosen B_partOf B_rest B_unknowns B_partStart B_cells S_minedSet S_safeSet S_partSet S_tally S_askedTally S_groupOf S_groupSize S_links S_linkEnd S_pick S_groupMinedSet S_groupSafeSet O_sums O_nextSums R_found R_openEnds R_need R_waiting R_waits R_common R_met A_number Q_mined Q_all Q_choices Q_term Q_divisor Q_spare X_limbs X_sum Y_limbs Y_sum) ∧ post F_changes9 F_state9 F_cellsIn9 F_unknownNear9 F_hitNear9 F_changed9 F_waiting9) := by
  refine mV_of (lv0 := [(0, .ref (ad 1)), (1, .int (iI x1))]) (by decide) (Nat.le_of_ble_eq_true rfl) rfl ?_
  intro p e s m args below meth c Q A C ret
  replace C : Cx p ({ frames := 6, cells := 0, slots := 0, locals := 360 } : Room) m c 0 0 cX2_uncoverAround 3 s args RX2 K A := C
  unfold P_X2_uncoverAround at h
  refine wa_iload_n C 1 rfl dX2_uncoverAround_0 rfl ?_
  refine wa_bipush C (z := 8) dX2_uncoverAround_1 (by decide) ?_
  refine wa_imul C dX2_uncoverAround_3 ?_
  obtain ⟨r_1, h⟩ := h
  refine wa_nmi (fun x2_2 ex2_2 => ?_)
  replace h := h x2_2 ex2_2
  have rx2_2 : inR x2_2 := by rw [ex2_2]; exact r_1
  refine wa_istore_n C dX2_uncoverAround_4 rfl (by decide) rfl ?_
  obtain ⟨Inv_3, ⟨n_4, h0Inv_3⟩, hInv_3⟩ := h
  have k_7 : ∀ (n_5 : Nat) (x2_8 : Int) (F_changes_9 : Int) (F_state_10 : Int → Int) (F_cellsIn_11 : Int → Int) (F_unknownNear_12 : Int → Int) (F_hitNear_13 : Int → Int) (F_changed_14 : Int → Int) (F_waiting_15 : Int → Int), inR x2_8 → Inv_3 n_5 x2_8 F_changes_9 F_state_10 F_cellsIn_11 F_unknownNear_12 F_hitNear_13 F_changed_14 F_waiting_15 → WA p l e ({ frames := 6, cells := 0, slots := 0, locals := 360 } : Room) s m args below meth c 0 0 Q K ad 3 A 5 [(0, .ref (ad 1)), (1, .int (iI x1)), (2, .int (iI x2_8))] [] (dW D_hasBoard D_beganBlank F_mines F_moves F_changes_9 G_width G_height G_size B_parts B_longest S_groups S_askedGroup S_taken R_waitingCount R_metCount A_grade A_cell A_mined A_withTotal A_numbers X_low X_high Y_low Y_high F_mined F_number F_state_10 F_cellsIn_11 F_unknownNear_12 F_hitNear_13 F_moveStart F_changed_14 F_waiting_15 F_seen G_near G_nearEnd B_chosen B_partOf B_rest B_unknowns B_partStart B_cells S_minedSet S_safeSet S_partSet S_tally S_askedTally S_groupOf S_groupSize S_links S_linkEnd S_pick S_groupMinedSet S_groupSafeSet O_sums O_nextSums R_found R_openEnds R_need R_waiting R_waits R_common R_met A_number Q_mined Q_all Q_choices Q_term Q_divisor Q_spare X_limbs X_sum Y_limbs Y_sum) := by
    intro n_5
    induction n_5 using Nat.strongRecOn with
    | ind n_5 ih_6 =>
      intro x2_8 F_changes_9 F_state_10 F_cellsIn_11 F_unknownNear_12 F_hitNear_13 F_changed_14 F_waiting_15 rx2_8 h
      replace h := hInv_3 n_5 x2_8 F_changes_9 F_state_10 F_cellsIn_11 F_unknownNear_12 F_hitNear_13 F_changed_14 F_waiting_15 rx2_8 h
      refine wa_iload_n C 2 rfl dX2_uncoverAround_5 rfl ?_
      refine wa_aload_n C 0 rfl dX2_uncoverAround_6 rfl ?_
      refine wa_getR C 1 0 dW_1 rfl rfl (by decide) okX2 gw_83 dX2_uncoverAround_7 ?_
      refine wa_getR C 2 4 dW_2 rfl rfl (by decide) okX3 gw_65 dX2_uncoverAround_10 ?_
      refine wa_iload_n C 1 rfl dX2_uncoverAround_13 rfl ?_
      obtain ⟨t_16, h⟩ := h
      refine wa_iald C 23 dW_23 dX2_uncoverAround_14 t_16.1 t_16.2 (fun v_17 ev_17 rv_17 => ?_)
      replace h := h v_17 ev_17 rv_17
      refine wa_icmp_ge C (tgt := 54) rx2_8 rv_17 dX2_uncoverAround_15 (by decide) (fun c_18 => ?_) (fun c_18 => ?_)
      · replace h := h.1 c_18
        exact ret dX2_uncoverAround_54 ⟨_, _, _, _, _, _, _, rfl, h⟩
      · replace h := h.2 c_18
        refine wa_aload_n C 0 rfl dX2_uncoverAround_18 rfl ?_
        refine wa_getR C 1 3 dW_1 rfl rfl (by decide) okX2 gw_96 dX2_uncoverAround_19 ?_
        refine wa_aload_n C 0 rfl dX2_uncoverAround_22 rfl ?_
        refine wa_getR C 1 0 dW_1 rfl rfl (by decide) okX2 gw_83 dX2_uncoverAround_23 ?_
        refine wa_getR C 2 3 dW_2 rfl rfl (by decide) okX3 gw_59 dX2_uncoverAround_26 ?_
        refine wa_iload_n C 2 rfl dX2_uncoverAround_29 rfl ?_
        obtain ⟨t_19, h⟩ := h
        refine wa_iald C 22 dW_22 dX2_uncoverAround_30 t_19.1 t_19.2 (fun v_20 ev_20 rv_20 => ?_)
        replace h := h v_20 ev_20 rv_20
        obtain ⟨t_21, h⟩ := h
        refine wa_iald C 14 dW_14 dX2_uncoverAround_31 t_21.1 t_21.2 (fun v_22 ev_22 rv_22 => ?_)
        replace h := h v_22 ev_22 rv_22
        obtain ⟨J_23, h, hJ_23⟩ := h
        have k_24 : ∀ (F_changes_25 : Int) (F_state_26 : Int → Int) (F_cellsIn_27 : Int → Int) (F_unknownNear_28 : Int → Int) (F_hitNear_29 : Int → Int) (F_changed_30 : Int → Int) (F_waiting_31 : Int → Int), J_23 F_changes_25 F_state_26 F_cellsIn_27 F_unknownNear_28 F_hitNear_29 F_changed_30 F_waiting_31 → WA p l e ({ frames := 6, cells := 0, slots := 0, locals := 360 } : Room) s m args below meth c 0 0 Q K ad 3 A 48 [(0, .ref (ad 1)), (1, .int (iI x1)), (2, .int (iI x2_8))] [] (dW D_hasBoard D_beganBlank F_mines F_moves F_changes_25 G_width G_height G_size B_parts B_longest S_groups S_askedGroup S_taken R_waitingCount R_metCount A_grade A_cell A_mined A_withTotal A_numbers X_low X_high Y_low Y_high F_mined F_number F_state_26 F_cellsIn_27 F_unknownNear_28 F_hitNear_29 F_moveStart F_changed_30 F_waiting_31 F_seen G_near G_nearEnd B_chosen B_partOf B_rest B_unknowns B_partStart B_cells S_minedSet S_safeSet S_partSet S_tally S_askedTally S_groupOf S_groupSize S_links S_linkEnd S_pick S_groupMinedSet S_groupSafeSet O_sums O_nextSums R_found R_openEnds R_need R_waiting R_waits R_common R_met A_number Q_mined Q_all Q_choices Q_term Q_divisor Q_spare X_limbs X_sum Y_limbs Y_sum) := by
          intro F_changes_25 F_state_26 F_cellsIn_27 F_unknownNear_28 F_hitNear_29 F_changed_30 F_waiting_31 h
          replace h := hJ_23 F_changes_25 F_state_26 F_cellsIn_27 F_unknownNear_28 F_hitNear_29 F_changed_30 F_waiting_31 h
          obtain ⟨r_32, h⟩ := h
          refine wa_iinc C (lv' := fun w9 => [(2, .int (iI w9)), (0, .ref (ad 1)), (1, .int (iI x1))]) 2 rfl dX2_uncoverAround_48 (by decide) (fun _ => rfl) (fun x2_33 ex2_33 => ?_)
          replace h := h x2_33 ex2_33
          have rx2_33 : inR x2_33 := by rw [ex2_33]; exact r_32
          refine wa_goto C (tgt := 5) dX2_uncoverAround_51 (by decide) ?_
          obtain ⟨n_34, ln_34, h⟩ := h
          refine wa_sub C [1, 2, 0] rfl ?_
          exact ih_6 n_34 ln_34 x2_33 F_changes_25 F_state_26 F_cellsIn_27 F_unknownNear_28 F_hitNear_29 F_changed_30 F_waiting_31 rx2_33 h
        refine wa_if_ne C (tgt := 48) rv_22 dX2_uncoverAround_32 (by decide) (fun c_35 => ?_) (fun c_35 => ?_)
        · replace h := h.1 c_35
          refine wa_sub C [0, 1, 2] rfl ?_
          exact k_24 F_changes_9 F_state_10 F_cellsIn_11 F_unknownNear_12 F_hitNear_13 F_changed_14 F_waiting_15 h
        · replace h := h.2 c_35
          refine wa_aload_n C 0 rfl dX2_uncoverAround_35 rfl ?_
          refine wa_aload_n C 0 rfl dX2_uncoverAround_36 rfl ?_
          refine wa_getR C 1 0 dW_1 rfl rfl (by decide) okX2 gw_83 dX2_uncoverAround_37 ?_
          refine wa_getR C 2 3 dW_2 rfl rfl (by decide) okX3 gw_59 dX2_uncoverAround_40 ?_
          refine wa_iload_n C 2 rfl dX2_uncoverAround_43 rfl ?_
          obtain ⟨t_36, h⟩ := h
          refine wa_iald C 22 dW_22 dX2_uncoverAround_44 t_36.1 t_36.2 (fun v_37 ev_37 rv_37 => ?_)
          replace h := h v_37 ev_37 rv_37
          refine wa_callVv C (k := 1) (As := [.int (iI v_37)]) (rest := []) (c_X2_uncover l K ad v_37 rv_37 _ h) gw_649 gw_978 dW_1 rfl gw_647 gw_648 gw_2 q_X2_uncover rfl rfl rfl ⟨by decide, by decide⟩ rfl (Nat.le_of_ble_eq_true rfl) dX2_uncoverAround_45 (fun u9 hp => ?_)
          obtain ⟨F_changes_38, F_state_39, F_cellsIn_40, F_unknownNear_41, F_hitNear_42, F_changed_43, F_waiting_44, rfl, h⟩ := hp
          refine wa_sub C [0, 1, 2] rfl ?_
          exact k_24 F_changes_38 F_state_39 F_cellsIn_40 F_unknownNear_41 F_hitNear_42 F_changed_43 F_waiting_44 h
  refine wa_sub C [1, 2, 0] rfl ?_
  exact k_7 n_4 x2_2 F_changes F_state F_cellsIn F_unknownNear F_hitNear F_changed F_waiting rx2_2 h0Inv_3
def P_X2_hasToOpen (post : Int → Prop) (F_mined : Int → Int) (F_state : Int → Int) (F_seen : Int → Int) (x1 : Int) : Prop :=
  (0 ≤ x1 ∧ x1 < 144) ∧ (∀ v_2 : Int, v_2 = F_seen x1 → (v_2 = 0 ∨ v_2 = 1) → (∃ J_3 : (Int) → Prop, (∃ J_7 : Prop, ((¬ v_2 = 0 → (J_7)) ∧ (v_2 = 0 → ((0 ≤ x1 ∧ x1 < 144) ∧ (∀ v_11 : Int, v_11 = F_mined x1 → (v_11 = 0 ∨ v_11 = 1) → ((¬ v_11 = 0 → (J_7)) ∧ (v_11 = 0 → (P_X2_isUnknown (fun (c_13 : Int) => (c_13 = 0 ∨ c_13 = 1) → ((c_13 = 0 → (J_7)) ∧ (¬ c_13 = 0 → (J_3 1)))) F_state x1))))))) ∧ (J_7 → (J_3 0))) ∧ (∀ (z_5 : Int), inR z_5 → J_3 z_5 → ((z_5 = 0 ∨ z_5 = 1) ∧ (post z_5)))))
set_option maxRecDepth 100000 in
set_option maxHeartbeats 4000000 in
theorem c_X2_hasToOpen (l : Launch) (K : wK) (ad : Nat → Nat) {D_hasBoard : Int} {D_beganBlank : Int} {F_mines : Int} {F_moves : Int} {F_changes : Int} {G_width : Int} {G_height : Int} {G_size : Int} {B_parts : Int} {B_longest : Int} {S_groups : Int} {S_askedGroup : Int} {S_taken : Int} {R_waitingCount : Int} {R_metCount : Int} {A_grade : Int} {A_cell : Int} {A_mined : Int} {A_withTotal : Int} {A_numbers : Int} {X_low : Int} {X_high : Int} {Y_low : Int} {Y_high : Int} {F_mined : Int → Int} {F_number : Int → Int} {F_state : Int → Int} {F_cellsIn : Int → Int} {F_unknownNear : Int → Int} {F_hitNear : Int → Int} {F_moveStart : Int → Int} {F_changed : Int → Int} {F_waiting : Int → Int} {F_seen : Int → Int} {G_near : Int → Int} {G_nearEnd : Int → Int} {B_chosen : Int → Int} {B_partOf : Int → Int} {B_rest : Int → Int} {B_unknowns : Int → Int} {B_partStart : Int → Int} {B_cells : Int → Int} {S_minedSet : Int → Int} {S_safeSet : Int → Int} {S_partSet : Int → Int} {S_tally : Int → Int} {S_askedTally : Int → Int} {S_groupOf : Int → Int} {S_groupSize : Int → Int} {S_links : Int → Int} {S_linkEnd : Int → Int} {S_pick : Int → Int} {S_groupMinedSet : Int → Int} {S_groupSafeSet : Int → Int} {O_sums : Int → Int64} {O_nextSums : Int → Int64} {R_found : Int → Int} {R_openEnds : Int → Int} {R_need : Int → Int} {R_waiting : Int → Int} {R_waits : Int → Int} {R_common : Int → Int} {R_met : Int → Int} {A_number : Int → Int} {Q_mined : Int → Int64} {Q_all : Int → Int64} {Q_choices : Int → Int64} {Q_term : Int → Int64} {Q_divisor : Int → Int64} {Q_spare : Int → Int64} {X_limbs : Int → Int64} {X_sum : Int → Int64} {Y_limbs : Int → Int64} {Y_sum : Int → Int64} (x1 : Int) (rx1 : inR x1) (post : Int → Prop) (h : P_X2_hasToOpen post F_mined F_state F_seen x1) : mI l yX2_hasToOpen (Cond.code yX2_hasToOpen cX2_hasToOpen 2 (some .boolean) :: GT) ({ frames := 3, cells := 0, slots := 0, locals := 180 } : Room) [.ref (ad 1), .int (iI x1)] K ad (dW D_hasBoard D_beganBlank F_mines F_moves F_changes G_width G_height G_size B_parts B_longest S_groups S_askedGroup S_taken R_waitingCount R_metCount A_grade A_cell A_mined A_withTotal A_numbers X_low X_high Y_low Y_high F_mined F_number F_state F_cellsIn F_unknownNear F_hitNear F_moveStart F_changed F_waiting F_seen G_near G_nearEnd B_chosen B_partOf B_rest B_unknowns B_partStart B_cells S_minedSet S_safeSet S_partSet S_tally S_askedTally S_groupOf S_groupSize S_links S_linkEnd S_pick S_groupMinedSet S_groupSafeSet O_sums O_nextSums R_found R_openEnds R_need R_waiting R_waits R_common R_met A_number Q_mined Q_all Q_choices Q_term Q_divisor Q_spare X_limbs X_sum Y_limbs Y_sum) (fun z9 u9 => (z9 = 0 ∨ z9 = 1) ∧ u9 = (dW D_hasBoard D_beganBlank F_mines F_moves F_changes G_width G_height G_size B_parts B_longest S_groups S_askedGroup S_taken R_waitingCount R_metCount A_grade A_cell A_mined A_withTotal A_numbers X_low X_high Y_low Y_high F_mined F_number F_state F_cellsIn F_unknownNear F_hitNear F_moveStart F_changed F_waiting F_seen G_near G_nearEnd B_chosen B_partOf B_rest B_unknowns B_partStart B_cells S_minedSet S_safeSet S_partSet S_tally S_askedTally S_groupOf S_groupSize S_links S_linkEnd S_pick S_groupMinedSet S_groupSafeSet O_sums O_nextSums R_found R_openEnds R_need R_waiting R_waits R_common R_met A_number Q_mined Q_all Q_choices Q_term Q_divisor Q_spare X_limbs X_sum Y_limbs Y_sum) ∧ post z9) := by
  refine mZ_of (lv0 := [(0, .ref (ad 1)), (1, .int (iI x1))]) (by decide) (Nat.le_of_ble_eq_true rfl) rfl ?_
  intro p e s m args below meth c Q A C ret
  replace C : Cx p ({ frames := 3, cells := 0, slots := 0, locals := 180 } : Room) m c 0 0 cX2_hasToOpen 2 s args RX2 K A := C
  unfold P_X2_hasToOpen at h
  refine wa_aload_n C 0 rfl dX2_hasToOpen_0 rfl ?_
  refine wa_getR C 1 13 dW_1 rfl rfl (by decide) okX2 gw_118 dX2_hasToOpen_1 ?_
  refine wa_iload_n C 1 rfl dX2_hasToOpen_4 rfl ?_
  obtain ⟨t_1, h⟩ := h
  refine wa_bald C 21 dW_21 dX2_hasToOpen_5 t_1.1 t_1.2 (fun v_2 ev_2 rv_2 => ?_)
  replace h := h v_2 ev_2 rv_2
  obtain ⟨J_3, h, hJ_3⟩ := h
  have k_4 : ∀ (z_5 : Int), inR z_5 → J_3 z_5 → WA p l e ({ frames := 3, cells := 0, slots := 0, locals := 180 } : Room) s m args below meth c 0 0 Q K ad 2 A 31 [] [.int (iI z_5)] (dW D_hasBoard D_beganBlank F_mines F_moves F_changes G_width G_height G_size B_parts B_longest S_groups S_askedGroup S_taken R_waitingCount R_metCount A_grade A_cell A_mined A_withTotal A_numbers X_low X_high Y_low Y_high F_mined F_number F_state F_cellsIn F_unknownNear F_hitNear F_moveStart F_changed F_waiting F_seen G_near G_nearEnd B_chosen B_partOf B_rest B_unknowns B_partStart B_cells S_minedSet S_safeSet S_partSet S_tally S_askedTally S_groupOf S_groupSize S_links S_linkEnd S_pick S_groupMinedSet S_groupSafeSet O_sums O_nextSums R_found R_openEnds R_need R_waiting R_waits R_common R_met A_number Q_mined Q_all Q_choices Q_term Q_divisor Q_spare X_limbs X_sum Y_limbs Y_sum) := by
    intro z_5 rz_5 h
    replace h := hJ_3 z_5 rz_5 h
    obtain ⟨b_6, h⟩ := h
    exact ret dX2_hasToOpen_31 b_6 ⟨b_6, rfl, h⟩
  obtain ⟨J_7, h, hJ_7⟩ := h
  have k_8 : J_7 → WA p l e ({ frames := 3, cells := 0, slots := 0, locals := 180 } : Room) s m args below meth c 0 0 Q K ad 2 A 30 [] [] (dW D_hasBoard D_beganBlank F_mines F_moves F_changes G_width G_height G_size B_parts B_longest S_groups S_askedGroup S_taken R_waitingCount R_metCount A_grade A_cell A_mined A_withTotal A_numbers X_low X_high Y_low Y_high F_mined F_number F_state F_cellsIn F_unknownNear F_hitNear F_moveStart F_changed F_waiting F_seen G_near G_nearEnd B_chosen B_partOf B_rest B_unknowns B_partStart B_cells S_minedSet S_safeSet S_partSet S_tally S_askedTally S_groupOf S_groupSize S_links S_linkEnd S_pick S_groupMinedSet S_groupSafeSet O_sums O_nextSums R_found R_openEnds R_need R_waiting R_waits R_common R_met A_number Q_mined Q_all Q_choices Q_term Q_divisor Q_spare X_limbs X_sum Y_limbs Y_sum) := by
    intro h
    replace h := hJ_7 h
    refine wa_iconst C (z := 0) dX2_hasToOpen_30 rfl ?_
    refine wa_sub C [] rfl ?_
    exact k_4 0 (inR_k 0 rfl) h
  refine wa_if_ne C (tgt := 30) (inR_b rv_2) dX2_hasToOpen_6 (by decide) (fun c_9 => ?_) (fun c_9 => ?_)
  · replace h := h.1 c_9
    refine wa_sub C [] rfl ?_
    exact k_8 h
  · replace h := h.2 c_9
    refine wa_aload_n C 0 rfl dX2_hasToOpen_9 rfl ?_
    refine wa_getR C 1 1 dW_1 rfl rfl (by decide) okX2 gw_89 dX2_hasToOpen_10 ?_
    refine wa_iload_n C 1 rfl dX2_hasToOpen_13 rfl ?_
    obtain ⟨t_10, h⟩ := h
    refine wa_bald C 12 dW_12 dX2_hasToOpen_14 t_10.1 t_10.2 (fun v_11 ev_11 rv_11 => ?_)
    replace h := h v_11 ev_11 rv_11
    refine wa_if_ne C (tgt := 30) (inR_b rv_11) dX2_hasToOpen_15 (by decide) (fun c_12 => ?_) (fun c_12 => ?_)
    · replace h := h.1 c_12
      refine wa_sub C [] rfl ?_
      exact k_8 h
    · replace h := h.2 c_12
      refine wa_aload_n C 0 rfl dX2_hasToOpen_18 rfl ?_
      refine wa_iload_n C 1 rfl dX2_hasToOpen_19 rfl ?_
      refine wa_callVi C (k := 1) (As := [.int (iI x1)]) (rest := []) (c_X2_isUnknown l K ad x1 rx1 _ h) gw_665 gw_662 dW_1 rfl gw_663 gw_664 gw_2 q_X2_isUnknown rfl rfl rfl ⟨by decide, by decide⟩ rfl (Nat.le_of_ble_eq_true rfl) dX2_hasToOpen_20 (fun c_13 u9 rc_13 hp => ?_)
      obtain ⟨bc_13, rfl, h⟩ := hp
      replace h := h bc_13
      refine wa_if_eq C (tgt := 30) (inR_b bc_13) dX2_hasToOpen_23 (by decide) (fun c_14 => ?_) (fun c_14 => ?_)
      · replace h := h.1 c_14
        refine wa_sub C [] rfl ?_
        exact k_8 h
      · replace h := h.2 c_14
        refine wa_iconst C (z := 1) dX2_hasToOpen_26 rfl ?_
        refine wa_goto C (tgt := 31) dX2_hasToOpen_27 (by decide) ?_
        refine wa_sub C [] rfl ?_
        exact k_4 1 (inR_k 1 rfl) h
def P_X2_passAround (post : Int → (Int → Int) → (Int → Int) → Prop) (F_mined : Int → Int) (F_state : Int → Int) (F_waiting : Int → Int) (F_seen : Int → Int) (G_near : Int → Int) (G_nearEnd : Int → Int) (x1 : Int) (x2 : Int) : Prop :=
  inR (x1 * 8) ∧ (∀ x4_2 : Int, x4_2 = (x1 * 8) → (∃ Inv_3 : Nat → (Int) → (Int) → (Int → Int) → (Int → Int) → Prop, (∃ n_4 : Nat, Inv_3 n_4 x2 x4_2 F_waiting F_seen) ∧ ∀ (n_5 : Nat) (x3_8 : Int) (x4_9 : Int) (F_waiting_10 : Int → Int) (F_seen_11 : Int → Int), inR x3_8 → inR x4_9 → Inv_3 n_5 x3_8 x4_9 F_waiting_10 F_seen_11 → ((0 ≤ x1 ∧ x1 < 144) ∧ (∀ v_13 : Int, v_13 = G_nearEnd x1 → inR v_13 → ((v_13 ≤ x4_9 → (post x3_8 F_waiting_10 F_seen_11)) ∧ (¬ v_13 ≤ x4_9 → ((0 ≤ x4_9 ∧ x4_9 < 1152) ∧ (∀ v_16 : Int, v_16 = G_near x4_9 → inR v_16 → (P_X2_hasToOpen (fun (c_17 : Int) => (c_17 = 0 ∨ c_17 = 1) → (∃ J_18 : (Int) → (Int → Int) → (Int → Int) → Prop, ((c_17 = 0 → (J_18 x3_8 F_waiting_10 F_seen_11)) ∧ (¬ c_17 = 0 → ((144 ≤ x3_8 → (J_18 x3_8 F_waiting_10 F_seen_11)) ∧ (¬ 144 ≤ x3_8 → ((0 ≤ v_16 ∧ v_16 < 144) ∧ (∀ F_seen_29 : Int → Int, F_seen_29 = upZ F_seen_11 v_16 1 → ((0 ≤ x3_8 ∧ x3_8 < 144) ∧ (∀ F_waiting_31 : Int → Int, F_waiting_31 = upZ F_waiting_10 x3_8 v_16 → (inR (x3_8 + 1) ∧ (∀ x3_33 : Int, x3_33 = (x3_8 + 1) → (J_18 x3_33 F_waiting_31 F_seen_29))))))))))) ∧ (∀ (x3_20 : Int) (F_waiting_21 : Int → Int) (F_seen_22 : Int → Int), inR x3_20 → J_18 x3_20 F_waiting_21 F_seen_22 → (inR (x4_9 + 1) ∧ (∀ x4_24 : Int, x4_24 = (x4_9 + 1) → (∃ n_25 : Nat, n_25 < n_5 ∧ Inv_3 n_25 x3_20 x4_24 F_waiting_21 F_seen_22)))))) F_mined F_state F_seen_11 v_16)))))))))
set_option maxRecDepth 100000 in
set_option maxHeartbeats 4000000 in
theorem c_X2_passAround (l : Launch) (K : wK) (ad : Nat → Nat) {D_hasBoard : Int} {D_beganBlank : Int} {F_mines : Int} {F_moves : Int} {F_changes : Int} {G_width : Int} {G_height : Int} {G_size : Int} {B_parts : Int} {B_longest : Int} {S_groups : Int} {S_askedGroup : Int} {S_taken : Int} {R_waitingCount : Int} {R_metCount : Int} {A_grade : Int} {A_cell : Int} {A_mined : Int} {A_withTotal : Int} {A_numbers : Int} {X_low : Int} {X_high : Int} {Y_low : Int} {Y_high : Int} {F_mined : Int → Int} {F_number : Int → Int} {F_state : Int → Int} {F_cellsIn : Int → Int} {F_unknownNear : Int → Int} {F_hitNear : Int → Int} {F_moveStart : Int → Int} {F_changed : Int → Int} {F_waiting : Int → Int} {F_seen : Int → Int} {G_near : Int → Int} {G_nearEnd : Int → Int} {B_chosen : Int → Int} {B_partOf : Int → Int} {B_rest : Int → Int} {B_unknowns : Int → Int} {B_partStart : Int → Int} {B_cells : Int → Int} {S_minedSet : Int → Int} {S_safeSet : Int → Int} {S_partSet : Int → Int} {S_tally : Int → Int} {S_askedTally : Int → Int} {S_groupOf : Int → Int} {S_groupSize : Int → Int} {S_links : Int → Int} {S_linkEnd : Int → Int} {S_pick : Int → Int} {S_groupMinedSet : Int → Int} {S_groupSafeSet : Int → Int} {O_sums : Int → Int64} {O_nextSums : Int → Int64} {R_found : Int → Int} {R_openEnds : Int → Int} {R_need : Int → Int} {R_waiting : Int → Int} {R_waits : Int → Int} {R_common : Int → Int} {R_met : Int → Int} {A_number : Int → Int} {Q_mined : Int → Int64} {Q_all : Int → Int64} {Q_choices : Int → Int64} {Q_term : Int → Int64} {Q_divisor : Int → Int64} {Q_spare : Int → Int64} {X_limbs : Int → Int64} {X_sum : Int → Int64} {Y_limbs : Int → Int64} {Y_sum : Int → Int64} (x1 : Int) (x2 : Int) (rx1 : inR x1) (rx2 : inR x2) (post : Int → (Int → Int) → (Int → Int) → Prop) (h : P_X2_passAround post F_mined F_state F_waiting F_seen G_near G_nearEnd x1 x2) : mI l yX2_passAround (Cond.code yX2_passAround cX2_passAround 6 (some .int) :: GT) ({ frames := 4, cells := 0, slots := 0, locals := 240 } : Room) [.ref (ad 1), .int (iI x1), .int (iI x2)] K ad (dW D_hasBoard D_beganBlank F_mines F_moves F_changes G_width G_height G_size B_parts B_longest S_groups S_askedGroup S_taken R_waitingCount R_metCount A_grade A_cell A_mined A_withTotal A_numbers X_low X_high Y_low Y_high F_mined F_number F_state F_cellsIn F_unknownNear F_hitNear F_moveStart F_changed F_waiting F_seen G_near G_nearEnd B_chosen B_partOf B_rest B_unknowns B_partStart B_cells S_minedSet S_safeSet S_partSet S_tally S_askedTally S_groupOf S_groupSize S_links S_linkEnd S_pick S_groupMinedSet S_groupSafeSet O_sums O_nextSums R_found R_openEnds R_need R_waiting R_waits R_common R_met A_number Q_mined Q_all Q_choices Q_term Q_divisor Q_spare X_limbs X_sum Y_limbs Y_sum) (fun z9 u9 => ∃ F_waiting9 F_seen9, u9 = (dW D_hasBoard D_beganBlank F_mines F_moves F_changes G_width G_height G_size B_parts B_longest S_groups S_askedGroup S_taken R_waitingCount R_metCount A_grade A_cell A_mined A_withTotal A_numbers X_low X_high Y_low Y_high F_mined F_number F_state F_cellsIn F_unknownNear F_hitNear F_moveStart F_changed F_waiting9 F_seen9 G_near G_nearEnd B_chosen B_partOf B_rest B_unknowns B_partStart B_cells S_minedSet S_safeSet S_partSet S_tally S_askedTally S_groupOf S_groupSize S_links S_linkEnd S_pick S_groupMinedSet S_groupSafeSet O_sums O_nextSums R_found R_openEnds R_need R_waiting R_waits R_common R_met A_number Q_mined Q_all Q_choices Q_term Q_divisor Q_spare X_limbs X_sum Y_limbs Y_sum) ∧ post z9 F_waiting9 F_seen9) := by
  refine mI_of (lv0 := [(0, .ref (ad 1)), (1, .int (iI x1)), (2, .int (iI x2))]) (by decide) (Nat.le_of_ble_eq_true rfl) rfl ?_
  intro p e s m args below meth c Q A C ret
  replace C : Cx p ({ frames := 4, cells := 0, slots := 0, locals := 240 } : Room) m c 0 0 cX2_passAround 6 s args RX2 K A := C
  unfold P_X2_passAround at h
  refine wa_iload_n C 2 rfl dX2_passAround_0 rfl ?_
  refine wa_istore_n C dX2_passAround_1 rfl (by decide) rfl ?_
  refine wa_iload_n C 2 rfl dX2_passAround_2 rfl ?_
  refine wa_bipush C (z := 8) dX2_passAround_3 (by decide) ?_
  refine wa_imul C dX2_passAround_5 ?_
  obtain ⟨r_1, h⟩ := h
  refine wa_nmi (fun x4_2 ex4_2 => ?_)
  replace h := h x4_2 ex4_2
  have rx4_2 : inR x4_2 := by rw [ex4_2]; exact r_1
  refine wa_istore C dX2_passAround_6 (by decide) rfl ?_
  obtain ⟨Inv_3, ⟨n_4, h0Inv_3⟩, hInv_3⟩ := h
  have k_7 : ∀ (n_5 : Nat) (x3_8 : Int) (x4_9 : Int) (F_waiting_10 : Int → Int) (F_seen_11 : Int → Int), inR x3_8 → inR x4_9 → Inv_3 n_5 x3_8 x4_9 F_waiting_10 F_seen_11 → WA p l e ({ frames := 4, cells := 0, slots := 0, locals := 240 } : Room) s m args below meth c 0 0 Q K ad 6 A 8 [(0, .ref (ad 1)), (1, .int (iI x1)), (3, .int (iI x3_8)), (4, .int (iI x4_9))] [] (dW D_hasBoard D_beganBlank F_mines F_moves F_changes G_width G_height G_size B_parts B_longest S_groups S_askedGroup S_taken R_waitingCount R_metCount A_grade A_cell A_mined A_withTotal A_numbers X_low X_high Y_low Y_high F_mined F_number F_state F_cellsIn F_unknownNear F_hitNear F_moveStart F_changed F_waiting_10 F_seen_11 G_near G_nearEnd B_chosen B_partOf B_rest B_unknowns B_partStart B_cells S_minedSet S_safeSet S_partSet S_tally S_askedTally S_groupOf S_groupSize S_links S_linkEnd S_pick S_groupMinedSet S_groupSafeSet O_sums O_nextSums R_found R_openEnds R_need R_waiting R_waits R_common R_met A_number Q_mined Q_all Q_choices Q_term Q_divisor Q_spare X_limbs X_sum Y_limbs Y_sum) := by
    intro n_5
    induction n_5 using Nat.strongRecOn with
    | ind n_5 ih_6 =>
      intro x3_8 x4_9 F_waiting_10 F_seen_11 rx3_8 rx4_9 h
      replace h := hInv_3 n_5 x3_8 x4_9 F_waiting_10 F_seen_11 rx3_8 rx4_9 h
      refine wa_iload C 3 rfl dX2_passAround_8 ?_
      refine wa_aload_n C 0 rfl dX2_passAround_10 rfl ?_
      refine wa_getR C 1 0 dW_1 rfl rfl (by decide) okX2 gw_83 dX2_passAround_11 ?_
      refine wa_getR C 2 4 dW_2 rfl rfl (by decide) okX3 gw_65 dX2_passAround_14 ?_
      refine wa_iload_n C 1 rfl dX2_passAround_17 rfl ?_
      obtain ⟨t_12, h⟩ := h
      refine wa_iald C 23 dW_23 dX2_passAround_18 t_12.1 t_12.2 (fun v_13 ev_13 rv_13 => ?_)
      replace h := h v_13 ev_13 rv_13
      refine wa_icmp_ge C (tgt := 75) rx4_9 rv_13 dX2_passAround_19 (by decide) (fun c_14 => ?_) (fun c_14 => ?_)
      · replace h := h.1 c_14
        refine wa_iload_n C 2 rfl dX2_passAround_75 rfl ?_
        exact ret dX2_passAround_76 rx3_8 ⟨_, _, rfl, h⟩
      · replace h := h.2 c_14
        refine wa_aload_n C 0 rfl dX2_passAround_22 rfl ?_
        refine wa_getR C 1 0 dW_1 rfl rfl (by decide) okX2 gw_83 dX2_passAround_23 ?_
        refine wa_getR C 2 3 dW_2 rfl rfl (by decide) okX3 gw_59 dX2_passAround_26 ?_
        refine wa_iload C 3 rfl dX2_passAround_29 ?_
        obtain ⟨t_15, h⟩ := h
        refine wa_iald C 22 dW_22 dX2_passAround_31 t_15.1 t_15.2 (fun v_16 ev_16 rv_16 => ?_)
        replace h := h v_16 ev_16 rv_16
        refine wa_istore C dX2_passAround_32 (by decide) rfl ?_
        refine wa_aload_n C 1 rfl dX2_passAround_34 rfl ?_
        refine wa_iload C 0 rfl dX2_passAround_35 ?_
        refine wa_callVi C (k := 1) (As := [.int (iI v_16)]) (rest := []) (c_X2_hasToOpen l K ad v_16 rv_16 _ h) gw_1216 gw_1213 dW_1 rfl gw_1215 gs_48 gw_2 q_X2_hasToOpen rfl rfl rfl ⟨by decide, by decide⟩ rfl (Nat.le_of_ble_eq_true rfl) dX2_passAround_37 (fun c_17 u9 rc_17 hp => ?_)
        obtain ⟨bc_17, rfl, h⟩ := hp
        replace h := h bc_17
        obtain ⟨J_18, h, hJ_18⟩ := h
        have k_19 : ∀ (x3_20 : Int) (F_waiting_21 : Int → Int) (F_seen_22 : Int → Int), inR x3_20 → J_18 x3_20 F_waiting_21 F_seen_22 → WA p l e ({ frames := 4, cells := 0, slots := 0, locals := 240 } : Room) s m args below meth c 0 0 Q K ad 6 A 69 [(0, .ref (ad 1)), (1, .int (iI x1)), (3, .int (iI x3_20)), (4, .int (iI x4_9))] [] (dW D_hasBoard D_beganBlank F_mines F_moves F_changes G_width G_height G_size B_parts B_longest S_groups S_askedGroup S_taken R_waitingCount R_metCount A_grade A_cell A_mined A_withTotal A_numbers X_low X_high Y_low Y_high F_mined F_number F_state F_cellsIn F_unknownNear F_hitNear F_moveStart F_changed F_waiting_21 F_seen_22 G_near G_nearEnd B_chosen B_partOf B_rest B_unknowns B_partStart B_cells S_minedSet S_safeSet S_partSet S_tally S_askedTally S_groupOf S_groupSize S_links S_linkEnd S_pick S_groupMinedSet S_groupSafeSet O_sums O_nextSums R_found R_openEnds R_need R_waiting R_waits R_common R_met A_number Q_mined Q_all Q_choices Q_term Q_divisor Q_spare X_limbs X_sum Y_limbs Y_sum) := by
          intro x3_20 F_waiting_21 F_seen_22 rx3_20 h
          replace h := hJ_18 x3_20 F_waiting_21 F_seen_22 rx3_20 h
          obtain ⟨r_23, h⟩ := h
          refine wa_iinc C (lv' := fun w9 => [(4, .int (iI w9)), (0, .ref (ad 1)), (1, .int (iI x1)), (3, .int (iI x3_20))]) 3 rfl dX2_passAround_69 (by decide) (fun _ => rfl) (fun x4_24 ex4_24 => ?_)
          replace h := h x4_24 ex4_24
          have rx4_24 : inR x4_24 := by rw [ex4_24]; exact r_23
          refine wa_goto C (tgt := 8) dX2_passAround_72 (by decide) ?_
          obtain ⟨n_25, ln_25, h⟩ := h
          refine wa_sub C [1, 2, 3, 0] rfl ?_
          exact ih_6 n_25 ln_25 x3_20 x4_24 F_waiting_21 F_seen_22 rx3_20 rx4_24 h
        refine wa_if_eq C (tgt := 69) (inR_b bc_17) dX2_passAround_40 (by decide) (fun c_26 => ?_) (fun c_26 => ?_)
        · replace h := h.1 c_26
          refine wa_sub C [1, 2, 3, 4] rfl ?_
          exact k_19 x3_8 F_waiting_10 F_seen_11 rx3_8 h
        · replace h := h.2 c_26
          refine wa_iload_n C 3 rfl dX2_passAround_43 rfl ?_
          refine wa_sipush C (z := 144) dX2_passAround_44 (by decide) ?_
          refine wa_icmp_ge C (tgt := 69) rx3_8 (inR_k 144 rfl) dX2_passAround_47 (by decide) (fun c_27 => ?_) (fun c_27 => ?_)
          · replace h := h.1 c_27
            refine wa_sub C [1, 2, 3, 4] rfl ?_
            exact k_19 x3_8 F_waiting_10 F_seen_11 rx3_8 h
          · replace h := h.2 c_27
            refine wa_aload_n C 1 rfl dX2_passAround_50 rfl ?_
            refine wa_getR C 1 13 dW_1 rfl rfl (by decide) okX2 gw_118 dX2_passAround_51 ?_
            refine wa_iload C 0 rfl dX2_passAround_54 ?_
            refine wa_iconst C (z := 1) dX2_passAround_56 rfl ?_
            obtain ⟨t_28, h⟩ := h
            refine wa_bast C (ws' := fun w9 => (dW D_hasBoard D_beganBlank F_mines F_moves F_changes G_width G_height G_size B_parts B_longest S_groups S_askedGroup S_taken R_waitingCount R_metCount A_grade A_cell A_mined A_withTotal A_numbers X_low X_high Y_low Y_high F_mined F_number F_state F_cellsIn F_unknownNear F_hitNear F_moveStart F_changed F_waiting_10 w9 G_near G_nearEnd B_chosen B_partOf B_rest B_unknowns B_partStart B_cells S_minedSet S_safeSet S_partSet S_tally S_askedTally S_groupOf S_groupSize S_links S_linkEnd S_pick S_groupMinedSet S_groupSafeSet O_sums O_nextSums R_found R_openEnds R_need R_waiting R_waits R_common R_met A_number Q_mined Q_all Q_choices Q_term Q_divisor Q_spare X_limbs X_sum Y_limbs Y_sum)) 21 dW_21 dX2_passAround_57 t_28.1 t_28.2 (Or.inr rfl) dWs_21 (fun F_seen_29 eF_seen_29 => ?_)
            replace h := h F_seen_29 eF_seen_29
            refine wa_aload_n C 1 rfl dX2_passAround_58 rfl ?_
            refine wa_getR C 1 12 dW_1 rfl rfl (by decide) okX2 gw_117 dX2_passAround_59 ?_
            refine wa_iload_n C 3 rfl dX2_passAround_62 rfl ?_
            refine wa_iload C 0 rfl dX2_passAround_63 ?_
            obtain ⟨t_30, h⟩ := h
            refine wa_iast C (ws' := fun w9 => (dW D_hasBoard D_beganBlank F_mines F_moves F_changes G_width G_height G_size B_parts B_longest S_groups S_askedGroup S_taken R_waitingCount R_metCount A_grade A_cell A_mined A_withTotal A_numbers X_low X_high Y_low Y_high F_mined F_number F_state F_cellsIn F_unknownNear F_hitNear F_moveStart F_changed w9 F_seen_29 G_near G_nearEnd B_chosen B_partOf B_rest B_unknowns B_partStart B_cells S_minedSet S_safeSet S_partSet S_tally S_askedTally S_groupOf S_groupSize S_links S_linkEnd S_pick S_groupMinedSet S_groupSafeSet O_sums O_nextSums R_found R_openEnds R_need R_waiting R_waits R_common R_met A_number Q_mined Q_all Q_choices Q_term Q_divisor Q_spare X_limbs X_sum Y_limbs Y_sum)) 20 dW_20 dX2_passAround_65 t_30.1 t_30.2 rv_16 dWs_20 (fun F_waiting_31 eF_waiting_31 => ?_)
            replace h := h F_waiting_31 eF_waiting_31
            obtain ⟨r_32, h⟩ := h
            refine wa_iinc C (lv' := fun w9 => [(3, .int (iI w9)), (5, .int (iI v_16)), (0, .ref (ad 1)), (1, .int (iI x1)), (4, .int (iI x4_9))]) 3 rfl dX2_passAround_66 (by decide) (fun _ => rfl) (fun x3_33 ex3_33 => ?_)
            replace h := h x3_33 ex3_33
            have rx3_33 : inR x3_33 := by rw [ex3_33]; exact r_32
            refine wa_sub C [2, 3, 0, 4] rfl ?_
            exact k_19 x3_33 F_waiting_31 F_seen_29 rx3_33 h
  refine wa_sub C [2, 3, 1, 0] rfl ?_
  exact k_7 n_4 x2 x4_2 F_waiting F_seen rx2 rx4_2 h0Inv_3
def P_X2_passZeros (post : (Int → Int) → (Int → Int) → Prop) (F_mined : Int → Int) (F_number : Int → Int) (F_state : Int → Int) (F_waiting : Int → Int) (F_seen : Int → Int) (G_near : Int → Int) (G_nearEnd : Int → Int) (x1 : Int) : Prop :=
  (0 ≤ x1 ∧ x1 < 144) ∧ (∀ F_seen_2 : Int → Int, F_seen_2 = upZ F_seen x1 1 → (∀ F_waiting_3 : Int → Int, F_waiting_3 = upZ F_waiting 0 x1 → (∃ Inv_4 : Nat → (Int) → (Int) → (Int → Int) → (Int → Int) → Prop, (∃ n_5 : Nat, Inv_4 n_5 1 0 F_waiting_3 F_seen_2) ∧ ∀ (n_6 : Nat) (x2_9 : Int) (x3_10 : Int) (F_waiting_11 : Int → Int) (F_seen_12 : Int → Int), inR x2_9 → inR x3_10 → Inv_4 n_6 x2_9 x3_10 F_waiting_11 F_seen_12 → ((x2_9 ≤ x3_10 → (post F_waiting_11 F_seen_12)) ∧ (¬ x2_9 ≤ x3_10 → ((144 ≤ x3_10 → (post F_waiting_11 F_seen_12)) ∧ (¬ 144 ≤ x3_10 → ((0 ≤ x3_10 ∧ x3_10 < 144) ∧ (∀ v_16 : Int, v_16 = F_waiting_11 x3_10 → inR v_16 → ((0 ≤ v_16 ∧ v_16 < 144) ∧ (∀ v_18 : Int, v_18 = F_number v_16 → inR v_18 → (∃ J_19 : (Int) → (Int → Int) → (Int → Int) → Prop, ((¬ v_18 = 0 → (J_19 x2_9 F_waiting_11 F_seen_12)) ∧ (v_18 = 0 → ((0 ≤ x3_10 ∧ x3_10 < 144) ∧ (∀ v_29 : Int, v_29 = F_waiting_11 x3_10 → inR v_29 → (P_X2_passAround (fun (c_30 : Int) (F_waiting_31 : Int → Int) (F_seen_32 : Int → Int) => inR c_30 → (J_19 c_30 F_waiting_31 F_seen_32)) F_mined F_state F_waiting_11 F_seen_12 G_near G_nearEnd v_29 x2_9))))) ∧ (∀ (x2_21 : Int) (F_waiting_22 : Int → Int) (F_seen_23 : Int → Int), inR x2_21 → J_19 x2_21 F_waiting_22 F_seen_23 → (inR (x3_10 + 1) ∧ (∀ x3_25 : Int, x3_25 = (x3_10 + 1) → (∃ n_26 : Nat, n_26 < n_6 ∧ Inv_4 n_26 x2_21 x3_25 F_waiting_22 F_seen_23))))))))))))))))
set_option maxRecDepth 100000 in
set_option maxHeartbeats 4000000 in
theorem c_X2_passZeros (l : Launch) (K : wK) (ad : Nat → Nat) {D_hasBoard : Int} {D_beganBlank : Int} {F_mines : Int} {F_moves : Int} {F_changes : Int} {G_width : Int} {G_height : Int} {G_size : Int} {B_parts : Int} {B_longest : Int} {S_groups : Int} {S_askedGroup : Int} {S_taken : Int} {R_waitingCount : Int} {R_metCount : Int} {A_grade : Int} {A_cell : Int} {A_mined : Int} {A_withTotal : Int} {A_numbers : Int} {X_low : Int} {X_high : Int} {Y_low : Int} {Y_high : Int} {F_mined : Int → Int} {F_number : Int → Int} {F_state : Int → Int} {F_cellsIn : Int → Int} {F_unknownNear : Int → Int} {F_hitNear : Int → Int} {F_moveStart : Int → Int} {F_changed : Int → Int} {F_waiting : Int → Int} {F_seen : Int → Int} {G_near : Int → Int} {G_nearEnd : Int → Int} {B_chosen : Int → Int} {B_partOf : Int → Int} {B_rest : Int → Int} {B_unknowns : Int → Int} {B_partStart : Int → Int} {B_cells : Int → Int} {S_minedSet : Int → Int} {S_safeSet : Int → Int} {S_partSet : Int → Int} {S_tally : Int → Int} {S_askedTally : Int → Int} {S_groupOf : Int → Int} {S_groupSize : Int → Int} {S_links : Int → Int} {S_linkEnd : Int → Int} {S_pick : Int → Int} {S_groupMinedSet : Int → Int} {S_groupSafeSet : Int → Int} {O_sums : Int → Int64} {O_nextSums : Int → Int64} {R_found : Int → Int} {R_openEnds : Int → Int} {R_need : Int → Int} {R_waiting : Int → Int} {R_waits : Int → Int} {R_common : Int → Int} {R_met : Int → Int} {A_number : Int → Int} {Q_mined : Int → Int64} {Q_all : Int → Int64} {Q_choices : Int → Int64} {Q_term : Int → Int64} {Q_divisor : Int → Int64} {Q_spare : Int → Int64} {X_limbs : Int → Int64} {X_sum : Int → Int64} {Y_limbs : Int → Int64} {Y_sum : Int → Int64} (x1 : Int) (rx1 : inR x1) (post : (Int → Int) → (Int → Int) → Prop) (h : P_X2_passZeros post F_mined F_number F_state F_waiting F_seen G_near G_nearEnd x1) : mV l yX2_passZeros (Cond.code yX2_passZeros cX2_passZeros 4 none :: GT) ({ frames := 5, cells := 0, slots := 0, locals := 300 } : Room) [.ref (ad 1), .int (iI x1)] K ad (dW D_hasBoard D_beganBlank F_mines F_moves F_changes G_width G_height G_size B_parts B_longest S_groups S_askedGroup S_taken R_waitingCount R_metCount A_grade A_cell A_mined A_withTotal A_numbers X_low X_high Y_low Y_high F_mined F_number F_state F_cellsIn F_unknownNear F_hitNear F_moveStart F_changed F_waiting F_seen G_near G_nearEnd B_chosen B_partOf B_rest B_unknowns B_partStart B_cells S_minedSet S_safeSet S_partSet S_tally S_askedTally S_groupOf S_groupSize S_links S_linkEnd S_pick S_groupMinedSet S_groupSafeSet O_sums O_nextSums R_found R_openEnds R_need R_waiting R_waits R_common R_met A_number Q_mined Q_all Q_choices Q_term Q_divisor Q_spare X_limbs X_sum Y_limbs Y_sum) (fun u9 => ∃ F_waiting9 F_seen9, u9 = (dW D_hasBoard D_beganBlank F_mines F_moves F_changes G_width G_height G_size B_parts B_longest S_groups S_askedGroup S_taken R_waitingCount R_metCount A_grade A_cell A_mined A_withTotal A_numbers X_low X_high Y_low Y_high F_mined F_number F_state F_cellsIn F_unknownNear F_hitNear F_moveStart F_changed F_waiting9 F_seen9 G_near G_nearEnd B_chosen B_partOf B_rest B_unknowns B_partStart B_cells S_minedSet S_safeSet S_partSet S_tally S_askedTally S_groupOf S_groupSize S_links S_linkEnd S_pick S_groupMinedSet S_groupSafeSet O_sums O_nextSums R_found R_openEnds R_need R_waiting R_waits R_common R_met A_number Q_mined Q_all Q_choices Q_term Q_divisor Q_spare X_limbs X_sum Y_limbs Y_sum) ∧ post F_waiting9 F_seen9) := by
  refine mV_of (lv0 := [(0, .ref (ad 1)), (1, .int (iI x1))]) (by decide) (Nat.le_of_ble_eq_true rfl) rfl ?_
  intro p e s m args below meth c Q A C ret
  replace C : Cx p ({ frames := 5, cells := 0, slots := 0, locals := 300 } : Room) m c 0 0 cX2_passZeros 4 s args RX2 K A := C
  unfold P_X2_passZeros at h
  refine wa_aload_n C 0 rfl dX2_passZeros_0 rfl ?_
  refine wa_getR C 1 13 dW_1 rfl rfl (by decide) okX2 gw_118 dX2_passZeros_1 ?_
  refine wa_iload_n C 1 rfl dX2_passZeros_4 rfl ?_
  refine wa_iconst C (z := 1) dX2_passZeros_5 rfl ?_
  obtain ⟨t_1, h⟩ := h
  refine wa_bast C (ws' := fun w9 => (dW D_hasBoard D_beganBlank F_mines F_moves F_changes G_width G_height G_size B_parts B_longest S_groups S_askedGroup S_taken R_waitingCount R_metCount A_grade A_cell A_mined A_withTotal A_numbers X_low X_high Y_low Y_high F_mined F_number F_state F_cellsIn F_unknownNear F_hitNear F_moveStart F_changed F_waiting w9 G_near G_nearEnd B_chosen B_partOf B_rest B_unknowns B_partStart B_cells S_minedSet S_safeSet S_partSet S_tally S_askedTally S_groupOf S_groupSize S_links S_linkEnd S_pick S_groupMinedSet S_groupSafeSet O_sums O_nextSums R_found R_openEnds R_need R_waiting R_waits R_common R_met A_number Q_mined Q_all Q_choices Q_term Q_divisor Q_spare X_limbs X_sum Y_limbs Y_sum)) 21 dW_21 dX2_passZeros_6 t_1.1 t_1.2 (Or.inr rfl) dWs_21 (fun F_seen_2 eF_seen_2 => ?_)
  replace h := h F_seen_2 eF_seen_2
  refine wa_aload_n C 0 rfl dX2_passZeros_7 rfl ?_
  refine wa_getR C 1 12 dW_1 rfl rfl (by decide) okX2 gw_117 dX2_passZeros_8 ?_
  refine wa_iconst C (z := 0) dX2_passZeros_11 rfl ?_
  refine wa_iload_n C 1 rfl dX2_passZeros_12 rfl ?_
  refine wa_iast C (ws' := fun w9 => (dW D_hasBoard D_beganBlank F_mines F_moves F_changes G_width G_height G_size B_parts B_longest S_groups S_askedGroup S_taken R_waitingCount R_metCount A_grade A_cell A_mined A_withTotal A_numbers X_low X_high Y_low Y_high F_mined F_number F_state F_cellsIn F_unknownNear F_hitNear F_moveStart F_changed w9 F_seen_2 G_near G_nearEnd B_chosen B_partOf B_rest B_unknowns B_partStart B_cells S_minedSet S_safeSet S_partSet S_tally S_askedTally S_groupOf S_groupSize S_links S_linkEnd S_pick S_groupMinedSet S_groupSafeSet O_sums O_nextSums R_found R_openEnds R_need R_waiting R_waits R_common R_met A_number Q_mined Q_all Q_choices Q_term Q_divisor Q_spare X_limbs X_sum Y_limbs Y_sum)) 20 dW_20 dX2_passZeros_13 (by decide) (by decide) rx1 dWs_20 (fun F_waiting_3 eF_waiting_3 => ?_)
  replace h := h F_waiting_3 eF_waiting_3
  refine wa_iconst C (z := 1) dX2_passZeros_14 rfl ?_
  refine wa_istore_n C dX2_passZeros_15 rfl (by decide) rfl ?_
  refine wa_iconst C (z := 0) dX2_passZeros_16 rfl ?_
  refine wa_istore_n C dX2_passZeros_17 rfl (by decide) rfl ?_
  obtain ⟨Inv_4, ⟨n_5, h0Inv_4⟩, hInv_4⟩ := h
  have k_8 : ∀ (n_6 : Nat) (x2_9 : Int) (x3_10 : Int) (F_waiting_11 : Int → Int) (F_seen_12 : Int → Int), inR x2_9 → inR x3_10 → Inv_4 n_6 x2_9 x3_10 F_waiting_11 F_seen_12 → WA p l e ({ frames := 5, cells := 0, slots := 0, locals := 300 } : Room) s m args below meth c 0 0 Q K ad 4 A 18 [(0, .ref (ad 1)), (2, .int (iI x2_9)), (3, .int (iI x3_10))] [] (dW D_hasBoard D_beganBlank F_mines F_moves F_changes G_width G_height G_size B_parts B_longest S_groups S_askedGroup S_taken R_waitingCount R_metCount A_grade A_cell A_mined A_withTotal A_numbers X_low X_high Y_low Y_high F_mined F_number F_state F_cellsIn F_unknownNear F_hitNear F_moveStart F_changed F_waiting_11 F_seen_12 G_near G_nearEnd B_chosen B_partOf B_rest B_unknowns B_partStart B_cells S_minedSet S_safeSet S_partSet S_tally S_askedTally S_groupOf S_groupSize S_links S_linkEnd S_pick S_groupMinedSet S_groupSafeSet O_sums O_nextSums R_found R_openEnds R_need R_waiting R_waits R_common R_met A_number Q_mined Q_all Q_choices Q_term Q_divisor Q_spare X_limbs X_sum Y_limbs Y_sum) := by
    intro n_6
    induction n_6 using Nat.strongRecOn with
    | ind n_6 ih_7 =>
      intro x2_9 x3_10 F_waiting_11 F_seen_12 rx2_9 rx3_10 h
      replace h := hInv_4 n_6 x2_9 x3_10 F_waiting_11 F_seen_12 rx2_9 rx3_10 h
      refine wa_iload_n C 2 rfl dX2_passZeros_18 rfl ?_
      refine wa_iload_n C 1 rfl dX2_passZeros_19 rfl ?_
      refine wa_icmp_ge C (tgt := 62) rx3_10 rx2_9 dX2_passZeros_20 (by decide) (fun c_13 => ?_) (fun c_13 => ?_)
      · replace h := h.1 c_13
        exact ret dX2_passZeros_62 ⟨_, _, rfl, h⟩
      · replace h := h.2 c_13
        refine wa_iload_n C 2 rfl dX2_passZeros_23 rfl ?_
        refine wa_sipush C (z := 144) dX2_passZeros_24 (by decide) ?_
        refine wa_icmp_ge C (tgt := 62) rx3_10 (inR_k 144 rfl) dX2_passZeros_27 (by decide) (fun c_14 => ?_) (fun c_14 => ?_)
        · replace h := h.1 c_14
          exact ret dX2_passZeros_62 ⟨_, _, rfl, h⟩
        · replace h := h.2 c_14
          refine wa_aload_n C 0 rfl dX2_passZeros_30 rfl ?_
          refine wa_getR C 1 2 dW_1 rfl rfl (by decide) okX2 gw_92 dX2_passZeros_31 ?_
          refine wa_aload_n C 0 rfl dX2_passZeros_34 rfl ?_
          refine wa_getR C 1 12 dW_1 rfl rfl (by decide) okX2 gw_117 dX2_passZeros_35 ?_
          refine wa_iload_n C 2 rfl dX2_passZeros_38 rfl ?_
          obtain ⟨t_15, h⟩ := h
          refine wa_iald C 20 dW_20 dX2_passZeros_39 t_15.1 t_15.2 (fun v_16 ev_16 rv_16 => ?_)
          replace h := h v_16 ev_16 rv_16
          obtain ⟨t_17, h⟩ := h
          refine wa_iald C 13 dW_13 dX2_passZeros_40 t_17.1 t_17.2 (fun v_18 ev_18 rv_18 => ?_)
          replace h := h v_18 ev_18 rv_18
          obtain ⟨J_19, h, hJ_19⟩ := h
          have k_20 : ∀ (x2_21 : Int) (F_waiting_22 : Int → Int) (F_seen_23 : Int → Int), inR x2_21 → J_19 x2_21 F_waiting_22 F_seen_23 → WA p l e ({ frames := 5, cells := 0, slots := 0, locals := 300 } : Room) s m args below meth c 0 0 Q K ad 4 A 56 [(0, .ref (ad 1)), (2, .int (iI x2_21)), (3, .int (iI x3_10))] [] (dW D_hasBoard D_beganBlank F_mines F_moves F_changes G_width G_height G_size B_parts B_longest S_groups S_askedGroup S_taken R_waitingCount R_metCount A_grade A_cell A_mined A_withTotal A_numbers X_low X_high Y_low Y_high F_mined F_number F_state F_cellsIn F_unknownNear F_hitNear F_moveStart F_changed F_waiting_22 F_seen_23 G_near G_nearEnd B_chosen B_partOf B_rest B_unknowns B_partStart B_cells S_minedSet S_safeSet S_partSet S_tally S_askedTally S_groupOf S_groupSize S_links S_linkEnd S_pick S_groupMinedSet S_groupSafeSet O_sums O_nextSums R_found R_openEnds R_need R_waiting R_waits R_common R_met A_number Q_mined Q_all Q_choices Q_term Q_divisor Q_spare X_limbs X_sum Y_limbs Y_sum) := by
            intro x2_21 F_waiting_22 F_seen_23 rx2_21 h
            replace h := hJ_19 x2_21 F_waiting_22 F_seen_23 rx2_21 h
            obtain ⟨r_24, h⟩ := h
            refine wa_iinc C (lv' := fun w9 => [(3, .int (iI w9)), (0, .ref (ad 1)), (2, .int (iI x2_21))]) 2 rfl dX2_passZeros_56 (by decide) (fun _ => rfl) (fun x3_25 ex3_25 => ?_)
            replace h := h x3_25 ex3_25
            have rx3_25 : inR x3_25 := by rw [ex3_25]; exact r_24
            refine wa_goto C (tgt := 18) dX2_passZeros_59 (by decide) ?_
            obtain ⟨n_26, ln_26, h⟩ := h
            refine wa_sub C [1, 2, 0] rfl ?_
            exact ih_7 n_26 ln_26 x2_21 x3_25 F_waiting_22 F_seen_23 rx2_21 rx3_25 h
          refine wa_if_ne C (tgt := 56) rv_18 dX2_passZeros_41 (by decide) (fun c_27 => ?_) (fun c_27 => ?_)
          · replace h := h.1 c_27
            refine wa_sub C [0, 1, 2] rfl ?_
            exact k_20 x2_9 F_waiting_11 F_seen_12 rx2_9 h
          · replace h := h.2 c_27
            refine wa_aload_n C 0 rfl dX2_passZeros_44 rfl ?_
            refine wa_aload_n C 0 rfl dX2_passZeros_45 rfl ?_
            refine wa_getR C 1 12 dW_1 rfl rfl (by decide) okX2 gw_117 dX2_passZeros_46 ?_
            refine wa_iload_n C 2 rfl dX2_passZeros_49 rfl ?_
            obtain ⟨t_28, h⟩ := h
            refine wa_iald C 20 dW_20 dX2_passZeros_50 t_28.1 t_28.2 (fun v_29 ev_29 rv_29 => ?_)
            replace h := h v_29 ev_29 rv_29
            refine wa_iload_n C 1 rfl dX2_passZeros_51 rfl ?_
            refine wa_callVi C (k := 1) (As := [.int (iI v_29), .int (iI x2_9)]) (rest := []) (c_X2_passAround l K ad v_29 x2_9 rv_29 rx2_9 _ h) gw_1224 gw_1221 dW_1 rfl gw_1223 gs_50 gw_2 q_X2_passAround rfl rfl rfl ⟨by decide, by decide⟩ rfl (Nat.le_of_ble_eq_true rfl) dX2_passZeros_52 (fun c_30 u9 rc_30 hp => ?_)
            obtain ⟨F_waiting_31, F_seen_32, rfl, h⟩ := hp
            replace h := h rc_30
            refine wa_istore_n C dX2_passZeros_55 rfl (by decide) rfl ?_
            refine wa_sub C [1, 0, 2] rfl ?_
            exact k_20 c_30 F_waiting_31 F_seen_32 rc_30 h
  refine wa_sub C [2, 1, 0] rfl ?_
  exact k_8 n_5 1 0 F_waiting_3 F_seen_2 (inR_k 1 rfl) (inR_k 0 rfl) h0Inv_4
def P_X2_leastOpenings (post : Int → (Int → Int) → (Int → Int) → Prop) (G_size : Int) (F_mined : Int → Int) (F_number : Int → Int) (F_state : Int → Int) (F_waiting : Int → Int) (F_seen : Int → Int) (G_near : Int → Int) (G_nearEnd : Int → Int) : Prop :=
  ∃ Inv_1 : Nat → (Int) → (Int → Int) → Prop, (∃ n_2 : Nat, Inv_1 n_2 0 F_seen) ∧ ∀ (n_3 : Nat) (x1_6 : Int) (F_seen_7 : Int → Int), inR x1_6 → Inv_1 n_3 x1_6 F_seen_7 → ((G_size ≤ x1_6 → (∃ Inv_10 : Nat → (Int) → (Int) → (Int → Int) → (Int → Int) → Prop, (∃ n_11 : Nat, Inv_10 n_11 0 0 F_waiting F_seen_7) ∧ ∀ (n_12 : Nat) (x1_15 : Int) (x2_16 : Int) (F_waiting_17 : Int → Int) (F_seen_18 : Int → Int), inR x1_15 → inR x2_16 → Inv_10 n_12 x1_15 x2_16 F_waiting_17 F_seen_18 → ((G_size ≤ x2_16 → (∃ Inv_21 : Nat → (Int) → (Int) → Prop, (∃ n_22 : Nat, Inv_21 n_22 x1_15 0) ∧ ∀ (n_23 : Nat) (x1_26 : Int) (x2_27 : Int), inR x1_26 → inR x2_27 → Inv_21 n_23 x1_26 x2_27 → ((G_size ≤ x2_27 → (post x1_26 F_waiting_17 F_seen_18)) ∧ (¬ G_size ≤ x2_27 → (P_X2_hasToOpen (fun (c_30 : Int) => (c_30 = 0 ∨ c_30 = 1) → (∃ J_31 : (Int) → Prop, ((c_30 = 0 → (J_31 x1_26)) ∧ (¬ c_30 = 0 → (inR (x1_26 + 1) ∧ (∀ x1_39 : Int, x1_39 = (x1_26 + 1) → (J_31 x1_39))))) ∧ (∀ (x1_33 : Int), inR x1_33 → J_31 x1_33 → (inR (x2_27 + 1) ∧ (∀ x2_35 : Int, x2_35 = (x2_27 + 1) → (∃ n_36 : Nat, n_36 < n_23 ∧ Inv_21 n_36 x1_33 x2_35)))))) F_mined F_state F_seen_18 x2_27))))) ∧ (¬ G_size ≤ x2_16 → ((0 ≤ x2_16 ∧ x2_16 < 144) ∧ (∀ v_41 : Int, v_41 = F_number x2_16 → inR v_41 → (∃ J_42 : (Int) → (Int → Int) → (Int → Int) → Prop, ((¬ v_41 = 0 → (J_42 x1_15 F_waiting_17 F_seen_18)) ∧ (v_41 = 0 → (P_X2_hasToOpen (fun (c_51 : Int) => (c_51 = 0 ∨ c_51 = 1) → ((c_51 = 0 → (J_42 x1_15 F_waiting_17 F_seen_18)) ∧ (¬ c_51 = 0 → (inR (x1_15 + 1) ∧ (∀ x1_54 : Int, x1_54 = (x1_15 + 1) → (P_X2_passZeros (fun (F_waiting_55 : Int → Int) (F_seen_56 : Int → Int) => (J_42 x1_54 F_waiting_55 F_seen_56)) F_mined F_number F_state F_waiting_17 F_seen_18 G_near G_nearEnd x2_16)))))) F_mined F_state F_seen_18 x2_16))) ∧ (∀ (x1_44 : Int) (F_waiting_45 : Int → Int) (F_seen_46 : Int → Int), inR x1_44 → J_42 x1_44 F_waiting_45 F_seen_46 → (inR (x2_16 + 1) ∧ (∀ x2_48 : Int, x2_48 = (x2_16 + 1) → (∃ n_49 : Nat, n_49 < n_12 ∧ Inv_10 n_49 x1_44 x2_48 F_waiting_45 F_seen_46))))))))))) ∧ (¬ G_size ≤ x1_6 → ((0 ≤ x1_6 ∧ x1_6 < 144) ∧ (∀ F_seen_58 : Int → Int, F_seen_58 = upZ F_seen_7 x1_6 0 → (inR (x1_6 + 1) ∧ (∀ x1_60 : Int, x1_60 = (x1_6 + 1) → (∃ n_61 : Nat, n_61 < n_3 ∧ Inv_1 n_61 x1_60 F_seen_58)))))))
set_option maxRecDepth 100000 in
set_option maxHeartbeats 4000000 in
theorem c_X2_leastOpenings (l : Launch) (K : wK) (ad : Nat → Nat) {D_hasBoard : Int} {D_beganBlank : Int} {F_mines : Int} {F_moves : Int} {F_changes : Int} {G_width : Int} {G_height : Int} {G_size : Int} {B_parts : Int} {B_longest : Int} {S_groups : Int} {S_askedGroup : Int} {S_taken : Int} {R_waitingCount : Int} {R_metCount : Int} {A_grade : Int} {A_cell : Int} {A_mined : Int} {A_withTotal : Int} {A_numbers : Int} {X_low : Int} {X_high : Int} {Y_low : Int} {Y_high : Int} {F_mined : Int → Int} {F_number : Int → Int} {F_state : Int → Int} {F_cellsIn : Int → Int} {F_unknownNear : Int → Int} {F_hitNear : Int → Int} {F_moveStart : Int → Int} {F_changed : Int → Int} {F_waiting : Int → Int} {F_seen : Int → Int} {G_near : Int → Int} {G_nearEnd : Int → Int} {B_chosen : Int → Int} {B_partOf : Int → Int} {B_rest : Int → Int} {B_unknowns : Int → Int} {B_partStart : Int → Int} {B_cells : Int → Int} {S_minedSet : Int → Int} {S_safeSet : Int → Int} {S_partSet : Int → Int} {S_tally : Int → Int} {S_askedTally : Int → Int} {S_groupOf : Int → Int} {S_groupSize : Int → Int} {S_links : Int → Int} {S_linkEnd : Int → Int} {S_pick : Int → Int} {S_groupMinedSet : Int → Int} {S_groupSafeSet : Int → Int} {O_sums : Int → Int64} {O_nextSums : Int → Int64} {R_found : Int → Int} {R_openEnds : Int → Int} {R_need : Int → Int} {R_waiting : Int → Int} {R_waits : Int → Int} {R_common : Int → Int} {R_met : Int → Int} {A_number : Int → Int} {Q_mined : Int → Int64} {Q_all : Int → Int64} {Q_choices : Int → Int64} {Q_term : Int → Int64} {Q_divisor : Int → Int64} {Q_spare : Int → Int64} {X_limbs : Int → Int64} {X_sum : Int → Int64} {Y_limbs : Int → Int64} {Y_sum : Int → Int64}   (post : Int → (Int → Int) → (Int → Int) → Prop) (h : P_X2_leastOpenings post G_size F_mined F_number F_state F_waiting F_seen G_near G_nearEnd) : mI l yX2_leastOpenings (Cond.code yX2_leastOpenings cX2_leastOpenings 3 (some .int) :: GT) ({ frames := 6, cells := 0, slots := 0, locals := 360 } : Room) [.ref (ad 1)] K ad (dW D_hasBoard D_beganBlank F_mines F_moves F_changes G_width G_height G_size B_parts B_longest S_groups S_askedGroup S_taken R_waitingCount R_metCount A_grade A_cell A_mined A_withTotal A_numbers X_low X_high Y_low Y_high F_mined F_number F_state F_cellsIn F_unknownNear F_hitNear F_moveStart F_changed F_waiting F_seen G_near G_nearEnd B_chosen B_partOf B_rest B_unknowns B_partStart B_cells S_minedSet S_safeSet S_partSet S_tally S_askedTally S_groupOf S_groupSize S_links S_linkEnd S_pick S_groupMinedSet S_groupSafeSet O_sums O_nextSums R_found R_openEnds R_need R_waiting R_waits R_common R_met A_number Q_mined Q_all Q_choices Q_term Q_divisor Q_spare X_limbs X_sum Y_limbs Y_sum) (fun z9 u9 => ∃ F_waiting9 F_seen9, u9 = (dW D_hasBoard D_beganBlank F_mines F_moves F_changes G_width G_height G_size B_parts B_longest S_groups S_askedGroup S_taken R_waitingCount R_metCount A_grade A_cell A_mined A_withTotal A_numbers X_low X_high Y_low Y_high F_mined F_number F_state F_cellsIn F_unknownNear F_hitNear F_moveStart F_changed F_waiting9 F_seen9 G_near G_nearEnd B_chosen B_partOf B_rest B_unknowns B_partStart B_cells S_minedSet S_safeSet S_partSet S_tally S_askedTally S_groupOf S_groupSize S_links S_linkEnd S_pick S_groupMinedSet S_groupSafeSet O_sums O_nextSums R_found R_openEnds R_need R_waiting R_waits R_common R_met A_number Q_mined Q_all Q_choices Q_term Q_divisor Q_spare X_limbs X_sum Y_limbs Y_sum) ∧ post z9 F_waiting9 F_seen9) := by
  refine mI_of (lv0 := [(0, .ref (ad 1))]) (by decide) (Nat.le_of_ble_eq_true rfl) rfl ?_
  intro p e s m args below meth c Q A C ret
  replace C : Cx p ({ frames := 6, cells := 0, slots := 0, locals := 360 } : Room) m c 0 0 cX2_leastOpenings 3 s args RX2 K A := C
  unfold P_X2_leastOpenings at h
  refine wa_iconst C (z := 0) dX2_leastOpenings_0 rfl ?_
  refine wa_istore_n C dX2_leastOpenings_1 rfl (by decide) rfl ?_
  obtain ⟨Inv_1, ⟨n_2, h0Inv_1⟩, hInv_1⟩ := h
  have k_5 : ∀ (n_3 : Nat) (x1_6 : Int) (F_seen_7 : Int → Int), inR x1_6 → Inv_1 n_3 x1_6 F_seen_7 → WA p l e ({ frames := 6, cells := 0, slots := 0, locals := 360 } : Room) s m args below meth c 0 0 Q K ad 3 A 2 [(0, .ref (ad 1)), (1, .int (iI x1_6))] [] (dW D_hasBoard D_beganBlank F_mines F_moves F_changes G_width G_height G_size B_parts B_longest S_groups S_askedGroup S_taken R_waitingCount R_metCount A_grade A_cell A_mined A_withTotal A_numbers X_low X_high Y_low Y_high F_mined F_number F_state F_cellsIn F_unknownNear F_hitNear F_moveStart F_changed F_waiting F_seen_7 G_near G_nearEnd B_chosen B_partOf B_rest B_unknowns B_partStart B_cells S_minedSet S_safeSet S_partSet S_tally S_askedTally S_groupOf S_groupSize S_links S_linkEnd S_pick S_groupMinedSet S_groupSafeSet O_sums O_nextSums R_found R_openEnds R_need R_waiting R_waits R_common R_met A_number Q_mined Q_all Q_choices Q_term Q_divisor Q_spare X_limbs X_sum Y_limbs Y_sum) := by
    intro n_3
    induction n_3 using Nat.strongRecOn with
    | ind n_3 ih_4 =>
      intro x1_6 F_seen_7 rx1_6 h
      replace h := hInv_1 n_3 x1_6 F_seen_7 rx1_6 h
      refine wa_iload_n C 1 rfl dX2_leastOpenings_2 rfl ?_
      refine wa_aload_n C 0 rfl dX2_leastOpenings_3 rfl ?_
      refine wa_getR C 1 0 dW_1 rfl rfl (by decide) okX2 gw_83 dX2_leastOpenings_4 ?_
      refine wa_getI C 2 2 dW_2 rfl rfl (by decide) okX3 gw_51 dX2_leastOpenings_7 (fun r_8 => ?_)
      refine wa_icmp_ge C (tgt := 26) rx1_6 r_8 dX2_leastOpenings_10 (by decide) (fun c_9 => ?_) (fun c_9 => ?_)
      · replace h := h.1 c_9
        refine wa_iconst C (z := 0) dX2_leastOpenings_26 rfl ?_
        refine wa_istore_n C dX2_leastOpenings_27 rfl (by decide) rfl ?_
        refine wa_iconst C (z := 0) dX2_leastOpenings_28 rfl ?_
        refine wa_istore_n C dX2_leastOpenings_29 rfl (by decide) rfl ?_
        obtain ⟨Inv_10, ⟨n_11, h0Inv_10⟩, hInv_10⟩ := h
        have k_14 : ∀ (n_12 : Nat) (x1_15 : Int) (x2_16 : Int) (F_waiting_17 : Int → Int) (F_seen_18 : Int → Int), inR x1_15 → inR x2_16 → Inv_10 n_12 x1_15 x2_16 F_waiting_17 F_seen_18 → WA p l e ({ frames := 6, cells := 0, slots := 0, locals := 360 } : Room) s m args below meth c 0 0 Q K ad 3 A 30 [(0, .ref (ad 1)), (1, .int (iI x1_15)), (2, .int (iI x2_16))] [] (dW D_hasBoard D_beganBlank F_mines F_moves F_changes G_width G_height G_size B_parts B_longest S_groups S_askedGroup S_taken R_waitingCount R_metCount A_grade A_cell A_mined A_withTotal A_numbers X_low X_high Y_low Y_high F_mined F_number F_state F_cellsIn F_unknownNear F_hitNear F_moveStart F_changed F_waiting_17 F_seen_18 G_near G_nearEnd B_chosen B_partOf B_rest B_unknowns B_partStart B_cells S_minedSet S_safeSet S_partSet S_tally S_askedTally S_groupOf S_groupSize S_links S_linkEnd S_pick S_groupMinedSet S_groupSafeSet O_sums O_nextSums R_found R_openEnds R_need R_waiting R_waits R_common R_met A_number Q_mined Q_all Q_choices Q_term Q_divisor Q_spare X_limbs X_sum Y_limbs Y_sum) := by
          intro n_12
          induction n_12 using Nat.strongRecOn with
          | ind n_12 ih_13 =>
            intro x1_15 x2_16 F_waiting_17 F_seen_18 rx1_15 rx2_16 h
            replace h := hInv_10 n_12 x1_15 x2_16 F_waiting_17 F_seen_18 rx1_15 rx2_16 h
            refine wa_iload_n C 2 rfl dX2_leastOpenings_30 rfl ?_
            refine wa_aload_n C 0 rfl dX2_leastOpenings_31 rfl ?_
            refine wa_getR C 1 0 dW_1 rfl rfl (by decide) okX2 gw_83 dX2_leastOpenings_32 ?_
            refine wa_getI C 2 2 dW_2 rfl rfl (by decide) okX3 gw_51 dX2_leastOpenings_35 (fun r_19 => ?_)
            refine wa_icmp_ge C (tgt := 72) rx2_16 r_8 dX2_leastOpenings_38 (by decide) (fun c_20 => ?_) (fun c_20 => ?_)
            · replace h := h.1 c_20
              refine wa_iconst C (z := 0) dX2_leastOpenings_72 rfl ?_
              refine wa_istore_n C dX2_leastOpenings_73 rfl (by decide) rfl ?_
              obtain ⟨Inv_21, ⟨n_22, h0Inv_21⟩, hInv_21⟩ := h
              have k_25 : ∀ (n_23 : Nat) (x1_26 : Int) (x2_27 : Int), inR x1_26 → inR x2_27 → Inv_21 n_23 x1_26 x2_27 → WA p l e ({ frames := 6, cells := 0, slots := 0, locals := 360 } : Room) s m args below meth c 0 0 Q K ad 3 A 74 [(0, .ref (ad 1)), (1, .int (iI x1_26)), (2, .int (iI x2_27))] [] (dW D_hasBoard D_beganBlank F_mines F_moves F_changes G_width G_height G_size B_parts B_longest S_groups S_askedGroup S_taken R_waitingCount R_metCount A_grade A_cell A_mined A_withTotal A_numbers X_low X_high Y_low Y_high F_mined F_number F_state F_cellsIn F_unknownNear F_hitNear F_moveStart F_changed F_waiting_17 F_seen_18 G_near G_nearEnd B_chosen B_partOf B_rest B_unknowns B_partStart B_cells S_minedSet S_safeSet S_partSet S_tally S_askedTally S_groupOf S_groupSize S_links S_linkEnd S_pick S_groupMinedSet S_groupSafeSet O_sums O_nextSums R_found R_openEnds R_need R_waiting R_waits R_common R_met A_number Q_mined Q_all Q_choices Q_term Q_divisor Q_spare X_limbs X_sum Y_limbs Y_sum) := by
                intro n_23
                induction n_23 using Nat.strongRecOn with
                | ind n_23 ih_24 =>
                  intro x1_26 x2_27 rx1_26 rx2_27 h
                  replace h := hInv_21 n_23 x1_26 x2_27 rx1_26 rx2_27 h
                  refine wa_iload_n C 2 rfl dX2_leastOpenings_74 rfl ?_
                  refine wa_aload_n C 0 rfl dX2_leastOpenings_75 rfl ?_
                  refine wa_getR C 1 0 dW_1 rfl rfl (by decide) okX2 gw_83 dX2_leastOpenings_76 ?_
                  refine wa_getI C 2 2 dW_2 rfl rfl (by decide) okX3 gw_51 dX2_leastOpenings_79 (fun r_28 => ?_)
                  refine wa_icmp_ge C (tgt := 102) rx2_27 r_8 dX2_leastOpenings_82 (by decide) (fun c_29 => ?_) (fun c_29 => ?_)
                  · replace h := h.1 c_29
                    refine wa_iload_n C 1 rfl dX2_leastOpenings_102 rfl ?_
                    exact ret dX2_leastOpenings_103 rx1_26 ⟨_, _, rfl, h⟩
                  · replace h := h.2 c_29
                    refine wa_aload_n C 0 rfl dX2_leastOpenings_85 rfl ?_
                    refine wa_iload_n C 2 rfl dX2_leastOpenings_86 rfl ?_
                    refine wa_callVi C (k := 1) (As := [.int (iI x2_27)]) (rest := []) (c_X2_hasToOpen l K ad x2_27 rx2_27 _ h) gw_1216 gw_1213 dW_1 rfl gw_1215 gs_48 gw_2 q_X2_hasToOpen rfl rfl rfl ⟨by decide, by decide⟩ rfl (Nat.le_of_ble_eq_true rfl) dX2_leastOpenings_87 (fun c_30 u9 rc_30 hp => ?_)
                    obtain ⟨bc_30, rfl, h⟩ := hp
                    replace h := h bc_30
                    obtain ⟨J_31, h, hJ_31⟩ := h
                    have k_32 : ∀ (x1_33 : Int), inR x1_33 → J_31 x1_33 → WA p l e ({ frames := 6, cells := 0, slots := 0, locals := 360 } : Room) s m args below meth c 0 0 Q K ad 3 A 96 [(0, .ref (ad 1)), (1, .int (iI x1_33)), (2, .int (iI x2_27))] [] (dW D_hasBoard D_beganBlank F_mines F_moves F_changes G_width G_height G_size B_parts B_longest S_groups S_askedGroup S_taken R_waitingCount R_metCount A_grade A_cell A_mined A_withTotal A_numbers X_low X_high Y_low Y_high F_mined F_number F_state F_cellsIn F_unknownNear F_hitNear F_moveStart F_changed F_waiting_17 F_seen_18 G_near G_nearEnd B_chosen B_partOf B_rest B_unknowns B_partStart B_cells S_minedSet S_safeSet S_partSet S_tally S_askedTally S_groupOf S_groupSize S_links S_linkEnd S_pick S_groupMinedSet S_groupSafeSet O_sums O_nextSums R_found R_openEnds R_need R_waiting R_waits R_common R_met A_number Q_mined Q_all Q_choices Q_term Q_divisor Q_spare X_limbs X_sum Y_limbs Y_sum) := by
                      intro x1_33 rx1_33 h
                      replace h := hJ_31 x1_33 rx1_33 h
                      obtain ⟨r_34, h⟩ := h
                      refine wa_iinc C (lv' := fun w9 => [(2, .int (iI w9)), (0, .ref (ad 1)), (1, .int (iI x1_33))]) 2 rfl dX2_leastOpenings_96 (by decide) (fun _ => rfl) (fun x2_35 ex2_35 => ?_)
                      replace h := h x2_35 ex2_35
                      have rx2_35 : inR x2_35 := by rw [ex2_35]; exact r_34
                      refine wa_goto C (tgt := 74) dX2_leastOpenings_99 (by decide) ?_
                      obtain ⟨n_36, ln_36, h⟩ := h
                      refine wa_sub C [1, 2, 0] rfl ?_
                      exact ih_24 n_36 ln_36 x1_33 x2_35 rx1_33 rx2_35 h
                    refine wa_if_eq C (tgt := 96) (inR_b bc_30) dX2_leastOpenings_90 (by decide) (fun c_37 => ?_) (fun c_37 => ?_)
                    · replace h := h.1 c_37
                      refine wa_sub C [0, 1, 2] rfl ?_
                      exact k_32 x1_26 rx1_26 h
                    · replace h := h.2 c_37
                      obtain ⟨r_38, h⟩ := h
                      refine wa_iinc C (lv' := fun w9 => [(1, .int (iI w9)), (0, .ref (ad 1)), (2, .int (iI x2_27))]) 1 rfl dX2_leastOpenings_93 (by decide) (fun _ => rfl) (fun x1_39 ex1_39 => ?_)
                      replace h := h x1_39 ex1_39
                      have rx1_39 : inR x1_39 := by rw [ex1_39]; exact r_38
                      refine wa_sub C [1, 0, 2] rfl ?_
                      exact k_32 x1_39 rx1_39 h
              refine wa_sub C [1, 2, 0] rfl ?_
              exact k_25 n_22 x1_15 0 rx1_15 (inR_k 0 rfl) h0Inv_21
            · replace h := h.2 c_20
              refine wa_aload_n C 0 rfl dX2_leastOpenings_41 rfl ?_
              refine wa_getR C 1 2 dW_1 rfl rfl (by decide) okX2 gw_92 dX2_leastOpenings_42 ?_
              refine wa_iload_n C 2 rfl dX2_leastOpenings_45 rfl ?_
              obtain ⟨t_40, h⟩ := h
              refine wa_iald C 13 dW_13 dX2_leastOpenings_46 t_40.1 t_40.2 (fun v_41 ev_41 rv_41 => ?_)
              replace h := h v_41 ev_41 rv_41
              obtain ⟨J_42, h, hJ_42⟩ := h
              have k_43 : ∀ (x1_44 : Int) (F_waiting_45 : Int → Int) (F_seen_46 : Int → Int), inR x1_44 → J_42 x1_44 F_waiting_45 F_seen_46 → WA p l e ({ frames := 6, cells := 0, slots := 0, locals := 360 } : Room) s m args below meth c 0 0 Q K ad 3 A 66 [(0, .ref (ad 1)), (1, .int (iI x1_44)), (2, .int (iI x2_16))] [] (dW D_hasBoard D_beganBlank F_mines F_moves F_changes G_width G_height G_size B_parts B_longest S_groups S_askedGroup S_taken R_waitingCount R_metCount A_grade A_cell A_mined A_withTotal A_numbers X_low X_high Y_low Y_high F_mined F_number F_state F_cellsIn F_unknownNear F_hitNear F_moveStart F_changed F_waiting_45 F_seen_46 G_near G_nearEnd B_chosen B_partOf B_rest B_unknowns B_partStart B_cells S_minedSet S_safeSet S_partSet S_tally S_askedTally S_groupOf S_groupSize S_links S_linkEnd S_pick S_groupMinedSet S_groupSafeSet O_sums O_nextSums R_found R_openEnds R_need R_waiting R_waits R_common R_met A_number Q_mined Q_all Q_choices Q_term Q_divisor Q_spare X_limbs X_sum Y_limbs Y_sum) := by
                intro x1_44 F_waiting_45 F_seen_46 rx1_44 h
                replace h := hJ_42 x1_44 F_waiting_45 F_seen_46 rx1_44 h
                obtain ⟨r_47, h⟩ := h
                refine wa_iinc C (lv' := fun w9 => [(2, .int (iI w9)), (0, .ref (ad 1)), (1, .int (iI x1_44))]) 2 rfl dX2_leastOpenings_66 (by decide) (fun _ => rfl) (fun x2_48 ex2_48 => ?_)
                replace h := h x2_48 ex2_48
                have rx2_48 : inR x2_48 := by rw [ex2_48]; exact r_47
                refine wa_goto C (tgt := 30) dX2_leastOpenings_69 (by decide) ?_
                obtain ⟨n_49, ln_49, h⟩ := h
                refine wa_sub C [1, 2, 0] rfl ?_
                exact ih_13 n_49 ln_49 x1_44 x2_48 F_waiting_45 F_seen_46 rx1_44 rx2_48 h
              refine wa_if_ne C (tgt := 66) rv_41 dX2_leastOpenings_47 (by decide) (fun c_50 => ?_) (fun c_50 => ?_)
              · replace h := h.1 c_50
                refine wa_sub C [0, 1, 2] rfl ?_
                exact k_43 x1_15 F_waiting_17 F_seen_18 rx1_15 h
              · replace h := h.2 c_50
                refine wa_aload_n C 0 rfl dX2_leastOpenings_50 rfl ?_
                refine wa_iload_n C 2 rfl dX2_leastOpenings_51 rfl ?_
                refine wa_callVi C (k := 1) (As := [.int (iI x2_16)]) (rest := []) (c_X2_hasToOpen l K ad x2_16 rx2_16 _ h) gw_1216 gw_1213 dW_1 rfl gw_1215 gs_48 gw_2 q_X2_hasToOpen rfl rfl rfl ⟨by decide, by decide⟩ rfl (Nat.le_of_ble_eq_true rfl) dX2_leastOpenings_52 (fun c_51 u9 rc_51 hp => ?_)
                obtain ⟨bc_51, rfl, h⟩ := hp
                replace h := h bc_51
                refine wa_if_eq C (tgt := 66) (inR_b bc_51) dX2_leastOpenings_55 (by decide) (fun c_52 => ?_) (fun c_52 => ?_)
                · replace h := h.1 c_52
                  refine wa_sub C [0, 1, 2] rfl ?_
                  exact k_43 x1_15 F_waiting_17 F_seen_18 rx1_15 h
                · replace h := h.2 c_52
                  obtain ⟨r_53, h⟩ := h
                  refine wa_iinc C (lv' := fun w9 => [(1, .int (iI w9)), (0, .ref (ad 1)), (2, .int (iI x2_16))]) 1 rfl dX2_leastOpenings_58 (by decide) (fun _ => rfl) (fun x1_54 ex1_54 => ?_)
                  replace h := h x1_54 ex1_54
                  have rx1_54 : inR x1_54 := by rw [ex1_54]; exact r_53
                  refine wa_aload_n C 1 rfl dX2_leastOpenings_61 rfl ?_
                  refine wa_iload_n C 2 rfl dX2_leastOpenings_62 rfl ?_
                  refine wa_callVv C (k := 1) (As := [.int (iI x2_16)]) (rest := []) (c_X2_passZeros l K ad x2_16 rx2_16 _ h) gw_1220 gw_1217 dW_1 rfl gw_1219 gs_49 gw_2 q_X2_passZeros rfl rfl rfl ⟨by decide, by decide⟩ rfl (Nat.le_of_ble_eq_true rfl) dX2_leastOpenings_63 (fun u9 hp => ?_)
                  obtain ⟨F_waiting_55, F_seen_56, rfl, h⟩ := hp
                  refine wa_sub C [1, 0, 2] rfl ?_
                  exact k_43 x1_54 F_waiting_55 F_seen_56 rx1_54 h
        refine wa_sub C [2, 1, 0] rfl ?_
        exact k_14 n_11 0 0 F_waiting F_seen_7 (inR_k 0 rfl) (inR_k 0 rfl) h0Inv_10
      · replace h := h.2 c_9
        refine wa_aload_n C 0 rfl dX2_leastOpenings_13 rfl ?_
        refine wa_getR C 1 13 dW_1 rfl rfl (by decide) okX2 gw_118 dX2_leastOpenings_14 ?_
        refine wa_iload_n C 1 rfl dX2_leastOpenings_17 rfl ?_
        refine wa_iconst C (z := 0) dX2_leastOpenings_18 rfl ?_
        obtain ⟨t_57, h⟩ := h
        refine wa_bast C (ws' := fun w9 => (dW D_hasBoard D_beganBlank F_mines F_moves F_changes G_width G_height G_size B_parts B_longest S_groups S_askedGroup S_taken R_waitingCount R_metCount A_grade A_cell A_mined A_withTotal A_numbers X_low X_high Y_low Y_high F_mined F_number F_state F_cellsIn F_unknownNear F_hitNear F_moveStart F_changed F_waiting w9 G_near G_nearEnd B_chosen B_partOf B_rest B_unknowns B_partStart B_cells S_minedSet S_safeSet S_partSet S_tally S_askedTally S_groupOf S_groupSize S_links S_linkEnd S_pick S_groupMinedSet S_groupSafeSet O_sums O_nextSums R_found R_openEnds R_need R_waiting R_waits R_common R_met A_number Q_mined Q_all Q_choices Q_term Q_divisor Q_spare X_limbs X_sum Y_limbs Y_sum)) 21 dW_21 dX2_leastOpenings_19 t_57.1 t_57.2 (Or.inl rfl) dWs_21 (fun F_seen_58 eF_seen_58 => ?_)
        replace h := h F_seen_58 eF_seen_58
        obtain ⟨r_59, h⟩ := h
        refine wa_iinc C (lv' := fun w9 => [(1, .int (iI w9)), (0, .ref (ad 1))]) 1 rfl dX2_leastOpenings_20 (by decide) (fun _ => rfl) (fun x1_60 ex1_60 => ?_)
        replace h := h x1_60 ex1_60
        have rx1_60 : inR x1_60 := by rw [ex1_60]; exact r_59
        refine wa_goto C (tgt := 2) dX2_leastOpenings_23 (by decide) ?_
        obtain ⟨n_61, ln_61, h⟩ := h
        refine wa_sub C [1, 0] rfl ?_
        exact ih_4 n_61 ln_61 x1_60 F_seen_58 rx1_60 h
  refine wa_sub C [1, 0] rfl ?_
  exact k_5 n_2 0 F_seen (inR_k 0 rfl) h0Inv_1
