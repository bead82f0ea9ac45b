theorem dX12_foundAround_0 : decode cX12_foundAround 0 = .ok (.iconst 0, 1) := by decide +kernel
theorem dX12_foundAround_1 : decode cX12_foundAround 1 = .ok (.istore_n 3, 1) := by decide +kernel
theorem dX12_foundAround_2 : decode cX12_foundAround 2 = .ok (.iconst 0, 1) := by decide +kernel
theorem dX12_foundAround_3 : decode cX12_foundAround 3 = .ok (.istore 4, 2) := by decide +kernel
theorem dX12_foundAround_5 : decode cX12_foundAround 5 = .ok (.iload 4, 2) := by decide +kernel
theorem dX12_foundAround_7 : decode cX12_foundAround 7 = .ok (.aload_n 0, 1) := by decide +kernel
theorem dX12_foundAround_8 : decode cX12_foundAround 8 = .ok (.getfield 13, 3) := by decide +kernel
theorem dX12_foundAround_11 : decode cX12_foundAround 11 = .ok (.iload_n 1, 1) := by decide +kernel
theorem dX12_foundAround_12 : decode cX12_foundAround 12 = .ok (.iaload, 1) := by decide +kernel
theorem dX12_foundAround_13 : decode cX12_foundAround 13 = .ok (.if_icmp .ge 67, 3) := by decide +kernel
theorem dX12_foundAround_16 : decode cX12_foundAround 16 = .ok (.aload_n 0, 1) := by decide +kernel
theorem dX12_foundAround_17 : decode cX12_foundAround 17 = .ok (.getfield 7, 3) := by decide +kernel
theorem dX12_foundAround_20 : decode cX12_foundAround 20 = .ok (.bipush 8, 2) := by decide +kernel
theorem dX12_foundAround_22 : decode cX12_foundAround 22 = .ok (.iload_n 1, 1) := by decide +kernel
theorem dX12_foundAround_23 : decode cX12_foundAround 23 = .ok (.imul, 1) := by decide +kernel
theorem dX12_foundAround_24 : decode cX12_foundAround 24 = .ok (.iload 4, 2) := by decide +kernel
theorem dX12_foundAround_26 : decode cX12_foundAround 26 = .ok (.iadd, 1) := by decide +kernel
theorem dX12_foundAround_27 : decode cX12_foundAround 27 = .ok (.iaload, 1) := by decide +kernel
theorem dX12_foundAround_28 : decode cX12_foundAround 28 = .ok (.istore 5, 2) := by decide +kernel
theorem dX12_foundAround_30 : decode cX12_foundAround 30 = .ok (.iload_n 3, 1) := by decide +kernel
theorem dX12_foundAround_31 : decode cX12_foundAround 31 = .ok (.aload_n 0, 1) := by decide +kernel
theorem dX12_foundAround_32 : decode cX12_foundAround 32 = .ok (.iload 5, 2) := by decide +kernel
theorem dX12_foundAround_34 : decode cX12_foundAround 34 = .ok (.invokevirtual 143, 3) := by decide +kernel
theorem dX12_foundAround_37 : decode cX12_foundAround 37 = .ok (.ifCond .eq 34, 3) := by decide +kernel
theorem dX12_foundAround_40 : decode cX12_foundAround 40 = .ok (.iload_n 2, 1) := by decide +kernel
theorem dX12_foundAround_41 : decode cX12_foundAround 41 = .ok (.ifCond .eq 16, 3) := by decide +kernel
theorem dX12_foundAround_44 : decode cX12_foundAround 44 = .ok (.aload_n 0, 1) := by decide +kernel
theorem dX12_foundAround_45 : decode cX12_foundAround 45 = .ok (.getfield 33, 3) := by decide +kernel
theorem dX12_foundAround_48 : decode cX12_foundAround 48 = .ok (.iload 5, 2) := by decide +kernel
theorem dX12_foundAround_50 : decode cX12_foundAround 50 = .ok (.baload, 1) := by decide +kernel
theorem dX12_foundAround_51 : decode cX12_foundAround 51 = .ok (.ifCond .eq 20, 3) := by decide +kernel
theorem dX12_foundAround_54 : decode cX12_foundAround 54 = .ok (.goto 13, 3) := by decide +kernel
theorem dX12_foundAround_57 : decode cX12_foundAround 57 = .ok (.aload_n 0, 1) := by decide +kernel
theorem dX12_foundAround_58 : decode cX12_foundAround 58 = .ok (.getfield 30, 3) := by decide +kernel
theorem dX12_foundAround_61 : decode cX12_foundAround 61 = .ok (.iload 5, 2) := by decide +kernel
theorem dX12_foundAround_63 : decode cX12_foundAround 63 = .ok (.baload, 1) := by decide +kernel
theorem dX12_foundAround_64 : decode cX12_foundAround 64 = .ok (.ifCond .eq 7, 3) := by decide +kernel
theorem dX12_foundAround_67 : decode cX12_foundAround 67 = .ok (.iconst 1, 1) := by decide +kernel
theorem dX12_foundAround_68 : decode cX12_foundAround 68 = .ok (.goto 4, 3) := by decide +kernel
theorem dX12_foundAround_71 : decode cX12_foundAround 71 = .ok (.iconst 0, 1) := by decide +kernel
theorem dX12_foundAround_72 : decode cX12_foundAround 72 = .ok (.iadd, 1) := by decide +kernel
theorem dX12_foundAround_73 : decode cX12_foundAround 73 = .ok (.istore_n 3, 1) := by decide +kernel
theorem dX12_foundAround_74 : decode cX12_foundAround 74 = .ok (.iinc 4 1, 3) := by decide +kernel
theorem dX12_foundAround_77 : decode cX12_foundAround 77 = .ok (.goto (-72), 3) := by decide +kernel
theorem dX12_foundAround_80 : decode cX12_foundAround 80 = .ok (.iload_n 3, 1) := by decide +kernel
theorem dX12_foundAround_81 : decode cX12_foundAround 81 = .ok (.ireturn, 1) := by decide +kernel
theorem dX12_restOf_0 : decode cX12_restOf 0 = .ok (.aload_n 0, 1) := by decide +kernel
theorem dX12_restOf_1 : decode cX12_restOf 1 = .ok (.iload_n 1, 1) := by decide +kernel
theorem dX12_restOf_2 : decode cX12_restOf 2 = .ok (.invokevirtual 140, 3) := by decide +kernel
theorem dX12_restOf_5 : decode cX12_restOf 5 = .ok (.aload_n 0, 1) := by decide +kernel
theorem dX12_restOf_6 : decode cX12_restOf 6 = .ok (.iload_n 1, 1) := by decide +kernel
theorem dX12_restOf_7 : decode cX12_restOf 7 = .ok (.iconst 3, 1) := by decide +kernel
theorem dX12_restOf_8 : decode cX12_restOf 8 = .ok (.invokevirtual 173, 3) := by decide +kernel
theorem dX12_restOf_11 : decode cX12_restOf 11 = .ok (.isub, 1) := by decide +kernel
theorem dX12_restOf_12 : decode cX12_restOf 12 = .ok (.ireturn, 1) := by decide +kernel
theorem dX12_unknowns_0 : decode cX12_unknowns 0 = .ok (.aload_n 0, 1) := by decide +kernel
theorem dX12_unknowns_1 : decode cX12_unknowns 1 = .ok (.iload_n 1, 1) := by decide +kernel
theorem dX12_unknowns_2 : decode cX12_unknowns 2 = .ok (.iconst 0, 1) := by decide +kernel
theorem dX12_unknowns_3 : decode cX12_unknowns 3 = .ok (.invokevirtual 173, 3) := by decide +kernel
theorem dX12_unknowns_6 : decode cX12_unknowns 6 = .ok (.aload_n 0, 1) := by decide +kernel
theorem dX12_unknowns_7 : decode cX12_unknowns 7 = .ok (.iload_n 1, 1) := by decide +kernel
theorem dX12_unknowns_8 : decode cX12_unknowns 8 = .ok (.iconst 2, 1) := by decide +kernel
theorem dX12_unknowns_9 : decode cX12_unknowns 9 = .ok (.invokevirtual 173, 3) := by decide +kernel
theorem dX12_unknowns_12 : decode cX12_unknowns 12 = .ok (.iadd, 1) := by decide +kernel
theorem dX12_unknowns_13 : decode cX12_unknowns 13 = .ok (.ireturn, 1) := by decide +kernel
theorem dX12_isOpenEnd_0 : decode cX12_isOpenEnd 0 = .ok (.aload_n 0, 1) := by decide +kernel
theorem dX12_isOpenEnd_1 : decode cX12_isOpenEnd 1 = .ok (.iload_n 1, 1) := by decide +kernel
theorem dX12_isOpenEnd_2 : decode cX12_isOpenEnd 2 = .ok (.invokevirtual 143, 3) := by decide +kernel
theorem dX12_isOpenEnd_5 : decode cX12_isOpenEnd 5 = .ok (.ifCond .eq 25, 3) := by decide +kernel
theorem dX12_isOpenEnd_8 : decode cX12_isOpenEnd 8 = .ok (.aload_n 0, 1) := by decide +kernel
theorem dX12_isOpenEnd_9 : decode cX12_isOpenEnd 9 = .ok (.getfield 30, 3) := by decide +kernel
theorem dX12_isOpenEnd_12 : decode cX12_isOpenEnd 12 = .ok (.iload_n 1, 1) := by decide +kernel
theorem dX12_isOpenEnd_13 : decode cX12_isOpenEnd 13 = .ok (.baload, 1) := by decide +kernel
theorem dX12_isOpenEnd_14 : decode cX12_isOpenEnd 14 = .ok (.ifCond .ne 16, 3) := by decide +kernel
theorem dX12_isOpenEnd_17 : decode cX12_isOpenEnd 17 = .ok (.aload_n 0, 1) := by decide +kernel
theorem dX12_isOpenEnd_18 : decode cX12_isOpenEnd 18 = .ok (.getfield 33, 3) := by decide +kernel
theorem dX12_isOpenEnd_21 : decode cX12_isOpenEnd 21 = .ok (.iload_n 1, 1) := by decide +kernel
theorem dX12_isOpenEnd_22 : decode cX12_isOpenEnd 22 = .ok (.baload, 1) := by decide +kernel
theorem dX12_isOpenEnd_23 : decode cX12_isOpenEnd 23 = .ok (.ifCond .ne 7, 3) := by decide +kernel
theorem dX12_isOpenEnd_26 : decode cX12_isOpenEnd 26 = .ok (.iconst 1, 1) := by decide +kernel
theorem dX12_isOpenEnd_27 : decode cX12_isOpenEnd 27 = .ok (.goto 4, 3) := by decide +kernel
theorem dX12_isOpenEnd_30 : decode cX12_isOpenEnd 30 = .ok (.iconst 0, 1) := by decide +kernel
theorem dX12_isOpenEnd_31 : decode cX12_isOpenEnd 31 = .ok (.ireturn, 1) := by decide +kernel
theorem dX12_find_0 : decode cX12_find 0 = .ok (.iconst 0, 1) := by decide +kernel
theorem dX12_find_1 : decode cX12_find 1 = .ok (.istore 4, 2) := by decide +kernel
theorem dX12_find_3 : decode cX12_find 3 = .ok (.iconst 0, 1) := by decide +kernel
theorem dX12_find_4 : decode cX12_find 4 = .ok (.istore 5, 2) := by decide +kernel
theorem dX12_find_6 : decode cX12_find 6 = .ok (.iload 5, 2) := by decide +kernel
theorem dX12_find_8 : decode cX12_find 8 = .ok (.aload_n 0, 1) := by decide +kernel
theorem dX12_find_9 : decode cX12_find 9 = .ok (.getfield 13, 3) := by decide +kernel
theorem dX12_find_12 : decode cX12_find 12 = .ok (.iload_n 1, 1) := by decide +kernel
theorem dX12_find_13 : decode cX12_find 13 = .ok (.iaload, 1) := by decide +kernel
theorem dX12_find_14 : decode cX12_find 14 = .ok (.if_icmp .ge 72, 3) := by decide +kernel
theorem dX12_find_17 : decode cX12_find 17 = .ok (.aload_n 0, 1) := by decide +kernel
theorem dX12_find_18 : decode cX12_find 18 = .ok (.getfield 7, 3) := by decide +kernel
theorem dX12_find_21 : decode cX12_find 21 = .ok (.bipush 8, 2) := by decide +kernel
theorem dX12_find_23 : decode cX12_find 23 = .ok (.iload_n 1, 1) := by decide +kernel
theorem dX12_find_24 : decode cX12_find 24 = .ok (.imul, 1) := by decide +kernel
theorem dX12_find_25 : decode cX12_find 25 = .ok (.iload 5, 2) := by decide +kernel
theorem dX12_find_27 : decode cX12_find 27 = .ok (.iadd, 1) := by decide +kernel
theorem dX12_find_28 : decode cX12_find 28 = .ok (.iaload, 1) := by decide +kernel
theorem dX12_find_29 : decode cX12_find 29 = .ok (.istore 6, 2) := by decide +kernel
theorem dX12_find_31 : decode cX12_find 31 = .ok (.aload_n 0, 1) := by decide +kernel
theorem dX12_find_32 : decode cX12_find 32 = .ok (.iload 6, 2) := by decide +kernel
theorem dX12_find_34 : decode cX12_find 34 = .ok (.invokevirtual 217, 3) := by decide +kernel
theorem dX12_find_37 : decode cX12_find 37 = .ok (.ifCond .eq 43, 3) := by decide +kernel
theorem dX12_find_40 : decode cX12_find 40 = .ok (.iload_n 2, 1) := by decide +kernel
theorem dX12_find_41 : decode cX12_find 41 = .ok (.ifCond .lt 13, 3) := by decide +kernel
theorem dX12_find_44 : decode cX12_find 44 = .ok (.aload_n 0, 1) := by decide +kernel
theorem dX12_find_45 : decode cX12_find 45 = .ok (.iload_n 2, 1) := by decide +kernel
theorem dX12_find_46 : decode cX12_find 46 = .ok (.iload 6, 2) := by decide +kernel
theorem dX12_find_48 : decode cX12_find 48 = .ok (.invokevirtual 103, 3) := by decide +kernel
theorem dX12_find_51 : decode cX12_find 51 = .ok (.ifCond .ne 29, 3) := by decide +kernel
theorem dX12_find_54 : decode cX12_find 54 = .ok (.iload_n 3, 1) := by decide +kernel
theorem dX12_find_55 : decode cX12_find 55 = .ok (.ifCond .eq 14, 3) := by decide +kernel
theorem dX12_find_58 : decode cX12_find 58 = .ok (.aload_n 0, 1) := by decide +kernel
theorem dX12_find_59 : decode cX12_find 59 = .ok (.getfield 33, 3) := by decide +kernel
theorem dX12_find_62 : decode cX12_find 62 = .ok (.iload 6, 2) := by decide +kernel
theorem dX12_find_64 : decode cX12_find 64 = .ok (.iconst 1, 1) := by decide +kernel
theorem dX12_find_65 : decode cX12_find 65 = .ok (.bastore, 1) := by decide +kernel
theorem dX12_find_66 : decode cX12_find 66 = .ok (.goto 11, 3) := by decide +kernel
theorem dX12_find_69 : decode cX12_find 69 = .ok (.aload_n 0, 1) := by decide +kernel
theorem dX12_find_70 : decode cX12_find 70 = .ok (.getfield 30, 3) := by decide +kernel
theorem dX12_find_73 : decode cX12_find 73 = .ok (.iload 6, 2) := by decide +kernel
theorem dX12_find_75 : decode cX12_find 75 = .ok (.iconst 1, 1) := by decide +kernel
theorem dX12_find_76 : decode cX12_find 76 = .ok (.bastore, 1) := by decide +kernel
theorem dX12_find_77 : decode cX12_find 77 = .ok (.iconst 1, 1) := by decide +kernel
theorem dX12_find_78 : decode cX12_find 78 = .ok (.istore 4, 2) := by decide +kernel
theorem dX12_find_80 : decode cX12_find 80 = .ok (.iinc 5 1, 3) := by decide +kernel
theorem dX12_find_83 : decode cX12_find 83 = .ok (.goto (-77), 3) := by decide +kernel
theorem dX12_find_86 : decode cX12_find 86 = .ok (.iload 4, 2) := by decide +kernel
theorem dX12_find_88 : decode cX12_find 88 = .ok (.ireturn, 1) := by decide +kernel
theorem dX12_byOne_0 : decode cX12_byOne 0 = .ok (.aload_n 0, 1) := by decide +kernel
theorem dX12_byOne_1 : decode cX12_byOne 1 = .ok (.iload_n 1, 1) := by decide +kernel
theorem dX12_byOne_2 : decode cX12_byOne 2 = .ok (.iconst 1, 1) := by decide +kernel
theorem dX12_byOne_3 : decode cX12_byOne 3 = .ok (.invokevirtual 220, 3) := by decide +kernel
theorem dX12_byOne_6 : decode cX12_byOne 6 = .ok (.aload_n 0, 1) := by decide +kernel
theorem dX12_byOne_7 : decode cX12_byOne 7 = .ok (.iload_n 1, 1) := by decide +kernel
theorem dX12_byOne_8 : decode cX12_byOne 8 = .ok (.invokevirtual 224, 3) := by decide +kernel
theorem dX12_byOne_11 : decode cX12_byOne 11 = .ok (.if_icmp .ne 11, 3) := by decide +kernel
theorem dX12_byOne_14 : decode cX12_byOne 14 = .ok (.aload_n 0, 1) := by decide +kernel
theorem dX12_byOne_15 : decode cX12_byOne 15 = .ok (.iload_n 1, 1) := by decide +kernel
theorem dX12_byOne_16 : decode cX12_byOne 16 = .ok (.iconst (-1), 1) := by decide +kernel
theorem dX12_byOne_17 : decode cX12_byOne 17 = .ok (.iconst 0, 1) := by decide +kernel
theorem dX12_byOne_18 : decode cX12_byOne 18 = .ok (.invokevirtual 227, 3) := by decide +kernel
theorem dX12_byOne_21 : decode cX12_byOne 21 = .ok (.ireturn, 1) := by decide +kernel
theorem dX12_byOne_22 : decode cX12_byOne 22 = .ok (.aload_n 0, 1) := by decide +kernel
theorem dX12_byOne_23 : decode cX12_byOne 23 = .ok (.iload_n 1, 1) := by decide +kernel
theorem dX12_byOne_24 : decode cX12_byOne 24 = .ok (.invokevirtual 231, 3) := by decide +kernel
theorem dX12_byOne_27 : decode cX12_byOne 27 = .ok (.aload_n 0, 1) := by decide +kernel
theorem dX12_byOne_28 : decode cX12_byOne 28 = .ok (.iload_n 1, 1) := by decide +kernel
theorem dX12_byOne_29 : decode cX12_byOne 29 = .ok (.iconst 0, 1) := by decide +kernel
theorem dX12_byOne_30 : decode cX12_byOne 30 = .ok (.invokevirtual 220, 3) := by decide +kernel
theorem dX12_byOne_33 : decode cX12_byOne 33 = .ok (.isub, 1) := by decide +kernel
theorem dX12_byOne_34 : decode cX12_byOne 34 = .ok (.aload_n 0, 1) := by decide +kernel
theorem dX12_byOne_35 : decode cX12_byOne 35 = .ok (.iload_n 1, 1) := by decide +kernel
theorem dX12_byOne_36 : decode cX12_byOne 36 = .ok (.invokevirtual 224, 3) := by decide +kernel
theorem dX12_byOne_39 : decode cX12_byOne 39 = .ok (.if_icmp .ne 11, 3) := by decide +kernel
theorem dX12_byOne_42 : decode cX12_byOne 42 = .ok (.aload_n 0, 1) := by decide +kernel
theorem dX12_byOne_43 : decode cX12_byOne 43 = .ok (.iload_n 1, 1) := by decide +kernel
theorem dX12_byOne_44 : decode cX12_byOne 44 = .ok (.iconst (-1), 1) := by decide +kernel
theorem dX12_byOne_45 : decode cX12_byOne 45 = .ok (.iconst 1, 1) := by decide +kernel
theorem dX12_byOne_46 : decode cX12_byOne 46 = .ok (.invokevirtual 227, 3) := by decide +kernel
theorem dX12_byOne_49 : decode cX12_byOne 49 = .ok (.ireturn, 1) := by decide +kernel
theorem dX12_byOne_50 : decode cX12_byOne 50 = .ok (.iconst 0, 1) := by decide +kernel
theorem dX12_byOne_51 : decode cX12_byOne 51 = .ok (.ireturn, 1) := by decide +kernel
theorem dX12_endsBeside_0 : decode cX12_endsBeside 0 = .ok (.iconst 0, 1) := by decide +kernel
theorem dX12_endsBeside_1 : decode cX12_endsBeside 1 = .ok (.istore_n 3, 1) := by decide +kernel
theorem dX12_endsBeside_2 : decode cX12_endsBeside 2 = .ok (.iconst 0, 1) := by decide +kernel
theorem dX12_endsBeside_3 : decode cX12_endsBeside 3 = .ok (.istore 4, 2) := by decide +kernel
theorem dX12_endsBeside_5 : decode cX12_endsBeside 5 = .ok (.iload 4, 2) := by decide +kernel
theorem dX12_endsBeside_7 : decode cX12_endsBeside 7 = .ok (.aload_n 0, 1) := by decide +kernel
theorem dX12_endsBeside_8 : decode cX12_endsBeside 8 = .ok (.getfield 13, 3) := by decide +kernel
theorem dX12_endsBeside_11 : decode cX12_endsBeside 11 = .ok (.iload_n 1, 1) := by decide +kernel
theorem dX12_endsBeside_12 : decode cX12_endsBeside 12 = .ok (.iaload, 1) := by decide +kernel
theorem dX12_endsBeside_13 : decode cX12_endsBeside 13 = .ok (.if_icmp .ge 54, 3) := by decide +kernel
theorem dX12_endsBeside_16 : decode cX12_endsBeside 16 = .ok (.aload_n 0, 1) := by decide +kernel
theorem dX12_endsBeside_17 : decode cX12_endsBeside 17 = .ok (.getfield 7, 3) := by decide +kernel
theorem dX12_endsBeside_20 : decode cX12_endsBeside 20 = .ok (.bipush 8, 2) := by decide +kernel
theorem dX12_endsBeside_22 : decode cX12_endsBeside 22 = .ok (.iload_n 1, 1) := by decide +kernel
theorem dX12_endsBeside_23 : decode cX12_endsBeside 23 = .ok (.imul, 1) := by decide +kernel
theorem dX12_endsBeside_24 : decode cX12_endsBeside 24 = .ok (.iload 4, 2) := by decide +kernel
theorem dX12_endsBeside_26 : decode cX12_endsBeside 26 = .ok (.iadd, 1) := by decide +kernel
theorem dX12_endsBeside_27 : decode cX12_endsBeside 27 = .ok (.iaload, 1) := by decide +kernel
theorem dX12_endsBeside_28 : decode cX12_endsBeside 28 = .ok (.istore 5, 2) := by decide +kernel
theorem dX12_endsBeside_30 : decode cX12_endsBeside 30 = .ok (.iload_n 3, 1) := by decide +kernel
theorem dX12_endsBeside_31 : decode cX12_endsBeside 31 = .ok (.aload_n 0, 1) := by decide +kernel
theorem dX12_endsBeside_32 : decode cX12_endsBeside 32 = .ok (.iload 5, 2) := by decide +kernel
theorem dX12_endsBeside_34 : decode cX12_endsBeside 34 = .ok (.invokevirtual 217, 3) := by decide +kernel
theorem dX12_endsBeside_37 : decode cX12_endsBeside 37 = .ok (.ifCond .eq 21, 3) := by decide +kernel
theorem dX12_endsBeside_40 : decode cX12_endsBeside 40 = .ok (.iload_n 2, 1) := by decide +kernel
theorem dX12_endsBeside_41 : decode cX12_endsBeside 41 = .ok (.ifCond .lt 13, 3) := by decide +kernel
theorem dX12_endsBeside_44 : decode cX12_endsBeside 44 = .ok (.aload_n 0, 1) := by decide +kernel
theorem dX12_endsBeside_45 : decode cX12_endsBeside 45 = .ok (.iload_n 2, 1) := by decide +kernel
theorem dX12_endsBeside_46 : decode cX12_endsBeside 46 = .ok (.iload 5, 2) := by decide +kernel
theorem dX12_endsBeside_48 : decode cX12_endsBeside 48 = .ok (.invokevirtual 103, 3) := by decide +kernel
theorem dX12_endsBeside_51 : decode cX12_endsBeside 51 = .ok (.ifCond .ne 7, 3) := by decide +kernel
theorem dX12_endsBeside_54 : decode cX12_endsBeside 54 = .ok (.iconst 1, 1) := by decide +kernel
theorem dX12_endsBeside_55 : decode cX12_endsBeside 55 = .ok (.goto 4, 3) := by decide +kernel
theorem dX12_endsBeside_58 : decode cX12_endsBeside 58 = .ok (.iconst 0, 1) := by decide +kernel
theorem dX12_endsBeside_59 : decode cX12_endsBeside 59 = .ok (.iadd, 1) := by decide +kernel
theorem dX12_endsBeside_60 : decode cX12_endsBeside 60 = .ok (.istore_n 3, 1) := by decide +kernel
theorem dX12_endsBeside_61 : decode cX12_endsBeside 61 = .ok (.iinc 4 1, 3) := by decide +kernel
theorem dX12_endsBeside_64 : decode cX12_endsBeside 64 = .ok (.goto (-59), 3) := by decide +kernel
theorem dX12_endsBeside_67 : decode cX12_endsBeside 67 = .ok (.iload_n 3, 1) := by decide +kernel
theorem dX12_endsBeside_68 : decode cX12_endsBeside 68 = .ok (.ireturn, 1) := by decide +kernel
theorem dX12_byTwo_0 : decode cX12_byTwo 0 = .ok (.aload_n 0, 1) := by decide +kernel
theorem dX12_byTwo_1 : decode cX12_byTwo 1 = .ok (.iload_n 1, 1) := by decide +kernel
theorem dX12_byTwo_2 : decode cX12_byTwo 2 = .ok (.iload_n 2, 1) := by decide +kernel
theorem dX12_byTwo_3 : decode cX12_byTwo 3 = .ok (.invokevirtual 234, 3) := by decide +kernel
theorem dX12_byTwo_6 : decode cX12_byTwo 6 = .ok (.ifCond .le 5, 3) := by decide +kernel
theorem dX12_byTwo_9 : decode cX12_byTwo 9 = .ok (.iconst 0, 1) := by decide +kernel
theorem dX12_byTwo_10 : decode cX12_byTwo 10 = .ok (.ireturn, 1) := by decide +kernel
theorem dX12_byTwo_11 : decode cX12_byTwo 11 = .ok (.aload_n 0, 1) := by decide +kernel
theorem dX12_byTwo_12 : decode cX12_byTwo 12 = .ok (.iload_n 1, 1) := by decide +kernel
theorem dX12_byTwo_13 : decode cX12_byTwo 13 = .ok (.invokevirtual 224, 3) := by decide +kernel
theorem dX12_byTwo_16 : decode cX12_byTwo 16 = .ok (.aload_n 0, 1) := by decide +kernel
theorem dX12_byTwo_17 : decode cX12_byTwo 17 = .ok (.iload_n 1, 1) := by decide +kernel
theorem dX12_byTwo_18 : decode cX12_byTwo 18 = .ok (.iconst 1, 1) := by decide +kernel
theorem dX12_byTwo_19 : decode cX12_byTwo 19 = .ok (.invokevirtual 220, 3) := by decide +kernel
theorem dX12_byTwo_22 : decode cX12_byTwo 22 = .ok (.isub, 1) := by decide +kernel
theorem dX12_byTwo_23 : decode cX12_byTwo 23 = .ok (.istore_n 3, 1) := by decide +kernel
theorem dX12_byTwo_24 : decode cX12_byTwo 24 = .ok (.aload_n 0, 1) := by decide +kernel
theorem dX12_byTwo_25 : decode cX12_byTwo 25 = .ok (.iload_n 2, 1) := by decide +kernel
theorem dX12_byTwo_26 : decode cX12_byTwo 26 = .ok (.invokevirtual 224, 3) := by decide +kernel
theorem dX12_byTwo_29 : decode cX12_byTwo 29 = .ok (.aload_n 0, 1) := by decide +kernel
theorem dX12_byTwo_30 : decode cX12_byTwo 30 = .ok (.iload_n 2, 1) := by decide +kernel
theorem dX12_byTwo_31 : decode cX12_byTwo 31 = .ok (.iconst 1, 1) := by decide +kernel
theorem dX12_byTwo_32 : decode cX12_byTwo 32 = .ok (.invokevirtual 220, 3) := by decide +kernel
theorem dX12_byTwo_35 : decode cX12_byTwo 35 = .ok (.isub, 1) := by decide +kernel
theorem dX12_byTwo_36 : decode cX12_byTwo 36 = .ok (.istore 4, 2) := by decide +kernel
theorem dX12_byTwo_38 : decode cX12_byTwo 38 = .ok (.aload_n 0, 1) := by decide +kernel
theorem dX12_byTwo_39 : decode cX12_byTwo 39 = .ok (.iload_n 2, 1) := by decide +kernel
theorem dX12_byTwo_40 : decode cX12_byTwo 40 = .ok (.iload_n 1, 1) := by decide +kernel
theorem dX12_byTwo_41 : decode cX12_byTwo 41 = .ok (.invokevirtual 234, 3) := by decide +kernel
theorem dX12_byTwo_44 : decode cX12_byTwo 44 = .ok (.istore 5, 2) := by decide +kernel
theorem dX12_byTwo_46 : decode cX12_byTwo 46 = .ok (.iload_n 3, 1) := by decide +kernel
theorem dX12_byTwo_47 : decode cX12_byTwo 47 = .ok (.iload 4, 2) := by decide +kernel
theorem dX12_byTwo_49 : decode cX12_byTwo 49 = .ok (.if_icmp .ne 11, 3) := by decide +kernel
theorem dX12_byTwo_52 : decode cX12_byTwo 52 = .ok (.aload_n 0, 1) := by decide +kernel
theorem dX12_byTwo_53 : decode cX12_byTwo 53 = .ok (.iload_n 2, 1) := by decide +kernel
theorem dX12_byTwo_54 : decode cX12_byTwo 54 = .ok (.iload_n 1, 1) := by decide +kernel
theorem dX12_byTwo_55 : decode cX12_byTwo 55 = .ok (.iconst 0, 1) := by decide +kernel
theorem dX12_byTwo_56 : decode cX12_byTwo 56 = .ok (.invokevirtual 227, 3) := by decide +kernel
theorem dX12_byTwo_59 : decode cX12_byTwo 59 = .ok (.ireturn, 1) := by decide +kernel
theorem dX12_byTwo_60 : decode cX12_byTwo 60 = .ok (.iload 4, 2) := by decide +kernel
theorem dX12_byTwo_62 : decode cX12_byTwo 62 = .ok (.iload_n 3, 1) := by decide +kernel
theorem dX12_byTwo_63 : decode cX12_byTwo 63 = .ok (.isub, 1) := by decide +kernel
theorem dX12_byTwo_64 : decode cX12_byTwo 64 = .ok (.iload 5, 2) := by decide +kernel
theorem dX12_byTwo_66 : decode cX12_byTwo 66 = .ok (.if_icmp .ne 17, 3) := by decide +kernel
theorem dX12_byTwo_69 : decode cX12_byTwo 69 = .ok (.aload_n 0, 1) := by decide +kernel
theorem dX12_byTwo_70 : decode cX12_byTwo 70 = .ok (.iload_n 2, 1) := by decide +kernel
theorem dX12_byTwo_71 : decode cX12_byTwo 71 = .ok (.iload_n 1, 1) := by decide +kernel
theorem dX12_byTwo_72 : decode cX12_byTwo 72 = .ok (.iconst 1, 1) := by decide +kernel
theorem dX12_byTwo_73 : decode cX12_byTwo 73 = .ok (.invokevirtual 227, 3) := by decide +kernel
theorem dX12_byTwo_76 : decode cX12_byTwo 76 = .ok (.ifCond .eq 7, 3) := by decide +kernel
theorem dX12_byTwo_79 : decode cX12_byTwo 79 = .ok (.iconst 1, 1) := by decide +kernel
theorem dX12_byTwo_80 : decode cX12_byTwo 80 = .ok (.goto 4, 3) := by decide +kernel
theorem dX12_byTwo_83 : decode cX12_byTwo 83 = .ok (.iconst 0, 1) := by decide +kernel
theorem dX12_byTwo_84 : decode cX12_byTwo 84 = .ok (.ireturn, 1) := by decide +kernel
theorem dX12_findByRules_0 : decode cX12_findByRules 0 = .ok (.iconst 0, 1) := by decide +kernel
theorem dX12_findByRules_1 : decode cX12_findByRules 1 = .ok (.istore_n 2, 1) := by decide +kernel
theorem dX12_findByRules_2 : decode cX12_findByRules 2 = .ok (.iload_n 2, 1) := by decide +kernel
theorem dX12_findByRules_3 : decode cX12_findByRules 3 = .ok (.aload_n 0, 1) := by decide +kernel
theorem dX12_findByRules_4 : decode cX12_findByRules 4 = .ok (.getfield 100, 3) := by decide +kernel
theorem dX12_findByRules_7 : decode cX12_findByRules 7 = .ok (.if_icmp .ge 23, 3) := by decide +kernel
theorem dX12_findByRules_10 : decode cX12_findByRules 10 = .ok (.aload_n 0, 1) := by decide +kernel
theorem dX12_findByRules_11 : decode cX12_findByRules 11 = .ok (.getfield 30, 3) := by decide +kernel
theorem dX12_findByRules_14 : decode cX12_findByRules 14 = .ok (.iload_n 2, 1) := by decide +kernel
theorem dX12_findByRules_15 : decode cX12_findByRules 15 = .ok (.iconst 0, 1) := by decide +kernel
theorem dX12_findByRules_16 : decode cX12_findByRules 16 = .ok (.bastore, 1) := by decide +kernel
theorem dX12_findByRules_17 : decode cX12_findByRules 17 = .ok (.aload_n 0, 1) := by decide +kernel
theorem dX12_findByRules_18 : decode cX12_findByRules 18 = .ok (.getfield 33, 3) := by decide +kernel
theorem dX12_findByRules_21 : decode cX12_findByRules 21 = .ok (.iload_n 2, 1) := by decide +kernel
theorem dX12_findByRules_22 : decode cX12_findByRules 22 = .ok (.iconst 0, 1) := by decide +kernel
theorem dX12_findByRules_23 : decode cX12_findByRules 23 = .ok (.bastore, 1) := by decide +kernel
theorem dX12_findByRules_24 : decode cX12_findByRules 24 = .ok (.iinc 2 1, 3) := by decide +kernel
theorem dX12_findByRules_27 : decode cX12_findByRules 27 = .ok (.goto (-25), 3) := by decide +kernel
theorem dX12_findByRules_30 : decode cX12_findByRules 30 = .ok (.iconst 1, 1) := by decide +kernel
theorem dX12_findByRules_31 : decode cX12_findByRules 31 = .ok (.istore_n 2, 1) := by decide +kernel
theorem dX12_findByRules_32 : decode cX12_findByRules 32 = .ok (.iload_n 2, 1) := by decide +kernel
theorem dX12_findByRules_33 : decode cX12_findByRules 33 = .ok (.ifCond .eq 121, 3) := by decide +kernel
theorem dX12_findByRules_36 : decode cX12_findByRules 36 = .ok (.iconst 0, 1) := by decide +kernel
theorem dX12_findByRules_37 : decode cX12_findByRules 37 = .ok (.istore_n 2, 1) := by decide +kernel
theorem dX12_findByRules_38 : decode cX12_findByRules 38 = .ok (.iconst 0, 1) := by decide +kernel
theorem dX12_findByRules_39 : decode cX12_findByRules 39 = .ok (.istore_n 3, 1) := by decide +kernel
theorem dX12_findByRules_40 : decode cX12_findByRules 40 = .ok (.iload_n 3, 1) := by decide +kernel
theorem dX12_findByRules_41 : decode cX12_findByRules 41 = .ok (.aload_n 0, 1) := by decide +kernel
theorem dX12_findByRules_42 : decode cX12_findByRules 42 = .ok (.getfield 100, 3) := by decide +kernel
theorem dX12_findByRules_45 : decode cX12_findByRules 45 = .ok (.if_icmp .ge 106, 3) := by decide +kernel
theorem dX12_findByRules_48 : decode cX12_findByRules 48 = .ok (.aload_n 0, 1) := by decide +kernel
theorem dX12_findByRules_49 : decode cX12_findByRules 49 = .ok (.getfield 20, 3) := by decide +kernel
theorem dX12_findByRules_52 : decode cX12_findByRules 52 = .ok (.iload_n 3, 1) := by decide +kernel
theorem dX12_findByRules_53 : decode cX12_findByRules 53 = .ok (.iaload, 1) := by decide +kernel
theorem dX12_findByRules_54 : decode cX12_findByRules 54 = .ok (.iconst 1, 1) := by decide +kernel
theorem dX12_findByRules_55 : decode cX12_findByRules 55 = .ok (.if_icmp .ne 21, 3) := by decide +kernel
theorem dX12_findByRules_58 : decode cX12_findByRules 58 = .ok (.aload_n 0, 1) := by decide +kernel
theorem dX12_findByRules_59 : decode cX12_findByRules 59 = .ok (.iload_n 3, 1) := by decide +kernel
theorem dX12_findByRules_60 : decode cX12_findByRules 60 = .ok (.invokevirtual 237, 3) := by decide +kernel
theorem dX12_findByRules_63 : decode cX12_findByRules 63 = .ok (.ifCond .ne 7, 3) := by decide +kernel
theorem dX12_findByRules_66 : decode cX12_findByRules 66 = .ok (.iload_n 2, 1) := by decide +kernel
theorem dX12_findByRules_67 : decode cX12_findByRules 67 = .ok (.ifCond .eq 7, 3) := by decide +kernel
theorem dX12_findByRules_70 : decode cX12_findByRules 70 = .ok (.iconst 1, 1) := by decide +kernel
theorem dX12_findByRules_71 : decode cX12_findByRules 71 = .ok (.goto 4, 3) := by decide +kernel
theorem dX12_findByRules_74 : decode cX12_findByRules 74 = .ok (.iconst 0, 1) := by decide +kernel
theorem dX12_findByRules_75 : decode cX12_findByRules 75 = .ok (.istore_n 2, 1) := by decide +kernel
theorem dX12_findByRules_76 : decode cX12_findByRules 76 = .ok (.iconst 0, 1) := by decide +kernel
theorem dX12_findByRules_77 : decode cX12_findByRules 77 = .ok (.istore 4, 2) := by decide +kernel
theorem dX12_findByRules_79 : decode cX12_findByRules 79 = .ok (.iload 4, 2) := by decide +kernel
theorem dX12_findByRules_81 : decode cX12_findByRules 81 = .ok (.aload_n 0, 1) := by decide +kernel
theorem dX12_findByRules_82 : decode cX12_findByRules 82 = .ok (.getfield 100, 3) := by decide +kernel
theorem dX12_findByRules_85 : decode cX12_findByRules 85 = .ok (.if_icmp .ge 60, 3) := by decide +kernel
theorem dX12_findByRules_88 : decode cX12_findByRules 88 = .ok (.iload_n 1, 1) := by decide +kernel
theorem dX12_findByRules_89 : decode cX12_findByRules 89 = .ok (.ifCond .eq 56, 3) := by decide +kernel
theorem dX12_findByRules_92 : decode cX12_findByRules 92 = .ok (.aload_n 0, 1) := by decide +kernel
theorem dX12_findByRules_93 : decode cX12_findByRules 93 = .ok (.getfield 20, 3) := by decide +kernel
theorem dX12_findByRules_96 : decode cX12_findByRules 96 = .ok (.iload_n 3, 1) := by decide +kernel
theorem dX12_findByRules_97 : decode cX12_findByRules 97 = .ok (.iaload, 1) := by decide +kernel
theorem dX12_findByRules_98 : decode cX12_findByRules 98 = .ok (.iconst 1, 1) := by decide +kernel
theorem dX12_findByRules_99 : decode cX12_findByRules 99 = .ok (.if_icmp .ne 46, 3) := by decide +kernel
theorem dX12_findByRules_102 : decode cX12_findByRules 102 = .ok (.iload 4, 2) := by decide +kernel
theorem dX12_findByRules_104 : decode cX12_findByRules 104 = .ok (.iload_n 3, 1) := by decide +kernel
theorem dX12_findByRules_105 : decode cX12_findByRules 105 = .ok (.if_icmp .eq 34, 3) := by decide +kernel
theorem dX12_findByRules_108 : decode cX12_findByRules 108 = .ok (.aload_n 0, 1) := by decide +kernel
theorem dX12_findByRules_109 : decode cX12_findByRules 109 = .ok (.getfield 20, 3) := by decide +kernel
theorem dX12_findByRules_112 : decode cX12_findByRules 112 = .ok (.iload 4, 2) := by decide +kernel
theorem dX12_findByRules_114 : decode cX12_findByRules 114 = .ok (.iaload, 1) := by decide +kernel
theorem dX12_findByRules_115 : decode cX12_findByRules 115 = .ok (.iconst 1, 1) := by decide +kernel
theorem dX12_findByRules_116 : decode cX12_findByRules 116 = .ok (.if_icmp .ne 23, 3) := by decide +kernel
theorem dX12_findByRules_119 : decode cX12_findByRules 119 = .ok (.aload_n 0, 1) := by decide +kernel
theorem dX12_findByRules_120 : decode cX12_findByRules 120 = .ok (.iload_n 3, 1) := by decide +kernel
theorem dX12_findByRules_121 : decode cX12_findByRules 121 = .ok (.iload 4, 2) := by decide +kernel
theorem dX12_findByRules_123 : decode cX12_findByRules 123 = .ok (.invokevirtual 240, 3) := by decide +kernel
theorem dX12_findByRules_126 : decode cX12_findByRules 126 = .ok (.ifCond .ne 7, 3) := by decide +kernel
theorem dX12_findByRules_129 : decode cX12_findByRules 129 = .ok (.iload_n 2, 1) := by decide +kernel
theorem dX12_findByRules_130 : decode cX12_findByRules 130 = .ok (.ifCond .eq 7, 3) := by decide +kernel
theorem dX12_findByRules_133 : decode cX12_findByRules 133 = .ok (.iconst 1, 1) := by decide +kernel
theorem dX12_findByRules_134 : decode cX12_findByRules 134 = .ok (.goto 4, 3) := by decide +kernel
theorem dX12_findByRules_137 : decode cX12_findByRules 137 = .ok (.iconst 0, 1) := by decide +kernel
theorem dX12_findByRules_138 : decode cX12_findByRules 138 = .ok (.istore_n 2, 1) := by decide +kernel
theorem dX12_findByRules_139 : decode cX12_findByRules 139 = .ok (.iinc 4 1, 3) := by decide +kernel
theorem dX12_findByRules_142 : decode cX12_findByRules 142 = .ok (.goto (-63), 3) := by decide +kernel
theorem dX12_findByRules_145 : decode cX12_findByRules 145 = .ok (.iinc 3 1, 3) := by decide +kernel
theorem dX12_findByRules_148 : decode cX12_findByRules 148 = .ok (.goto (-108), 3) := by decide +kernel
theorem dX12_findByRules_151 : decode cX12_findByRules 151 = .ok (.goto (-119), 3) := by decide +kernel
theorem dX12_findByRules_154 : decode cX12_findByRules 154 = .ok (.return_, 1) := by decide +kernel
theorem dX12_useAll_0 : decode cX12_useAll 0 = .ok (.iconst 0, 1) := by decide +kernel
theorem dX12_useAll_1 : decode cX12_useAll 1 = .ok (.istore_n 1, 1) := by decide +kernel
theorem dX12_useAll_2 : decode cX12_useAll 2 = .ok (.iload_n 1, 1) := by decide +kernel
theorem dX12_useAll_3 : decode cX12_useAll 3 = .ok (.aload_n 0, 1) := by decide +kernel
theorem dX12_useAll_4 : decode cX12_useAll 4 = .ok (.getfield 100, 3) := by decide +kernel
theorem dX12_useAll_7 : decode cX12_useAll 7 = .ok (.if_icmp .ge 38, 3) := by decide +kernel
theorem dX12_useAll_10 : decode cX12_useAll 10 = .ok (.aload_n 0, 1) := by decide +kernel
theorem dX12_useAll_11 : decode cX12_useAll 11 = .ok (.getfield 36, 3) := by decide +kernel
theorem dX12_useAll_14 : decode cX12_useAll 14 = .ok (.iload_n 1, 1) := by decide +kernel
theorem dX12_useAll_15 : decode cX12_useAll 15 = .ok (.aload_n 0, 1) := by decide +kernel
theorem dX12_useAll_16 : decode cX12_useAll 16 = .ok (.getfield 20, 3) := by decide +kernel
theorem dX12_useAll_19 : decode cX12_useAll 19 = .ok (.iload_n 1, 1) := by decide +kernel
theorem dX12_useAll_20 : decode cX12_useAll 20 = .ok (.iaload, 1) := by decide +kernel
theorem dX12_useAll_21 : decode cX12_useAll 21 = .ok (.iconst 1, 1) := by decide +kernel
theorem dX12_useAll_22 : decode cX12_useAll 22 = .ok (.if_icmp .ne 15, 3) := by decide +kernel
theorem dX12_useAll_25 : decode cX12_useAll 25 = .ok (.aload_n 0, 1) := by decide +kernel
theorem dX12_useAll_26 : decode cX12_useAll 26 = .ok (.iload_n 1, 1) := by decide +kernel
theorem dX12_useAll_27 : decode cX12_useAll 27 = .ok (.invokevirtual 231, 3) := by decide +kernel
theorem dX12_useAll_30 : decode cX12_useAll 30 = .ok (.ifCond .le 7, 3) := by decide +kernel
theorem dX12_useAll_33 : decode cX12_useAll 33 = .ok (.iconst 1, 1) := by decide +kernel
theorem dX12_useAll_34 : decode cX12_useAll 34 = .ok (.goto 4, 3) := by decide +kernel
theorem dX12_useAll_37 : decode cX12_useAll 37 = .ok (.iconst 0, 1) := by decide +kernel
theorem dX12_useAll_38 : decode cX12_useAll 38 = .ok (.bastore, 1) := by decide +kernel
theorem dX12_useAll_39 : decode cX12_useAll 39 = .ok (.iinc 1 1, 3) := by decide +kernel
theorem dX12_useAll_42 : decode cX12_useAll 42 = .ok (.goto (-40), 3) := by decide +kernel
theorem dX12_useAll_45 : decode cX12_useAll 45 = .ok (.return_, 1) := by decide +kernel
theorem dX12_joinAround_0 : decode cX12_joinAround 0 = .ok (.sipush 1000, 3) := by decide +kernel
theorem dX12_joinAround_3 : decode cX12_joinAround 3 = .ok (.iload_n 1, 1) := by decide +kernel
theorem dX12_joinAround_4 : decode cX12_joinAround 4 = .ok (.iadd, 1) := by decide +kernel
theorem dX12_joinAround_5 : decode cX12_joinAround 5 = .ok (.istore_n 2, 1) := by decide +kernel
theorem dX12_joinAround_6 : decode cX12_joinAround 6 = .ok (.iconst 0, 1) := by decide +kernel
theorem dX12_joinAround_7 : decode cX12_joinAround 7 = .ok (.istore_n 3, 1) := by decide +kernel
theorem dX12_joinAround_8 : decode cX12_joinAround 8 = .ok (.iload_n 3, 1) := by decide +kernel
theorem dX12_joinAround_9 : decode cX12_joinAround 9 = .ok (.aload_n 0, 1) := by decide +kernel
theorem dX12_joinAround_10 : decode cX12_joinAround 10 = .ok (.getfield 13, 3) := by decide +kernel
theorem dX12_joinAround_13 : decode cX12_joinAround 13 = .ok (.iload_n 1, 1) := by decide +kernel
theorem dX12_joinAround_14 : decode cX12_joinAround 14 = .ok (.iaload, 1) := by decide +kernel
theorem dX12_joinAround_15 : decode cX12_joinAround 15 = .ok (.if_icmp .ge 101, 3) := by decide +kernel
theorem dX12_joinAround_18 : decode cX12_joinAround 18 = .ok (.aload_n 0, 1) := by decide +kernel
theorem dX12_joinAround_19 : decode cX12_joinAround 19 = .ok (.getfield 7, 3) := by decide +kernel
theorem dX12_joinAround_22 : decode cX12_joinAround 22 = .ok (.bipush 8, 2) := by decide +kernel
theorem dX12_joinAround_24 : decode cX12_joinAround 24 = .ok (.iload_n 1, 1) := by decide +kernel
theorem dX12_joinAround_25 : decode cX12_joinAround 25 = .ok (.imul, 1) := by decide +kernel
theorem dX12_joinAround_26 : decode cX12_joinAround 26 = .ok (.iload_n 3, 1) := by decide +kernel
theorem dX12_joinAround_27 : decode cX12_joinAround 27 = .ok (.iadd, 1) := by decide +kernel
theorem dX12_joinAround_28 : decode cX12_joinAround 28 = .ok (.iaload, 1) := by decide +kernel
theorem dX12_joinAround_29 : decode cX12_joinAround 29 = .ok (.istore 4, 2) := by decide +kernel
theorem dX12_joinAround_31 : decode cX12_joinAround 31 = .ok (.aload_n 0, 1) := by decide +kernel
theorem dX12_joinAround_32 : decode cX12_joinAround 32 = .ok (.iload 4, 2) := by decide +kernel
theorem dX12_joinAround_34 : decode cX12_joinAround 34 = .ok (.invokevirtual 143, 3) := by decide +kernel
theorem dX12_joinAround_37 : decode cX12_joinAround 37 = .ok (.ifCond .eq 73, 3) := by decide +kernel
theorem dX12_joinAround_40 : decode cX12_joinAround 40 = .ok (.aload_n 0, 1) := by decide +kernel
theorem dX12_joinAround_41 : decode cX12_joinAround 41 = .ok (.getfield 39, 3) := by decide +kernel
theorem dX12_joinAround_44 : decode cX12_joinAround 44 = .ok (.iload 4, 2) := by decide +kernel
theorem dX12_joinAround_46 : decode cX12_joinAround 46 = .ok (.iaload, 1) := by decide +kernel
theorem dX12_joinAround_47 : decode cX12_joinAround 47 = .ok (.istore 5, 2) := by decide +kernel
theorem dX12_joinAround_49 : decode cX12_joinAround 49 = .ok (.aload_n 0, 1) := by decide +kernel
theorem dX12_joinAround_50 : decode cX12_joinAround 50 = .ok (.getfield 39, 3) := by decide +kernel
theorem dX12_joinAround_53 : decode cX12_joinAround 53 = .ok (.iload 4, 2) := by decide +kernel
theorem dX12_joinAround_55 : decode cX12_joinAround 55 = .ok (.iload_n 2, 1) := by decide +kernel
theorem dX12_joinAround_56 : decode cX12_joinAround 56 = .ok (.iastore, 1) := by decide +kernel
theorem dX12_joinAround_57 : decode cX12_joinAround 57 = .ok (.iconst 0, 1) := by decide +kernel
theorem dX12_joinAround_58 : decode cX12_joinAround 58 = .ok (.istore 6, 2) := by decide +kernel
theorem dX12_joinAround_60 : decode cX12_joinAround 60 = .ok (.iload 6, 2) := by decide +kernel
theorem dX12_joinAround_62 : decode cX12_joinAround 62 = .ok (.aload_n 0, 1) := by decide +kernel
theorem dX12_joinAround_63 : decode cX12_joinAround 63 = .ok (.getfield 100, 3) := by decide +kernel
theorem dX12_joinAround_66 : decode cX12_joinAround 66 = .ok (.if_icmp .ge 44, 3) := by decide +kernel
theorem dX12_joinAround_69 : decode cX12_joinAround 69 = .ok (.iload 5, 2) := by decide +kernel
theorem dX12_joinAround_71 : decode cX12_joinAround 71 = .ok (.ifCond .lt 39, 3) := by decide +kernel
theorem dX12_joinAround_74 : decode cX12_joinAround 74 = .ok (.aload_n 0, 1) := by decide +kernel
theorem dX12_joinAround_75 : decode cX12_joinAround 75 = .ok (.getfield 39, 3) := by decide +kernel
theorem dX12_joinAround_78 : decode cX12_joinAround 78 = .ok (.iload 6, 2) := by decide +kernel
theorem dX12_joinAround_80 : decode cX12_joinAround 80 = .ok (.aload_n 0, 1) := by decide +kernel
theorem dX12_joinAround_81 : decode cX12_joinAround 81 = .ok (.getfield 39, 3) := by decide +kernel
theorem dX12_joinAround_84 : decode cX12_joinAround 84 = .ok (.iload 6, 2) := by decide +kernel
theorem dX12_joinAround_86 : decode cX12_joinAround 86 = .ok (.iaload, 1) := by decide +kernel
theorem dX12_joinAround_87 : decode cX12_joinAround 87 = .ok (.iload 5, 2) := by decide +kernel
theorem dX12_joinAround_89 : decode cX12_joinAround 89 = .ok (.if_icmp .ne 7, 3) := by decide +kernel
theorem dX12_joinAround_92 : decode cX12_joinAround 92 = .ok (.iload_n 2, 1) := by decide +kernel
theorem dX12_joinAround_93 : decode cX12_joinAround 93 = .ok (.goto 10, 3) := by decide +kernel
theorem dX12_joinAround_96 : decode cX12_joinAround 96 = .ok (.aload_n 0, 1) := by decide +kernel
theorem dX12_joinAround_97 : decode cX12_joinAround 97 = .ok (.getfield 39, 3) := by decide +kernel
theorem dX12_joinAround_100 : decode cX12_joinAround 100 = .ok (.iload 6, 2) := by decide +kernel
theorem dX12_joinAround_102 : decode cX12_joinAround 102 = .ok (.iaload, 1) := by decide +kernel
theorem dX12_joinAround_103 : decode cX12_joinAround 103 = .ok (.iastore, 1) := by decide +kernel
theorem dX12_joinAround_104 : decode cX12_joinAround 104 = .ok (.iinc 6 1, 3) := by decide +kernel
theorem dX12_joinAround_107 : decode cX12_joinAround 107 = .ok (.goto (-47), 3) := by decide +kernel
theorem dX12_joinAround_110 : decode cX12_joinAround 110 = .ok (.iinc 3 1, 3) := by decide +kernel
theorem dX12_joinAround_113 : decode cX12_joinAround 113 = .ok (.goto (-105), 3) := by decide +kernel
theorem dX12_joinAround_116 : decode cX12_joinAround 116 = .ok (.return_, 1) := by decide +kernel
theorem dX12_divide_0 : decode cX12_divide 0 = .ok (.iconst 0, 1) := by decide +kernel
theorem dX12_divide_1 : decode cX12_divide 1 = .ok (.istore_n 1, 1) := by decide +kernel
theorem dX12_divide_2 : decode cX12_divide 2 = .ok (.iload_n 1, 1) := by decide +kernel
theorem dX12_divide_3 : decode cX12_divide 3 = .ok (.aload_n 0, 1) := by decide +kernel
theorem dX12_divide_4 : decode cX12_divide 4 = .ok (.getfield 100, 3) := by decide +kernel
theorem dX12_divide_7 : decode cX12_divide 7 = .ok (.if_icmp .ge 16, 3) := by decide +kernel
theorem dX12_divide_10 : decode cX12_divide 10 = .ok (.aload_n 0, 1) := by decide +kernel
theorem dX12_divide_11 : decode cX12_divide 11 = .ok (.getfield 39, 3) := by decide +kernel
theorem dX12_divide_14 : decode cX12_divide 14 = .ok (.iload_n 1, 1) := by decide +kernel
theorem dX12_divide_15 : decode cX12_divide 15 = .ok (.iconst (-1), 1) := by decide +kernel
theorem dX12_divide_16 : decode cX12_divide 16 = .ok (.iastore, 1) := by decide +kernel
theorem dX12_divide_17 : decode cX12_divide 17 = .ok (.iinc 1 1, 3) := by decide +kernel
theorem dX12_divide_20 : decode cX12_divide 20 = .ok (.goto (-18), 3) := by decide +kernel
theorem dX12_divide_23 : decode cX12_divide 23 = .ok (.iconst 0, 1) := by decide +kernel
theorem dX12_divide_24 : decode cX12_divide 24 = .ok (.istore_n 1, 1) := by decide +kernel
theorem dX12_divide_25 : decode cX12_divide 25 = .ok (.iload_n 1, 1) := by decide +kernel
theorem dX12_divide_26 : decode cX12_divide 26 = .ok (.aload_n 0, 1) := by decide +kernel
theorem dX12_divide_27 : decode cX12_divide 27 = .ok (.getfield 100, 3) := by decide +kernel
theorem dX12_divide_30 : decode cX12_divide 30 = .ok (.if_icmp .ge 23, 3) := by decide +kernel
theorem dX12_divide_33 : decode cX12_divide 33 = .ok (.aload_n 0, 1) := by decide +kernel
theorem dX12_divide_34 : decode cX12_divide 34 = .ok (.getfield 36, 3) := by decide +kernel
theorem dX12_divide_37 : decode cX12_divide 37 = .ok (.iload_n 1, 1) := by decide +kernel
theorem dX12_divide_38 : decode cX12_divide 38 = .ok (.baload, 1) := by decide +kernel
theorem dX12_divide_39 : decode cX12_divide 39 = .ok (.ifCond .eq 8, 3) := by decide +kernel
theorem dX12_divide_42 : decode cX12_divide 42 = .ok (.aload_n 0, 1) := by decide +kernel
theorem dX12_divide_43 : decode cX12_divide 43 = .ok (.iload_n 1, 1) := by decide +kernel
theorem dX12_divide_44 : decode cX12_divide 44 = .ok (.invokevirtual 243, 3) := by decide +kernel
theorem dX12_divide_47 : decode cX12_divide 47 = .ok (.iinc 1 1, 3) := by decide +kernel
theorem dX12_divide_50 : decode cX12_divide 50 = .ok (.goto (-25), 3) := by decide +kernel
theorem dX12_divide_53 : decode cX12_divide 53 = .ok (.aload_n 0, 1) := by decide +kernel
theorem dX12_divide_54 : decode cX12_divide 54 = .ok (.iconst 0, 1) := by decide +kernel
theorem dX12_divide_55 : decode cX12_divide 55 = .ok (.putfield 246, 3) := by decide +kernel
theorem dX12_divide_58 : decode cX12_divide 58 = .ok (.iconst 1, 1) := by decide +kernel
theorem dX12_divide_59 : decode cX12_divide 59 = .ok (.istore_n 1, 1) := by decide +kernel
theorem dX12_divide_60 : decode cX12_divide 60 = .ok (.iconst 0, 1) := by decide +kernel
theorem dX12_divide_61 : decode cX12_divide 61 = .ok (.istore_n 2, 1) := by decide +kernel
theorem dX12_divide_62 : decode cX12_divide 62 = .ok (.iload_n 2, 1) := by decide +kernel
theorem dX12_divide_63 : decode cX12_divide 63 = .ok (.aload_n 0, 1) := by decide +kernel
theorem dX12_divide_64 : decode cX12_divide 64 = .ok (.getfield 100, 3) := by decide +kernel
theorem dX12_divide_67 : decode cX12_divide 67 = .ok (.if_icmp .ge 139, 3) := by decide +kernel
theorem dX12_divide_70 : decode cX12_divide 70 = .ok (.aload_n 0, 1) := by decide +kernel
theorem dX12_divide_71 : decode cX12_divide 71 = .ok (.getfield 39, 3) := by decide +kernel
theorem dX12_divide_74 : decode cX12_divide 74 = .ok (.iload_n 2, 1) := by decide +kernel
theorem dX12_divide_75 : decode cX12_divide 75 = .ok (.iaload, 1) := by decide +kernel
theorem dX12_divide_76 : decode cX12_divide 76 = .ok (.sipush 1000, 3) := by decide +kernel
theorem dX12_divide_79 : decode cX12_divide 79 = .ok (.if_icmp .lt 121, 3) := by decide +kernel
theorem dX12_divide_82 : decode cX12_divide 82 = .ok (.aload_n 0, 1) := by decide +kernel
theorem dX12_divide_83 : decode cX12_divide 83 = .ok (.getfield 39, 3) := by decide +kernel
theorem dX12_divide_86 : decode cX12_divide 86 = .ok (.iload_n 2, 1) := by decide +kernel
theorem dX12_divide_87 : decode cX12_divide 87 = .ok (.iaload, 1) := by decide +kernel
theorem dX12_divide_88 : decode cX12_divide 88 = .ok (.istore_n 3, 1) := by decide +kernel
theorem dX12_divide_89 : decode cX12_divide 89 = .ok (.iconst 0, 1) := by decide +kernel
theorem dX12_divide_90 : decode cX12_divide 90 = .ok (.istore 4, 2) := by decide +kernel
theorem dX12_divide_92 : decode cX12_divide 92 = .ok (.iload_n 2, 1) := by decide +kernel
theorem dX12_divide_93 : decode cX12_divide 93 = .ok (.istore 5, 2) := by decide +kernel
theorem dX12_divide_95 : decode cX12_divide 95 = .ok (.iload 5, 2) := by decide +kernel
theorem dX12_divide_97 : decode cX12_divide 97 = .ok (.aload_n 0, 1) := by decide +kernel
theorem dX12_divide_98 : decode cX12_divide 98 = .ok (.getfield 100, 3) := by decide +kernel
theorem dX12_divide_101 : decode cX12_divide 101 = .ok (.if_icmp .ge 43, 3) := by decide +kernel
theorem dX12_divide_104 : decode cX12_divide 104 = .ok (.aload_n 0, 1) := by decide +kernel
theorem dX12_divide_105 : decode cX12_divide 105 = .ok (.getfield 39, 3) := by decide +kernel
theorem dX12_divide_108 : decode cX12_divide 108 = .ok (.iload 5, 2) := by decide +kernel
theorem dX12_divide_110 : decode cX12_divide 110 = .ok (.iaload, 1) := by decide +kernel
theorem dX12_divide_111 : decode cX12_divide 111 = .ok (.iload_n 3, 1) := by decide +kernel
theorem dX12_divide_112 : decode cX12_divide 112 = .ok (.if_icmp .ne 26, 3) := by decide +kernel
theorem dX12_divide_115 : decode cX12_divide 115 = .ok (.aload_n 0, 1) := by decide +kernel
theorem dX12_divide_116 : decode cX12_divide 116 = .ok (.getfield 39, 3) := by decide +kernel
theorem dX12_divide_119 : decode cX12_divide 119 = .ok (.iload 5, 2) := by decide +kernel
theorem dX12_divide_121 : decode cX12_divide 121 = .ok (.aload_n 0, 1) := by decide +kernel
theorem dX12_divide_122 : decode cX12_divide 122 = .ok (.getfield 246, 3) := by decide +kernel
theorem dX12_divide_125 : decode cX12_divide 125 = .ok (.iastore, 1) := by decide +kernel
theorem dX12_divide_126 : decode cX12_divide 126 = .ok (.aload_n 0, 1) := by decide +kernel
theorem dX12_divide_127 : decode cX12_divide 127 = .ok (.getfield 42, 3) := by decide +kernel
theorem dX12_divide_130 : decode cX12_divide 130 = .ok (.iload 5, 2) := by decide +kernel
theorem dX12_divide_132 : decode cX12_divide 132 = .ok (.iload 4, 2) := by decide +kernel
theorem dX12_divide_134 : decode cX12_divide 134 = .ok (.iastore, 1) := by decide +kernel
theorem dX12_divide_135 : decode cX12_divide 135 = .ok (.iinc 4 1, 3) := by decide +kernel
theorem dX12_divide_138 : decode cX12_divide 138 = .ok (.iinc 5 1, 3) := by decide +kernel
theorem dX12_divide_141 : decode cX12_divide 141 = .ok (.goto (-46), 3) := by decide +kernel
theorem dX12_divide_144 : decode cX12_divide 144 = .ok (.aload_n 0, 1) := by decide +kernel
theorem dX12_divide_145 : decode cX12_divide 145 = .ok (.getfield 246, 3) := by decide +kernel
theorem dX12_divide_148 : decode cX12_divide 148 = .ok (.bipush 72, 2) := by decide +kernel
theorem dX12_divide_150 : decode cX12_divide 150 = .ok (.if_icmp .ge 14, 3) := by decide +kernel
theorem dX12_divide_153 : decode cX12_divide 153 = .ok (.aload_n 0, 1) := by decide +kernel
theorem dX12_divide_154 : decode cX12_divide 154 = .ok (.getfield 45, 3) := by decide +kernel
theorem dX12_divide_157 : decode cX12_divide 157 = .ok (.aload_n 0, 1) := by decide +kernel
theorem dX12_divide_158 : decode cX12_divide 158 = .ok (.getfield 246, 3) := by decide +kernel
theorem dX12_divide_161 : decode cX12_divide 161 = .ok (.iload 4, 2) := by decide +kernel
theorem dX12_divide_163 : decode cX12_divide 163 = .ok (.iastore, 1) := by decide +kernel
theorem dX12_divide_164 : decode cX12_divide 164 = .ok (.iload_n 1, 1) := by decide +kernel
theorem dX12_divide_165 : decode cX12_divide 165 = .ok (.ifCond .eq 23, 3) := by decide +kernel
theorem dX12_divide_168 : decode cX12_divide 168 = .ok (.iload 4, 2) := by decide +kernel
theorem dX12_divide_170 : decode cX12_divide 170 = .ok (.bipush 16, 2) := by decide +kernel
theorem dX12_divide_172 : decode cX12_divide 172 = .ok (.if_icmp .gt 16, 3) := by decide +kernel
theorem dX12_divide_175 : decode cX12_divide 175 = .ok (.aload_n 0, 1) := by decide +kernel
theorem dX12_divide_176 : decode cX12_divide 176 = .ok (.getfield 246, 3) := by decide +kernel
theorem dX12_divide_179 : decode cX12_divide 179 = .ok (.bipush 72, 2) := by decide +kernel
theorem dX12_divide_181 : decode cX12_divide 181 = .ok (.if_icmp .ge 7, 3) := by decide +kernel
theorem dX12_divide_184 : decode cX12_divide 184 = .ok (.iconst 1, 1) := by decide +kernel
theorem dX12_divide_185 : decode cX12_divide 185 = .ok (.goto 4, 3) := by decide +kernel
theorem dX12_divide_188 : decode cX12_divide 188 = .ok (.iconst 0, 1) := by decide +kernel
theorem dX12_divide_189 : decode cX12_divide 189 = .ok (.istore_n 1, 1) := by decide +kernel
theorem dX12_divide_190 : decode cX12_divide 190 = .ok (.aload_n 0, 1) := by decide +kernel
theorem dX12_divide_191 : decode cX12_divide 191 = .ok (.dup, 1) := by decide +kernel
theorem dX12_divide_192 : decode cX12_divide 192 = .ok (.getfield 246, 3) := by decide +kernel
theorem dX12_divide_195 : decode cX12_divide 195 = .ok (.iconst 1, 1) := by decide +kernel
theorem dX12_divide_196 : decode cX12_divide 196 = .ok (.iadd, 1) := by decide +kernel
theorem dX12_divide_197 : decode cX12_divide 197 = .ok (.putfield 246, 3) := by decide +kernel
theorem dX12_divide_200 : decode cX12_divide 200 = .ok (.iinc 2 1, 3) := by decide +kernel
theorem dX12_divide_203 : decode cX12_divide 203 = .ok (.goto (-141), 3) := by decide +kernel
theorem dX12_divide_206 : decode cX12_divide 206 = .ok (.iload_n 1, 1) := by decide +kernel
theorem dX12_divide_207 : decode cX12_divide 207 = .ok (.ireturn, 1) := by decide +kernel
theorem dX12_gather_0 : decode cX12_gather 0 = .ok (.aload_n 0, 1) := by decide +kernel
theorem dX12_gather_1 : decode cX12_gather 1 = .ok (.iconst 0, 1) := by decide +kernel
theorem dX12_gather_2 : decode cX12_gather 2 = .ok (.putfield 249, 3) := by decide +kernel
theorem dX12_gather_5 : decode cX12_gather 5 = .ok (.iconst 0, 1) := by decide +kernel
theorem dX12_gather_6 : decode cX12_gather 6 = .ok (.istore_n 2, 1) := by decide +kernel
theorem dX12_gather_7 : decode cX12_gather 7 = .ok (.iload_n 2, 1) := by decide +kernel
theorem dX12_gather_8 : decode cX12_gather 8 = .ok (.aload_n 0, 1) := by decide +kernel
theorem dX12_gather_9 : decode cX12_gather 9 = .ok (.getfield 100, 3) := by decide +kernel
theorem dX12_gather_12 : decode cX12_gather 12 = .ok (.if_icmp .ge 124, 3) := by decide +kernel
theorem dX12_gather_15 : decode cX12_gather 15 = .ok (.iconst 0, 1) := by decide +kernel
theorem dX12_gather_16 : decode cX12_gather 16 = .ok (.istore_n 3, 1) := by decide +kernel
theorem dX12_gather_17 : decode cX12_gather 17 = .ok (.iconst 0, 1) := by decide +kernel
theorem dX12_gather_18 : decode cX12_gather 18 = .ok (.istore 4, 2) := by decide +kernel
theorem dX12_gather_20 : decode cX12_gather 20 = .ok (.iload 4, 2) := by decide +kernel
theorem dX12_gather_22 : decode cX12_gather 22 = .ok (.aload_n 0, 1) := by decide +kernel
theorem dX12_gather_23 : decode cX12_gather 23 = .ok (.getfield 13, 3) := by decide +kernel
theorem dX12_gather_26 : decode cX12_gather 26 = .ok (.iload_n 2, 1) := by decide +kernel
theorem dX12_gather_27 : decode cX12_gather 27 = .ok (.iaload, 1) := by decide +kernel
theorem dX12_gather_28 : decode cX12_gather 28 = .ok (.if_icmp .ge 64, 3) := by decide +kernel
theorem dX12_gather_31 : decode cX12_gather 31 = .ok (.aload_n 0, 1) := by decide +kernel
theorem dX12_gather_32 : decode cX12_gather 32 = .ok (.getfield 36, 3) := by decide +kernel
theorem dX12_gather_35 : decode cX12_gather 35 = .ok (.iload_n 2, 1) := by decide +kernel
theorem dX12_gather_36 : decode cX12_gather 36 = .ok (.baload, 1) := by decide +kernel
theorem dX12_gather_37 : decode cX12_gather 37 = .ok (.ifCond .eq 55, 3) := by decide +kernel
theorem dX12_gather_40 : decode cX12_gather 40 = .ok (.aload_n 0, 1) := by decide +kernel
theorem dX12_gather_41 : decode cX12_gather 41 = .ok (.getfield 7, 3) := by decide +kernel
theorem dX12_gather_44 : decode cX12_gather 44 = .ok (.bipush 8, 2) := by decide +kernel
theorem dX12_gather_46 : decode cX12_gather 46 = .ok (.iload_n 2, 1) := by decide +kernel
theorem dX12_gather_47 : decode cX12_gather 47 = .ok (.imul, 1) := by decide +kernel
theorem dX12_gather_48 : decode cX12_gather 48 = .ok (.iload 4, 2) := by decide +kernel
theorem dX12_gather_50 : decode cX12_gather 50 = .ok (.iadd, 1) := by decide +kernel
theorem dX12_gather_51 : decode cX12_gather 51 = .ok (.iaload, 1) := by decide +kernel
theorem dX12_gather_52 : decode cX12_gather 52 = .ok (.istore 5, 2) := by decide +kernel
theorem dX12_gather_54 : decode cX12_gather 54 = .ok (.aload_n 0, 1) := by decide +kernel
theorem dX12_gather_55 : decode cX12_gather 55 = .ok (.iload 5, 2) := by decide +kernel
theorem dX12_gather_57 : decode cX12_gather 57 = .ok (.invokevirtual 143, 3) := by decide +kernel
theorem dX12_gather_60 : decode cX12_gather 60 = .ok (.ifCond .eq 26, 3) := by decide +kernel
theorem dX12_gather_63 : decode cX12_gather 63 = .ok (.aload_n 0, 1) := by decide +kernel
theorem dX12_gather_64 : decode cX12_gather 64 = .ok (.getfield 39, 3) := by decide +kernel
theorem dX12_gather_67 : decode cX12_gather 67 = .ok (.iload 5, 2) := by decide +kernel
theorem dX12_gather_69 : decode cX12_gather 69 = .ok (.iaload, 1) := by decide +kernel
theorem dX12_gather_70 : decode cX12_gather 70 = .ok (.iload_n 1, 1) := by decide +kernel
theorem dX12_gather_71 : decode cX12_gather 71 = .ok (.if_icmp .ne 15, 3) := by decide +kernel
theorem dX12_gather_74 : decode cX12_gather 74 = .ok (.iload_n 3, 1) := by decide +kernel
theorem dX12_gather_75 : decode cX12_gather 75 = .ok (.iconst 1, 1) := by decide +kernel
theorem dX12_gather_76 : decode cX12_gather 76 = .ok (.aload_n 0, 1) := by decide +kernel
theorem dX12_gather_77 : decode cX12_gather 77 = .ok (.getfield 42, 3) := by decide +kernel
theorem dX12_gather_80 : decode cX12_gather 80 = .ok (.iload 5, 2) := by decide +kernel
theorem dX12_gather_82 : decode cX12_gather 82 = .ok (.iaload, 1) := by decide +kernel
theorem dX12_gather_83 : decode cX12_gather 83 = .ok (.ishl, 1) := by decide +kernel
theorem dX12_gather_84 : decode cX12_gather 84 = .ok (.ior, 1) := by decide +kernel
theorem dX12_gather_85 : decode cX12_gather 85 = .ok (.istore_n 3, 1) := by decide +kernel
theorem dX12_gather_86 : decode cX12_gather 86 = .ok (.iinc 4 1, 3) := by decide +kernel
theorem dX12_gather_89 : decode cX12_gather 89 = .ok (.goto (-69), 3) := by decide +kernel
theorem dX12_gather_92 : decode cX12_gather 92 = .ok (.iload_n 3, 1) := by decide +kernel
theorem dX12_gather_93 : decode cX12_gather 93 = .ok (.ifCond .le 37, 3) := by decide +kernel
theorem dX12_gather_96 : decode cX12_gather 96 = .ok (.aload_n 0, 1) := by decide +kernel
theorem dX12_gather_97 : decode cX12_gather 97 = .ok (.getfield 54, 3) := by decide +kernel
theorem dX12_gather_100 : decode cX12_gather 100 = .ok (.aload_n 0, 1) := by decide +kernel
theorem dX12_gather_101 : decode cX12_gather 101 = .ok (.getfield 249, 3) := by decide +kernel
theorem dX12_gather_104 : decode cX12_gather 104 = .ok (.iload_n 3, 1) := by decide +kernel
theorem dX12_gather_105 : decode cX12_gather 105 = .ok (.iastore, 1) := by decide +kernel
theorem dX12_gather_106 : decode cX12_gather 106 = .ok (.aload_n 0, 1) := by decide +kernel
theorem dX12_gather_107 : decode cX12_gather 107 = .ok (.getfield 57, 3) := by decide +kernel
theorem dX12_gather_110 : decode cX12_gather 110 = .ok (.aload_n 0, 1) := by decide +kernel
theorem dX12_gather_111 : decode cX12_gather 111 = .ok (.getfield 249, 3) := by decide +kernel
theorem dX12_gather_114 : decode cX12_gather 114 = .ok (.aload_n 0, 1) := by decide +kernel
theorem dX12_gather_115 : decode cX12_gather 115 = .ok (.iload_n 2, 1) := by decide +kernel
theorem dX12_gather_116 : decode cX12_gather 116 = .ok (.invokevirtual 224, 3) := by decide +kernel
theorem dX12_gather_119 : decode cX12_gather 119 = .ok (.iastore, 1) := by decide +kernel
theorem dX12_gather_120 : decode cX12_gather 120 = .ok (.aload_n 0, 1) := by decide +kernel
theorem dX12_gather_121 : decode cX12_gather 121 = .ok (.dup, 1) := by decide +kernel
theorem dX12_gather_122 : decode cX12_gather 122 = .ok (.getfield 249, 3) := by decide +kernel
theorem dX12_gather_125 : decode cX12_gather 125 = .ok (.iconst 1, 1) := by decide +kernel
theorem dX12_gather_126 : decode cX12_gather 126 = .ok (.iadd, 1) := by decide +kernel
theorem dX12_gather_127 : decode cX12_gather 127 = .ok (.putfield 249, 3) := by decide +kernel
theorem dX12_gather_130 : decode cX12_gather 130 = .ok (.iinc 2 1, 3) := by decide +kernel
theorem dX12_gather_133 : decode cX12_gather 133 = .ok (.goto (-126), 3) := by decide +kernel
theorem dX12_gather_136 : decode cX12_gather 136 = .ok (.return_, 1) := by decide +kernel
theorem dX12_isRight_0 : decode cX12_isRight 0 = .ok (.iconst 1, 1) := by decide +kernel
theorem dX12_isRight_1 : decode cX12_isRight 1 = .ok (.istore_n 2, 1) := by decide +kernel
theorem dX12_isRight_2 : decode cX12_isRight 2 = .ok (.iconst 0, 1) := by decide +kernel
theorem dX12_isRight_3 : decode cX12_isRight 3 = .ok (.istore_n 3, 1) := by decide +kernel
theorem dX12_isRight_4 : decode cX12_isRight 4 = .ok (.iload_n 3, 1) := by decide +kernel
theorem dX12_isRight_5 : decode cX12_isRight 5 = .ok (.aload_n 0, 1) := by decide +kernel
theorem dX12_isRight_6 : decode cX12_isRight 6 = .ok (.getfield 249, 3) := by decide +kernel
theorem dX12_isRight_9 : decode cX12_isRight 9 = .ok (.if_icmp .ge 41, 3) := by decide +kernel
theorem dX12_isRight_12 : decode cX12_isRight 12 = .ok (.iload_n 2, 1) := by decide +kernel
theorem dX12_isRight_13 : decode cX12_isRight 13 = .ok (.ifCond .eq 37, 3) := by decide +kernel
theorem dX12_isRight_16 : decode cX12_isRight 16 = .ok (.aload_n 0, 1) := by decide +kernel
theorem dX12_isRight_17 : decode cX12_isRight 17 = .ok (.getfield 61, 3) := by decide +kernel
theorem dX12_isRight_20 : decode cX12_isRight 20 = .ok (.iload_n 1, 1) := by decide +kernel
theorem dX12_isRight_21 : decode cX12_isRight 21 = .ok (.aload_n 0, 1) := by decide +kernel
theorem dX12_isRight_22 : decode cX12_isRight 22 = .ok (.getfield 54, 3) := by decide +kernel
theorem dX12_isRight_25 : decode cX12_isRight 25 = .ok (.iload_n 3, 1) := by decide +kernel
theorem dX12_isRight_26 : decode cX12_isRight 26 = .ok (.iaload, 1) := by decide +kernel
theorem dX12_isRight_27 : decode cX12_isRight 27 = .ok (.iand, 1) := by decide +kernel
theorem dX12_isRight_28 : decode cX12_isRight 28 = .ok (.iaload, 1) := by decide +kernel
theorem dX12_isRight_29 : decode cX12_isRight 29 = .ok (.aload_n 0, 1) := by decide +kernel
theorem dX12_isRight_30 : decode cX12_isRight 30 = .ok (.getfield 57, 3) := by decide +kernel
theorem dX12_isRight_33 : decode cX12_isRight 33 = .ok (.iload_n 3, 1) := by decide +kernel
theorem dX12_isRight_34 : decode cX12_isRight 34 = .ok (.iaload, 1) := by decide +kernel
theorem dX12_isRight_35 : decode cX12_isRight 35 = .ok (.if_icmp .ne 7, 3) := by decide +kernel
theorem dX12_isRight_38 : decode cX12_isRight 38 = .ok (.iconst 1, 1) := by decide +kernel
theorem dX12_isRight_39 : decode cX12_isRight 39 = .ok (.goto 4, 3) := by decide +kernel
theorem dX12_isRight_42 : decode cX12_isRight 42 = .ok (.iconst 0, 1) := by decide +kernel
theorem dX12_isRight_43 : decode cX12_isRight 43 = .ok (.istore_n 2, 1) := by decide +kernel
theorem dX12_isRight_44 : decode cX12_isRight 44 = .ok (.iinc 3 1, 3) := by decide +kernel
theorem dX12_isRight_47 : decode cX12_isRight 47 = .ok (.goto (-43), 3) := by decide +kernel
theorem dX12_isRight_50 : decode cX12_isRight 50 = .ok (.iload_n 2, 1) := by decide +kernel
theorem dX12_isRight_51 : decode cX12_isRight 51 = .ok (.ireturn, 1) := by decide +kernel
theorem dX12_countPart_0 : decode cX12_countPart 0 = .ok (.aload_n 0, 1) := by decide +kernel
theorem dX12_countPart_1 : decode cX12_countPart 1 = .ok (.iload_n 1, 1) := by decide +kernel
theorem dX12_countPart_2 : decode cX12_countPart 2 = .ok (.invokevirtual 252, 3) := by decide +kernel
theorem dX12_countPart_5 : decode cX12_countPart 5 = .ok (.aload_n 0, 1) := by decide +kernel
theorem dX12_countPart_6 : decode cX12_countPart 6 = .ok (.getfield 45, 3) := by decide +kernel
theorem dX12_countPart_9 : decode cX12_countPart 9 = .ok (.iload_n 1, 1) := by decide +kernel
theorem dX12_countPart_10 : decode cX12_countPart 10 = .ok (.iaload, 1) := by decide +kernel
theorem dX12_countPart_11 : decode cX12_countPart 11 = .ok (.istore_n 2, 1) := by decide +kernel
theorem dX12_countPart_12 : decode cX12_countPart 12 = .ok (.iconst 0, 1) := by decide +kernel
theorem dX12_countPart_13 : decode cX12_countPart 13 = .ok (.istore_n 3, 1) := by decide +kernel
theorem dX12_countPart_14 : decode cX12_countPart 14 = .ok (.iload_n 3, 1) := by decide +kernel
theorem dX12_countPart_15 : decode cX12_countPart 15 = .ok (.bipush 17, 2) := by decide +kernel
theorem dX12_countPart_17 : decode cX12_countPart 17 = .ok (.if_icmp .ge 21, 3) := by decide +kernel
theorem dX12_countPart_20 : decode cX12_countPart 20 = .ok (.aload_n 0, 1) := by decide +kernel
theorem dX12_countPart_21 : decode cX12_countPart 21 = .ok (.getfield 48, 3) := by decide +kernel
theorem dX12_countPart_24 : decode cX12_countPart 24 = .ok (.bipush 17, 2) := by decide +kernel
theorem dX12_countPart_26 : decode cX12_countPart 26 = .ok (.iload_n 1, 1) := by decide +kernel
theorem dX12_countPart_27 : decode cX12_countPart 27 = .ok (.imul, 1) := by decide +kernel
theorem dX12_countPart_28 : decode cX12_countPart 28 = .ok (.iload_n 3, 1) := by decide +kernel
theorem dX12_countPart_29 : decode cX12_countPart 29 = .ok (.iadd, 1) := by decide +kernel
theorem dX12_countPart_30 : decode cX12_countPart 30 = .ok (.iconst 0, 1) := by decide +kernel
theorem dX12_countPart_31 : decode cX12_countPart 31 = .ok (.iastore, 1) := by decide +kernel
theorem dX12_countPart_32 : decode cX12_countPart 32 = .ok (.iinc 3 1, 3) := by decide +kernel
theorem dX12_countPart_35 : decode cX12_countPart 35 = .ok (.goto (-21), 3) := by decide +kernel
theorem dX12_countPart_38 : decode cX12_countPart 38 = .ok (.iconst 0, 1) := by decide +kernel
theorem dX12_countPart_39 : decode cX12_countPart 39 = .ok (.istore_n 3, 1) := by decide +kernel
theorem dX12_countPart_40 : decode cX12_countPart 40 = .ok (.iload_n 3, 1) := by decide +kernel
theorem dX12_countPart_41 : decode cX12_countPart 41 = .ok (.bipush 17, 2) := by decide +kernel
theorem dX12_countPart_43 : decode cX12_countPart 43 = .ok (.iload_n 2, 1) := by decide +kernel
theorem dX12_countPart_44 : decode cX12_countPart 44 = .ok (.imul, 1) := by decide +kernel
theorem dX12_countPart_45 : decode cX12_countPart 45 = .ok (.if_icmp .ge 22, 3) := by decide +kernel
theorem dX12_countPart_48 : decode cX12_countPart 48 = .ok (.aload_n 0, 1) := by decide +kernel
theorem dX12_countPart_49 : decode cX12_countPart 49 = .ok (.getfield 51, 3) := by decide +kernel
theorem dX12_countPart_52 : decode cX12_countPart 52 = .ok (.sipush 272, 3) := by decide +kernel
theorem dX12_countPart_55 : decode cX12_countPart 55 = .ok (.iload_n 1, 1) := by decide +kernel
theorem dX12_countPart_56 : decode cX12_countPart 56 = .ok (.imul, 1) := by decide +kernel
theorem dX12_countPart_57 : decode cX12_countPart 57 = .ok (.iload_n 3, 1) := by decide +kernel
theorem dX12_countPart_58 : decode cX12_countPart 58 = .ok (.iadd, 1) := by decide +kernel
theorem dX12_countPart_59 : decode cX12_countPart 59 = .ok (.iconst 0, 1) := by decide +kernel
theorem dX12_countPart_60 : decode cX12_countPart 60 = .ok (.iastore, 1) := by decide +kernel
theorem dX12_countPart_61 : decode cX12_countPart 61 = .ok (.iinc 3 1, 3) := by decide +kernel
theorem dX12_countPart_64 : decode cX12_countPart 64 = .ok (.goto (-24), 3) := by decide +kernel
theorem dX12_countPart_67 : decode cX12_countPart 67 = .ok (.iconst 0, 1) := by decide +kernel
theorem dX12_countPart_68 : decode cX12_countPart 68 = .ok (.istore_n 3, 1) := by decide +kernel
theorem dX12_countPart_69 : decode cX12_countPart 69 = .ok (.iload_n 3, 1) := by decide +kernel
theorem dX12_countPart_70 : decode cX12_countPart 70 = .ok (.iconst 1, 1) := by decide +kernel
theorem dX12_countPart_71 : decode cX12_countPart 71 = .ok (.iload_n 2, 1) := by decide +kernel
theorem dX12_countPart_72 : decode cX12_countPart 72 = .ok (.ishl, 1) := by decide +kernel
theorem dX12_countPart_73 : decode cX12_countPart 73 = .ok (.if_icmp .ge 84, 3) := by decide +kernel
theorem dX12_countPart_76 : decode cX12_countPart 76 = .ok (.aload_n 0, 1) := by decide +kernel
theorem dX12_countPart_77 : decode cX12_countPart 77 = .ok (.iload_n 3, 1) := by decide +kernel
theorem dX12_countPart_78 : decode cX12_countPart 78 = .ok (.invokevirtual 255, 3) := by decide +kernel
theorem dX12_countPart_81 : decode cX12_countPart 81 = .ok (.ifCond .eq 70, 3) := by decide +kernel
theorem dX12_countPart_84 : decode cX12_countPart 84 = .ok (.aload_n 0, 1) := by decide +kernel
theorem dX12_countPart_85 : decode cX12_countPart 85 = .ok (.getfield 61, 3) := by decide +kernel
theorem dX12_countPart_88 : decode cX12_countPart 88 = .ok (.iload_n 3, 1) := by decide +kernel
theorem dX12_countPart_89 : decode cX12_countPart 89 = .ok (.iaload, 1) := by decide +kernel
theorem dX12_countPart_90 : decode cX12_countPart 90 = .ok (.istore 4, 2) := by decide +kernel
theorem dX12_countPart_92 : decode cX12_countPart 92 = .ok (.aload_n 0, 1) := by decide +kernel
theorem dX12_countPart_93 : decode cX12_countPart 93 = .ok (.getfield 48, 3) := by decide +kernel
theorem dX12_countPart_96 : decode cX12_countPart 96 = .ok (.bipush 17, 2) := by decide +kernel
theorem dX12_countPart_98 : decode cX12_countPart 98 = .ok (.iload_n 1, 1) := by decide +kernel
theorem dX12_countPart_99 : decode cX12_countPart 99 = .ok (.imul, 1) := by decide +kernel
theorem dX12_countPart_100 : decode cX12_countPart 100 = .ok (.iload 4, 2) := by decide +kernel
theorem dX12_countPart_102 : decode cX12_countPart 102 = .ok (.iadd, 1) := by decide +kernel
theorem dX12_countPart_103 : decode cX12_countPart 103 = .ok (.dup2, 1) := by decide +kernel
theorem dX12_countPart_104 : decode cX12_countPart 104 = .ok (.iaload, 1) := by decide +kernel
theorem dX12_countPart_105 : decode cX12_countPart 105 = .ok (.iconst 1, 1) := by decide +kernel
theorem dX12_countPart_106 : decode cX12_countPart 106 = .ok (.iadd, 1) := by decide +kernel
theorem dX12_countPart_107 : decode cX12_countPart 107 = .ok (.iastore, 1) := by decide +kernel
theorem dX12_countPart_108 : decode cX12_countPart 108 = .ok (.iconst 0, 1) := by decide +kernel
theorem dX12_countPart_109 : decode cX12_countPart 109 = .ok (.istore 5, 2) := by decide +kernel
theorem dX12_countPart_111 : decode cX12_countPart 111 = .ok (.iload 5, 2) := by decide +kernel
theorem dX12_countPart_113 : decode cX12_countPart 113 = .ok (.iload_n 2, 1) := by decide +kernel
theorem dX12_countPart_114 : decode cX12_countPart 114 = .ok (.if_icmp .ge 37, 3) := by decide +kernel
theorem dX12_countPart_117 : decode cX12_countPart 117 = .ok (.aload_n 0, 1) := by decide +kernel
theorem dX12_countPart_118 : decode cX12_countPart 118 = .ok (.getfield 51, 3) := by decide +kernel
theorem dX12_countPart_121 : decode cX12_countPart 121 = .ok (.sipush 272, 3) := by decide +kernel
theorem dX12_countPart_124 : decode cX12_countPart 124 = .ok (.iload_n 1, 1) := by decide +kernel
theorem dX12_countPart_125 : decode cX12_countPart 125 = .ok (.imul, 1) := by decide +kernel
theorem dX12_countPart_126 : decode cX12_countPart 126 = .ok (.bipush 17, 2) := by decide +kernel
theorem dX12_countPart_128 : decode cX12_countPart 128 = .ok (.iload 5, 2) := by decide +kernel
theorem dX12_countPart_130 : decode cX12_countPart 130 = .ok (.imul, 1) := by decide +kernel
theorem dX12_countPart_131 : decode cX12_countPart 131 = .ok (.iadd, 1) := by decide +kernel
theorem dX12_countPart_132 : decode cX12_countPart 132 = .ok (.iload 4, 2) := by decide +kernel
theorem dX12_countPart_134 : decode cX12_countPart 134 = .ok (.iadd, 1) := by decide +kernel
theorem dX12_countPart_135 : decode cX12_countPart 135 = .ok (.dup2, 1) := by decide +kernel
theorem dX12_countPart_136 : decode cX12_countPart 136 = .ok (.iaload, 1) := by decide +kernel
theorem dX12_countPart_137 : decode cX12_countPart 137 = .ok (.iload_n 3, 1) := by decide +kernel
theorem dX12_countPart_138 : decode cX12_countPart 138 = .ok (.iload 5, 2) := by decide +kernel
theorem dX12_countPart_140 : decode cX12_countPart 140 = .ok (.ishr, 1) := by decide +kernel
theorem dX12_countPart_141 : decode cX12_countPart 141 = .ok (.iconst 1, 1) := by decide +kernel
theorem dX12_countPart_142 : decode cX12_countPart 142 = .ok (.iand, 1) := by decide +kernel
theorem dX12_countPart_143 : decode cX12_countPart 143 = .ok (.iadd, 1) := by decide +kernel
theorem dX12_countPart_144 : decode cX12_countPart 144 = .ok (.iastore, 1) := by decide +kernel
theorem dX12_countPart_145 : decode cX12_countPart 145 = .ok (.iinc 5 1, 3) := by decide +kernel
theorem dX12_countPart_148 : decode cX12_countPart 148 = .ok (.goto (-37), 3) := by decide +kernel
theorem dX12_countPart_151 : decode cX12_countPart 151 = .ok (.iinc 3 1, 3) := by decide +kernel
theorem dX12_countPart_154 : decode cX12_countPart 154 = .ok (.goto (-85), 3) := by decide +kernel
theorem dX12_countPart_157 : decode cX12_countPart 157 = .ok (.return_, 1) := by decide +kernel
theorem dX12_countParts_0 : decode cX12_countParts 0 = .ok (.aload_n 0, 1) := by decide +kernel
theorem dX12_countParts_1 : decode cX12_countParts 1 = .ok (.invokevirtual 258, 3) := by decide +kernel
theorem dX12_countParts_4 : decode cX12_countParts 4 = .ok (.istore_n 1, 1) := by decide +kernel
theorem dX12_countParts_5 : decode cX12_countParts 5 = .ok (.iconst 0, 1) := by decide +kernel
theorem dX12_countParts_6 : decode cX12_countParts 6 = .ok (.istore_n 2, 1) := by decide +kernel
theorem dX12_countParts_7 : decode cX12_countParts 7 = .ok (.iload_n 2, 1) := by decide +kernel
theorem dX12_countParts_8 : decode cX12_countParts 8 = .ok (.aload_n 0, 1) := by decide +kernel
theorem dX12_countParts_9 : decode cX12_countParts 9 = .ok (.getfield 246, 3) := by decide +kernel
theorem dX12_countParts_12 : decode cX12_countParts 12 = .ok (.if_icmp .ge 18, 3) := by decide +kernel
theorem dX12_countParts_15 : decode cX12_countParts 15 = .ok (.iload_n 1, 1) := by decide +kernel
theorem dX12_countParts_16 : decode cX12_countParts 16 = .ok (.ifCond .eq 14, 3) := by decide +kernel
theorem dX12_countParts_19 : decode cX12_countParts 19 = .ok (.aload_n 0, 1) := by decide +kernel
theorem dX12_countParts_20 : decode cX12_countParts 20 = .ok (.iload_n 2, 1) := by decide +kernel
theorem dX12_countParts_21 : decode cX12_countParts 21 = .ok (.invokevirtual 261, 3) := by decide +kernel
theorem dX12_countParts_24 : decode cX12_countParts 24 = .ok (.iinc 2 1, 3) := by decide +kernel
theorem dX12_countParts_27 : decode cX12_countParts 27 = .ok (.goto (-20), 3) := by decide +kernel
theorem dX12_countParts_30 : decode cX12_countParts 30 = .ok (.iload_n 1, 1) := by decide +kernel
theorem dX12_countParts_31 : decode cX12_countParts 31 = .ok (.ireturn, 1) := by decide +kernel
theorem dX12_freeCells_0 : decode cX12_freeCells 0 = .ok (.iconst 0, 1) := by decide +kernel
theorem dX12_freeCells_1 : decode cX12_freeCells 1 = .ok (.istore_n 1, 1) := by decide +kernel
theorem dX12_freeCells_2 : decode cX12_freeCells 2 = .ok (.iconst 0, 1) := by decide +kernel
theorem dX12_freeCells_3 : decode cX12_freeCells 3 = .ok (.istore_n 2, 1) := by decide +kernel
theorem dX12_freeCells_4 : decode cX12_freeCells 4 = .ok (.iload_n 2, 1) := by decide +kernel
theorem dX12_freeCells_5 : decode cX12_freeCells 5 = .ok (.aload_n 0, 1) := by decide +kernel
theorem dX12_freeCells_6 : decode cX12_freeCells 6 = .ok (.getfield 100, 3) := by decide +kernel
theorem dX12_freeCells_9 : decode cX12_freeCells 9 = .ok (.if_icmp .ge 34, 3) := by decide +kernel
theorem dX12_freeCells_12 : decode cX12_freeCells 12 = .ok (.iload_n 1, 1) := by decide +kernel
theorem dX12_freeCells_13 : decode cX12_freeCells 13 = .ok (.aload_n 0, 1) := by decide +kernel
theorem dX12_freeCells_14 : decode cX12_freeCells 14 = .ok (.iload_n 2, 1) := by decide +kernel
theorem dX12_freeCells_15 : decode cX12_freeCells 15 = .ok (.invokevirtual 143, 3) := by decide +kernel
theorem dX12_freeCells_18 : decode cX12_freeCells 18 = .ok (.ifCond .eq 16, 3) := by decide +kernel
theorem dX12_freeCells_21 : decode cX12_freeCells 21 = .ok (.aload_n 0, 1) := by decide +kernel
theorem dX12_freeCells_22 : decode cX12_freeCells 22 = .ok (.getfield 39, 3) := by decide +kernel
theorem dX12_freeCells_25 : decode cX12_freeCells 25 = .ok (.iload_n 2, 1) := by decide +kernel
theorem dX12_freeCells_26 : decode cX12_freeCells 26 = .ok (.iaload, 1) := by decide +kernel
theorem dX12_freeCells_27 : decode cX12_freeCells 27 = .ok (.ifCond .ge 7, 3) := by decide +kernel
theorem dX12_freeCells_30 : decode cX12_freeCells 30 = .ok (.iconst 1, 1) := by decide +kernel
theorem dX12_freeCells_31 : decode cX12_freeCells 31 = .ok (.goto 4, 3) := by decide +kernel
theorem dX12_freeCells_34 : decode cX12_freeCells 34 = .ok (.iconst 0, 1) := by decide +kernel
theorem dX12_freeCells_35 : decode cX12_freeCells 35 = .ok (.iadd, 1) := by decide +kernel
theorem dX12_freeCells_36 : decode cX12_freeCells 36 = .ok (.istore_n 1, 1) := by decide +kernel
theorem dX12_freeCells_37 : decode cX12_freeCells 37 = .ok (.iinc 2 1, 3) := by decide +kernel
theorem dX12_freeCells_40 : decode cX12_freeCells 40 = .ok (.goto (-36), 3) := by decide +kernel
theorem dX12_freeCells_43 : decode cX12_freeCells 43 = .ok (.iload_n 1, 1) := by decide +kernel
theorem dX12_freeCells_44 : decode cX12_freeCells 44 = .ok (.ireturn, 1) := by decide +kernel
theorem dX12_findReach_0 : decode cX12_findReach 0 = .ok (.iconst 0, 1) := by decide +kernel
theorem dX12_findReach_1 : decode cX12_findReach 1 = .ok (.istore_n 2, 1) := by decide +kernel
theorem dX12_findReach_2 : decode cX12_findReach 2 = .ok (.iload_n 2, 1) := by decide +kernel
theorem dX12_findReach_3 : decode cX12_findReach 3 = .ok (.sipush 145, 3) := by decide +kernel
theorem dX12_findReach_6 : decode cX12_findReach 6 = .ok (.if_icmp .ge 24, 3) := by decide +kernel
theorem dX12_findReach_9 : decode cX12_findReach 9 = .ok (.aload_n 0, 1) := by decide +kernel
theorem dX12_findReach_10 : decode cX12_findReach 10 = .ok (.getfield 64, 3) := by decide +kernel
theorem dX12_findReach_13 : decode cX12_findReach 13 = .ok (.iload_n 2, 1) := by decide +kernel
theorem dX12_findReach_14 : decode cX12_findReach 14 = .ok (.iload_n 2, 1) := by decide +kernel
theorem dX12_findReach_15 : decode cX12_findReach 15 = .ok (.ifCond .ne 7, 3) := by decide +kernel
theorem dX12_findReach_18 : decode cX12_findReach 18 = .ok (.iconst 1, 1) := by decide +kernel
theorem dX12_findReach_19 : decode cX12_findReach 19 = .ok (.goto 4, 3) := by decide +kernel
theorem dX12_findReach_22 : decode cX12_findReach 22 = .ok (.iconst 0, 1) := by decide +kernel
theorem dX12_findReach_23 : decode cX12_findReach 23 = .ok (.bastore, 1) := by decide +kernel
theorem dX12_findReach_24 : decode cX12_findReach 24 = .ok (.iinc 2 1, 3) := by decide +kernel
theorem dX12_findReach_27 : decode cX12_findReach 27 = .ok (.goto (-25), 3) := by decide +kernel
theorem dX12_findReach_30 : decode cX12_findReach 30 = .ok (.iconst 0, 1) := by decide +kernel
theorem dX12_findReach_31 : decode cX12_findReach 31 = .ok (.istore_n 2, 1) := by decide +kernel
theorem dX12_findReach_32 : decode cX12_findReach 32 = .ok (.iload_n 2, 1) := by decide +kernel
theorem dX12_findReach_33 : decode cX12_findReach 33 = .ok (.aload_n 0, 1) := by decide +kernel
theorem dX12_findReach_34 : decode cX12_findReach 34 = .ok (.getfield 246, 3) := by decide +kernel
theorem dX12_findReach_37 : decode cX12_findReach 37 = .ok (.if_icmp .ge 163, 3) := by decide +kernel
theorem dX12_findReach_40 : decode cX12_findReach 40 = .ok (.iconst 0, 1) := by decide +kernel
theorem dX12_findReach_41 : decode cX12_findReach 41 = .ok (.istore_n 3, 1) := by decide +kernel
theorem dX12_findReach_42 : decode cX12_findReach 42 = .ok (.iload_n 3, 1) := by decide +kernel
theorem dX12_findReach_43 : decode cX12_findReach 43 = .ok (.sipush 145, 3) := by decide +kernel
theorem dX12_findReach_46 : decode cX12_findReach 46 = .ok (.if_icmp .ge 16, 3) := by decide +kernel
theorem dX12_findReach_49 : decode cX12_findReach 49 = .ok (.aload_n 0, 1) := by decide +kernel
theorem dX12_findReach_50 : decode cX12_findReach 50 = .ok (.getfield 67, 3) := by decide +kernel
theorem dX12_findReach_53 : decode cX12_findReach 53 = .ok (.iload_n 3, 1) := by decide +kernel
theorem dX12_findReach_54 : decode cX12_findReach 54 = .ok (.iconst 0, 1) := by decide +kernel
theorem dX12_findReach_55 : decode cX12_findReach 55 = .ok (.bastore, 1) := by decide +kernel
theorem dX12_findReach_56 : decode cX12_findReach 56 = .ok (.iinc 3 1, 3) := by decide +kernel
theorem dX12_findReach_59 : decode cX12_findReach 59 = .ok (.goto (-17), 3) := by decide +kernel
theorem dX12_findReach_62 : decode cX12_findReach 62 = .ok (.iconst 0, 1) := by decide +kernel
theorem dX12_findReach_63 : decode cX12_findReach 63 = .ok (.istore_n 3, 1) := by decide +kernel
theorem dX12_findReach_64 : decode cX12_findReach 64 = .ok (.iload_n 3, 1) := by decide +kernel
theorem dX12_findReach_65 : decode cX12_findReach 65 = .ok (.sipush 145, 3) := by decide +kernel
theorem dX12_findReach_68 : decode cX12_findReach 68 = .ok (.if_icmp .ge 94, 3) := by decide +kernel
theorem dX12_findReach_71 : decode cX12_findReach 71 = .ok (.iload_n 2, 1) := by decide +kernel
theorem dX12_findReach_72 : decode cX12_findReach 72 = .ok (.iload_n 1, 1) := by decide +kernel
theorem dX12_findReach_73 : decode cX12_findReach 73 = .ok (.if_icmp .eq 89, 3) := by decide +kernel
theorem dX12_findReach_76 : decode cX12_findReach 76 = .ok (.iconst 0, 1) := by decide +kernel
theorem dX12_findReach_77 : decode cX12_findReach 77 = .ok (.istore 4, 2) := by decide +kernel
theorem dX12_findReach_79 : decode cX12_findReach 79 = .ok (.iload 4, 2) := by decide +kernel
theorem dX12_findReach_81 : decode cX12_findReach 81 = .ok (.aload_n 0, 1) := by decide +kernel
theorem dX12_findReach_82 : decode cX12_findReach 82 = .ok (.getfield 45, 3) := by decide +kernel
theorem dX12_findReach_85 : decode cX12_findReach 85 = .ok (.iload_n 2, 1) := by decide +kernel
theorem dX12_findReach_86 : decode cX12_findReach 86 = .ok (.iaload, 1) := by decide +kernel
theorem dX12_findReach_87 : decode cX12_findReach 87 = .ok (.if_icmp .gt 69, 3) := by decide +kernel
theorem dX12_findReach_90 : decode cX12_findReach 90 = .ok (.iload_n 3, 1) := by decide +kernel
theorem dX12_findReach_91 : decode cX12_findReach 91 = .ok (.iload 4, 2) := by decide +kernel
theorem dX12_findReach_93 : decode cX12_findReach 93 = .ok (.iadd, 1) := by decide +kernel
theorem dX12_findReach_94 : decode cX12_findReach 94 = .ok (.sipush 145, 3) := by decide +kernel
theorem dX12_findReach_97 : decode cX12_findReach 97 = .ok (.if_icmp .ge 59, 3) := by decide +kernel
theorem dX12_findReach_100 : decode cX12_findReach 100 = .ok (.aload_n 0, 1) := by decide +kernel
theorem dX12_findReach_101 : decode cX12_findReach 101 = .ok (.getfield 67, 3) := by decide +kernel
theorem dX12_findReach_104 : decode cX12_findReach 104 = .ok (.iload_n 3, 1) := by decide +kernel
theorem dX12_findReach_105 : decode cX12_findReach 105 = .ok (.iload 4, 2) := by decide +kernel
theorem dX12_findReach_107 : decode cX12_findReach 107 = .ok (.iadd, 1) := by decide +kernel
theorem dX12_findReach_108 : decode cX12_findReach 108 = .ok (.aload_n 0, 1) := by decide +kernel
theorem dX12_findReach_109 : decode cX12_findReach 109 = .ok (.getfield 67, 3) := by decide +kernel
theorem dX12_findReach_112 : decode cX12_findReach 112 = .ok (.iload_n 3, 1) := by decide +kernel
theorem dX12_findReach_113 : decode cX12_findReach 113 = .ok (.iload 4, 2) := by decide +kernel
theorem dX12_findReach_115 : decode cX12_findReach 115 = .ok (.iadd, 1) := by decide +kernel
theorem dX12_findReach_116 : decode cX12_findReach 116 = .ok (.baload, 1) := by decide +kernel
theorem dX12_findReach_117 : decode cX12_findReach 117 = .ok (.ifCond .ne 27, 3) := by decide +kernel
theorem dX12_findReach_120 : decode cX12_findReach 120 = .ok (.aload_n 0, 1) := by decide +kernel
theorem dX12_findReach_121 : decode cX12_findReach 121 = .ok (.getfield 64, 3) := by decide +kernel
theorem dX12_findReach_124 : decode cX12_findReach 124 = .ok (.iload_n 3, 1) := by decide +kernel
theorem dX12_findReach_125 : decode cX12_findReach 125 = .ok (.baload, 1) := by decide +kernel
theorem dX12_findReach_126 : decode cX12_findReach 126 = .ok (.ifCond .eq 22, 3) := by decide +kernel
theorem dX12_findReach_129 : decode cX12_findReach 129 = .ok (.aload_n 0, 1) := by decide +kernel
theorem dX12_findReach_130 : decode cX12_findReach 130 = .ok (.getfield 48, 3) := by decide +kernel
theorem dX12_findReach_133 : decode cX12_findReach 133 = .ok (.bipush 17, 2) := by decide +kernel
theorem dX12_findReach_135 : decode cX12_findReach 135 = .ok (.iload_n 2, 1) := by decide +kernel
theorem dX12_findReach_136 : decode cX12_findReach 136 = .ok (.imul, 1) := by decide +kernel
theorem dX12_findReach_137 : decode cX12_findReach 137 = .ok (.iload 4, 2) := by decide +kernel
theorem dX12_findReach_139 : decode cX12_findReach 139 = .ok (.iadd, 1) := by decide +kernel
theorem dX12_findReach_140 : decode cX12_findReach 140 = .ok (.iaload, 1) := by decide +kernel
theorem dX12_findReach_141 : decode cX12_findReach 141 = .ok (.ifCond .le 7, 3) := by decide +kernel
theorem dX12_findReach_144 : decode cX12_findReach 144 = .ok (.iconst 1, 1) := by decide +kernel
theorem dX12_findReach_145 : decode cX12_findReach 145 = .ok (.goto 4, 3) := by decide +kernel
theorem dX12_findReach_148 : decode cX12_findReach 148 = .ok (.iconst 0, 1) := by decide +kernel
theorem dX12_findReach_149 : decode cX12_findReach 149 = .ok (.bastore, 1) := by decide +kernel
theorem dX12_findReach_150 : decode cX12_findReach 150 = .ok (.iinc 4 1, 3) := by decide +kernel
theorem dX12_findReach_153 : decode cX12_findReach 153 = .ok (.goto (-74), 3) := by decide +kernel
theorem dX12_findReach_156 : decode cX12_findReach 156 = .ok (.iinc 3 1, 3) := by decide +kernel
theorem dX12_findReach_159 : decode cX12_findReach 159 = .ok (.goto (-95), 3) := by decide +kernel
theorem dX12_findReach_162 : decode cX12_findReach 162 = .ok (.iconst 0, 1) := by decide +kernel
theorem dX12_findReach_163 : decode cX12_findReach 163 = .ok (.istore_n 3, 1) := by decide +kernel
theorem dX12_findReach_164 : decode cX12_findReach 164 = .ok (.iload_n 3, 1) := by decide +kernel
theorem dX12_findReach_165 : decode cX12_findReach 165 = .ok (.sipush 145, 3) := by decide +kernel
theorem dX12_findReach_168 : decode cX12_findReach 168 = .ok (.if_icmp .ge 26, 3) := by decide +kernel
theorem dX12_findReach_171 : decode cX12_findReach 171 = .ok (.iload_n 2, 1) := by decide +kernel
theorem dX12_findReach_172 : decode cX12_findReach 172 = .ok (.iload_n 1, 1) := by decide +kernel
theorem dX12_findReach_173 : decode cX12_findReach 173 = .ok (.if_icmp .eq 21, 3) := by decide +kernel
theorem dX12_findReach_176 : decode cX12_findReach 176 = .ok (.aload_n 0, 1) := by decide +kernel
theorem dX12_findReach_177 : decode cX12_findReach 177 = .ok (.getfield 64, 3) := by decide +kernel
theorem dX12_findReach_180 : decode cX12_findReach 180 = .ok (.iload_n 3, 1) := by decide +kernel
theorem dX12_findReach_181 : decode cX12_findReach 181 = .ok (.aload_n 0, 1) := by decide +kernel
theorem dX12_findReach_182 : decode cX12_findReach 182 = .ok (.getfield 67, 3) := by decide +kernel
theorem dX12_findReach_185 : decode cX12_findReach 185 = .ok (.iload_n 3, 1) := by decide +kernel
theorem dX12_findReach_186 : decode cX12_findReach 186 = .ok (.baload, 1) := by decide +kernel
theorem dX12_findReach_187 : decode cX12_findReach 187 = .ok (.bastore, 1) := by decide +kernel
theorem dX12_findReach_188 : decode cX12_findReach 188 = .ok (.iinc 3 1, 3) := by decide +kernel
theorem dX12_findReach_191 : decode cX12_findReach 191 = .ok (.goto (-27), 3) := by decide +kernel
theorem dX12_findReach_194 : decode cX12_findReach 194 = .ok (.iinc 2 1, 3) := by decide +kernel
theorem dX12_findReach_197 : decode cX12_findReach 197 = .ok (.goto (-165), 3) := by decide +kernel
theorem dX12_findReach_200 : decode cX12_findReach 200 = .ok (.return_, 1) := by decide +kernel
theorem dX12_fitsIn_0 : decode cX12_fitsIn 0 = .ok (.iconst 0, 1) := by decide +kernel
theorem dX12_fitsIn_1 : decode cX12_fitsIn 1 = .ok (.istore_n 3, 1) := by decide +kernel
theorem dX12_fitsIn_2 : decode cX12_fitsIn 2 = .ok (.iconst 0, 1) := by decide +kernel
theorem dX12_fitsIn_3 : decode cX12_fitsIn 3 = .ok (.istore 4, 2) := by decide +kernel
theorem dX12_fitsIn_5 : decode cX12_fitsIn 5 = .ok (.iload 4, 2) := by decide +kernel
theorem dX12_fitsIn_7 : decode cX12_fitsIn 7 = .ok (.sipush 145, 3) := by decide +kernel
theorem dX12_fitsIn_10 : decode cX12_fitsIn 10 = .ok (.if_icmp .ge 41, 3) := by decide +kernel
theorem dX12_fitsIn_13 : decode cX12_fitsIn 13 = .ok (.iload_n 3, 1) := by decide +kernel
theorem dX12_fitsIn_14 : decode cX12_fitsIn 14 = .ok (.ifCond .ne 25, 3) := by decide +kernel
theorem dX12_fitsIn_17 : decode cX12_fitsIn 17 = .ok (.aload_n 0, 1) := by decide +kernel
theorem dX12_fitsIn_18 : decode cX12_fitsIn 18 = .ok (.getfield 64, 3) := by decide +kernel
theorem dX12_fitsIn_21 : decode cX12_fitsIn 21 = .ok (.iload 4, 2) := by decide +kernel
theorem dX12_fitsIn_23 : decode cX12_fitsIn 23 = .ok (.baload, 1) := by decide +kernel
theorem dX12_fitsIn_24 : decode cX12_fitsIn 24 = .ok (.ifCond .eq 19, 3) := by decide +kernel
theorem dX12_fitsIn_27 : decode cX12_fitsIn 27 = .ok (.iload_n 1, 1) := by decide +kernel
theorem dX12_fitsIn_28 : decode cX12_fitsIn 28 = .ok (.iload 4, 2) := by decide +kernel
theorem dX12_fitsIn_30 : decode cX12_fitsIn 30 = .ok (.isub, 1) := by decide +kernel
theorem dX12_fitsIn_31 : decode cX12_fitsIn 31 = .ok (.iconst 0, 1) := by decide +kernel
theorem dX12_fitsIn_32 : decode cX12_fitsIn 32 = .ok (.iload_n 2, 1) := by decide +kernel
theorem dX12_fitsIn_33 : decode cX12_fitsIn 33 = .ok (.invokestatic 83, 3) := by decide +kernel
theorem dX12_fitsIn_36 : decode cX12_fitsIn 36 = .ok (.ifCond .eq 7, 3) := by decide +kernel
theorem dX12_fitsIn_39 : decode cX12_fitsIn 39 = .ok (.iconst 1, 1) := by decide +kernel
theorem dX12_fitsIn_40 : decode cX12_fitsIn 40 = .ok (.goto 4, 3) := by decide +kernel
theorem dX12_fitsIn_43 : decode cX12_fitsIn 43 = .ok (.iconst 0, 1) := by decide +kernel
theorem dX12_fitsIn_44 : decode cX12_fitsIn 44 = .ok (.istore_n 3, 1) := by decide +kernel
theorem dX12_fitsIn_45 : decode cX12_fitsIn 45 = .ok (.iinc 4 1, 3) := by decide +kernel
theorem dX12_fitsIn_48 : decode cX12_fitsIn 48 = .ok (.goto (-43), 3) := by decide +kernel
theorem dX12_fitsIn_51 : decode cX12_fitsIn 51 = .ok (.iload_n 3, 1) := by decide +kernel
theorem dX12_fitsIn_52 : decode cX12_fitsIn 52 = .ok (.ireturn, 1) := by decide +kernel
theorem dX12_hasWay_0 : decode cX12_hasWay 0 = .ok (.aload_n 0, 1) := by decide +kernel
theorem dX12_hasWay_1 : decode cX12_hasWay 1 = .ok (.getfield 39, 3) := by decide +kernel
theorem dX12_hasWay_4 : decode cX12_hasWay 4 = .ok (.iload_n 1, 1) := by decide +kernel
theorem dX12_hasWay_5 : decode cX12_hasWay 5 = .ok (.iaload, 1) := by decide +kernel
theorem dX12_hasWay_6 : decode cX12_hasWay 6 = .ok (.istore 4, 2) := by decide +kernel
theorem dX12_hasWay_8 : decode cX12_hasWay 8 = .ok (.aload_n 0, 1) := by decide +kernel
theorem dX12_hasWay_9 : decode cX12_hasWay 9 = .ok (.invokevirtual 271, 3) := by decide +kernel
theorem dX12_hasWay_12 : decode cX12_hasWay 12 = .ok (.istore 5, 2) := by decide +kernel
theorem dX12_hasWay_14 : decode cX12_hasWay 14 = .ok (.iload 4, 2) := by decide +kernel
theorem dX12_hasWay_16 : decode cX12_hasWay 16 = .ok (.ifCond .ge 39, 3) := by decide +kernel
theorem dX12_hasWay_19 : decode cX12_hasWay 19 = .ok (.iload_n 3, 1) := by decide +kernel
theorem dX12_hasWay_20 : decode cX12_hasWay 20 = .ok (.ifCond .eq 29, 3) := by decide +kernel
theorem dX12_hasWay_23 : decode cX12_hasWay 23 = .ok (.aload_n 0, 1) := by decide +kernel
theorem dX12_hasWay_24 : decode cX12_hasWay 24 = .ok (.iload_n 2, 1) := by decide +kernel
theorem dX12_hasWay_25 : decode cX12_hasWay 25 = .ok (.ifCond .eq 10, 3) := by decide +kernel
theorem dX12_hasWay_28 : decode cX12_hasWay 28 = .ok (.iload 5, 2) := by decide +kernel
theorem dX12_hasWay_30 : decode cX12_hasWay 30 = .ok (.iconst 1, 1) := by decide +kernel
theorem dX12_hasWay_31 : decode cX12_hasWay 31 = .ok (.isub, 1) := by decide +kernel
theorem dX12_hasWay_32 : decode cX12_hasWay 32 = .ok (.goto 5, 3) := by decide +kernel
theorem dX12_hasWay_35 : decode cX12_hasWay 35 = .ok (.iload 5, 2) := by decide +kernel
theorem dX12_hasWay_37 : decode cX12_hasWay 37 = .ok (.aload_n 0, 1) := by decide +kernel
theorem dX12_hasWay_38 : decode cX12_hasWay 38 = .ok (.invokevirtual 274, 3) := by decide +kernel
theorem dX12_hasWay_41 : decode cX12_hasWay 41 = .ok (.iconst 1, 1) := by decide +kernel
theorem dX12_hasWay_42 : decode cX12_hasWay 42 = .ok (.isub, 1) := by decide +kernel
theorem dX12_hasWay_43 : decode cX12_hasWay 43 = .ok (.invokevirtual 277, 3) := by decide +kernel
theorem dX12_hasWay_46 : decode cX12_hasWay 46 = .ok (.ifCond .eq 7, 3) := by decide +kernel
theorem dX12_hasWay_49 : decode cX12_hasWay 49 = .ok (.iconst 1, 1) := by decide +kernel
theorem dX12_hasWay_50 : decode cX12_hasWay 50 = .ok (.goto 4, 3) := by decide +kernel
theorem dX12_hasWay_53 : decode cX12_hasWay 53 = .ok (.iconst 0, 1) := by decide +kernel
theorem dX12_hasWay_54 : decode cX12_hasWay 54 = .ok (.ireturn, 1) := by decide +kernel
theorem dX12_hasWay_55 : decode cX12_hasWay 55 = .ok (.iconst 0, 1) := by decide +kernel
theorem dX12_hasWay_56 : decode cX12_hasWay 56 = .ok (.istore 6, 2) := by decide +kernel
theorem dX12_hasWay_58 : decode cX12_hasWay 58 = .ok (.iconst 0, 1) := by decide +kernel
theorem dX12_hasWay_59 : decode cX12_hasWay 59 = .ok (.istore 7, 2) := by decide +kernel
theorem dX12_hasWay_61 : decode cX12_hasWay 61 = .ok (.iload 7, 2) := by decide +kernel
theorem dX12_hasWay_63 : decode cX12_hasWay 63 = .ok (.aload_n 0, 1) := by decide +kernel
theorem dX12_hasWay_64 : decode cX12_hasWay 64 = .ok (.getfield 45, 3) := by decide +kernel
theorem dX12_hasWay_67 : decode cX12_hasWay 67 = .ok (.iload 4, 2) := by decide +kernel
theorem dX12_hasWay_69 : decode cX12_hasWay 69 = .ok (.iaload, 1) := by decide +kernel
theorem dX12_hasWay_70 : decode cX12_hasWay 70 = .ok (.if_icmp .gt 99, 3) := by decide +kernel
theorem dX12_hasWay_73 : decode cX12_hasWay 73 = .ok (.aload_n 0, 1) := by decide +kernel
theorem dX12_hasWay_74 : decode cX12_hasWay 74 = .ok (.getfield 51, 3) := by decide +kernel
theorem dX12_hasWay_77 : decode cX12_hasWay 77 = .ok (.sipush 272, 3) := by decide +kernel
theorem dX12_hasWay_80 : decode cX12_hasWay 80 = .ok (.iload 4, 2) := by decide +kernel
theorem dX12_hasWay_82 : decode cX12_hasWay 82 = .ok (.imul, 1) := by decide +kernel
theorem dX12_hasWay_83 : decode cX12_hasWay 83 = .ok (.bipush 17, 2) := by decide +kernel
theorem dX12_hasWay_85 : decode cX12_hasWay 85 = .ok (.aload_n 0, 1) := by decide +kernel
theorem dX12_hasWay_86 : decode cX12_hasWay 86 = .ok (.getfield 42, 3) := by decide +kernel
theorem dX12_hasWay_89 : decode cX12_hasWay 89 = .ok (.iload_n 1, 1) := by decide +kernel
theorem dX12_hasWay_90 : decode cX12_hasWay 90 = .ok (.iaload, 1) := by decide +kernel
theorem dX12_hasWay_91 : decode cX12_hasWay 91 = .ok (.imul, 1) := by decide +kernel
theorem dX12_hasWay_92 : decode cX12_hasWay 92 = .ok (.iadd, 1) := by decide +kernel
theorem dX12_hasWay_93 : decode cX12_hasWay 93 = .ok (.iload 7, 2) := by decide +kernel
theorem dX12_hasWay_95 : decode cX12_hasWay 95 = .ok (.iadd, 1) := by decide +kernel
theorem dX12_hasWay_96 : decode cX12_hasWay 96 = .ok (.iaload, 1) := by decide +kernel
theorem dX12_hasWay_97 : decode cX12_hasWay 97 = .ok (.istore 8, 2) := by decide +kernel
theorem dX12_hasWay_99 : decode cX12_hasWay 99 = .ok (.iload_n 2, 1) := by decide +kernel
theorem dX12_hasWay_100 : decode cX12_hasWay 100 = .ok (.ifCond .eq 8, 3) := by decide +kernel
theorem dX12_hasWay_103 : decode cX12_hasWay 103 = .ok (.iload 8, 2) := by decide +kernel
theorem dX12_hasWay_105 : decode cX12_hasWay 105 = .ok (.goto 19, 3) := by decide +kernel
theorem dX12_hasWay_108 : decode cX12_hasWay 108 = .ok (.aload_n 0, 1) := by decide +kernel
theorem dX12_hasWay_109 : decode cX12_hasWay 109 = .ok (.getfield 48, 3) := by decide +kernel
theorem dX12_hasWay_112 : decode cX12_hasWay 112 = .ok (.bipush 17, 2) := by decide +kernel
theorem dX12_hasWay_114 : decode cX12_hasWay 114 = .ok (.iload 4, 2) := by decide +kernel
theorem dX12_hasWay_116 : decode cX12_hasWay 116 = .ok (.imul, 1) := by decide +kernel
theorem dX12_hasWay_117 : decode cX12_hasWay 117 = .ok (.iload 7, 2) := by decide +kernel
theorem dX12_hasWay_119 : decode cX12_hasWay 119 = .ok (.iadd, 1) := by decide +kernel
theorem dX12_hasWay_120 : decode cX12_hasWay 120 = .ok (.iaload, 1) := by decide +kernel
theorem dX12_hasWay_121 : decode cX12_hasWay 121 = .ok (.iload 8, 2) := by decide +kernel
theorem dX12_hasWay_123 : decode cX12_hasWay 123 = .ok (.isub, 1) := by decide +kernel
theorem dX12_hasWay_124 : decode cX12_hasWay 124 = .ok (.istore 9, 2) := by decide +kernel
theorem dX12_hasWay_126 : decode cX12_hasWay 126 = .ok (.iload 6, 2) := by decide +kernel
theorem dX12_hasWay_128 : decode cX12_hasWay 128 = .ok (.ifCond .ne 28, 3) := by decide +kernel
theorem dX12_hasWay_131 : decode cX12_hasWay 131 = .ok (.iload 9, 2) := by decide +kernel
theorem dX12_hasWay_133 : decode cX12_hasWay 133 = .ok (.ifCond .le 27, 3) := by decide +kernel
theorem dX12_hasWay_136 : decode cX12_hasWay 136 = .ok (.iload_n 3, 1) := by decide +kernel
theorem dX12_hasWay_137 : decode cX12_hasWay 137 = .ok (.ifCond .eq 19, 3) := by decide +kernel
theorem dX12_hasWay_140 : decode cX12_hasWay 140 = .ok (.aload_n 0, 1) := by decide +kernel
theorem dX12_hasWay_141 : decode cX12_hasWay 141 = .ok (.iload 5, 2) := by decide +kernel
theorem dX12_hasWay_143 : decode cX12_hasWay 143 = .ok (.iload 7, 2) := by decide +kernel
theorem dX12_hasWay_145 : decode cX12_hasWay 145 = .ok (.isub, 1) := by decide +kernel
theorem dX12_hasWay_146 : decode cX12_hasWay 146 = .ok (.aload_n 0, 1) := by decide +kernel
theorem dX12_hasWay_147 : decode cX12_hasWay 147 = .ok (.invokevirtual 274, 3) := by decide +kernel
theorem dX12_hasWay_150 : decode cX12_hasWay 150 = .ok (.invokevirtual 277, 3) := by decide +kernel
theorem dX12_hasWay_153 : decode cX12_hasWay 153 = .ok (.ifCond .eq 7, 3) := by decide +kernel
theorem dX12_hasWay_156 : decode cX12_hasWay 156 = .ok (.iconst 1, 1) := by decide +kernel
theorem dX12_hasWay_157 : decode cX12_hasWay 157 = .ok (.goto 4, 3) := by decide +kernel
theorem dX12_hasWay_160 : decode cX12_hasWay 160 = .ok (.iconst 0, 1) := by decide +kernel
theorem dX12_hasWay_161 : decode cX12_hasWay 161 = .ok (.istore 6, 2) := by decide +kernel
theorem dX12_hasWay_163 : decode cX12_hasWay 163 = .ok (.iinc 7 1, 3) := by decide +kernel
theorem dX12_hasWay_166 : decode cX12_hasWay 166 = .ok (.goto (-105), 3) := by decide +kernel
theorem dX12_hasWay_169 : decode cX12_hasWay 169 = .ok (.iload 6, 2) := by decide +kernel
theorem dX12_hasWay_171 : decode cX12_hasWay 171 = .ok (.ireturn, 1) := by decide +kernel
theorem dX12_isPossible_0 : decode cX12_isPossible 0 = .ok (.iload_n 3, 1) := by decide +kernel
theorem dX12_isPossible_1 : decode cX12_isPossible 1 = .ok (.ifCond .eq 13, 3) := by decide +kernel
theorem dX12_isPossible_4 : decode cX12_isPossible 4 = .ok (.aload_n 0, 1) := by decide +kernel
theorem dX12_isPossible_5 : decode cX12_isPossible 5 = .ok (.aload_n 0, 1) := by decide +kernel
theorem dX12_isPossible_6 : decode cX12_isPossible 6 = .ok (.getfield 39, 3) := by decide +kernel
theorem dX12_isPossible_9 : decode cX12_isPossible 9 = .ok (.iload_n 1, 1) := by decide +kernel
theorem dX12_isPossible_10 : decode cX12_isPossible 10 = .ok (.iaload, 1) := by decide +kernel
theorem dX12_isPossible_11 : decode cX12_isPossible 11 = .ok (.invokevirtual 264, 3) := by decide +kernel
theorem dX12_isPossible_14 : decode cX12_isPossible 14 = .ok (.aload_n 0, 1) := by decide +kernel
theorem dX12_isPossible_15 : decode cX12_isPossible 15 = .ok (.iload_n 1, 1) := by decide +kernel
theorem dX12_isPossible_16 : decode cX12_isPossible 16 = .ok (.iload_n 2, 1) := by decide +kernel
theorem dX12_isPossible_17 : decode cX12_isPossible 17 = .ok (.iload_n 3, 1) := by decide +kernel
theorem dX12_isPossible_18 : decode cX12_isPossible 18 = .ok (.invokevirtual 267, 3) := by decide +kernel
theorem dX12_isPossible_21 : decode cX12_isPossible 21 = .ok (.ireturn, 1) := by decide +kernel
theorem dX12_findByAll_0 : decode cX12_findByAll 0 = .ok (.aload_n 0, 1) := by decide +kernel
theorem dX12_findByAll_1 : decode cX12_findByAll 1 = .ok (.invokevirtual 280, 3) := by decide +kernel
theorem dX12_findByAll_4 : decode cX12_findByAll 4 = .ok (.aload_n 0, 1) := by decide +kernel
theorem dX12_findByAll_5 : decode cX12_findByAll 5 = .ok (.invokevirtual 283, 3) := by decide +kernel
theorem dX12_findByAll_8 : decode cX12_findByAll 8 = .ok (.ifCond .ne 4, 3) := by decide +kernel
theorem dX12_findByAll_11 : decode cX12_findByAll 11 = .ok (.return_, 1) := by decide +kernel
theorem dX12_findByAll_12 : decode cX12_findByAll 12 = .ok (.iconst (-1), 1) := by decide +kernel
theorem dX12_findByAll_13 : decode cX12_findByAll 13 = .ok (.istore_n 1, 1) := by decide +kernel
theorem dX12_findByAll_14 : decode cX12_findByAll 14 = .ok (.iload_n 1, 1) := by decide +kernel
theorem dX12_findByAll_15 : decode cX12_findByAll 15 = .ok (.aload_n 0, 1) := by decide +kernel
theorem dX12_findByAll_16 : decode cX12_findByAll 16 = .ok (.getfield 246, 3) := by decide +kernel
theorem dX12_findByAll_19 : decode cX12_findByAll 19 = .ok (.if_icmp .ge 108, 3) := by decide +kernel
theorem dX12_findByAll_22 : decode cX12_findByAll 22 = .ok (.aload_n 0, 1) := by decide +kernel
theorem dX12_findByAll_23 : decode cX12_findByAll 23 = .ok (.iload_n 1, 1) := by decide +kernel
theorem dX12_findByAll_24 : decode cX12_findByAll 24 = .ok (.invokevirtual 264, 3) := by decide +kernel
theorem dX12_findByAll_27 : decode cX12_findByAll 27 = .ok (.iconst 0, 1) := by decide +kernel
theorem dX12_findByAll_28 : decode cX12_findByAll 28 = .ok (.istore_n 2, 1) := by decide +kernel
theorem dX12_findByAll_29 : decode cX12_findByAll 29 = .ok (.iload_n 2, 1) := by decide +kernel
theorem dX12_findByAll_30 : decode cX12_findByAll 30 = .ok (.aload_n 0, 1) := by decide +kernel
theorem dX12_findByAll_31 : decode cX12_findByAll 31 = .ok (.getfield 100, 3) := by decide +kernel
theorem dX12_findByAll_34 : decode cX12_findByAll 34 = .ok (.if_icmp .ge 87, 3) := by decide +kernel
theorem dX12_findByAll_37 : decode cX12_findByAll 37 = .ok (.aload_n 0, 1) := by decide +kernel
theorem dX12_findByAll_38 : decode cX12_findByAll 38 = .ok (.iload_n 2, 1) := by decide +kernel
theorem dX12_findByAll_39 : decode cX12_findByAll 39 = .ok (.invokevirtual 143, 3) := by decide +kernel
theorem dX12_findByAll_42 : decode cX12_findByAll 42 = .ok (.ifCond .eq 73, 3) := by decide +kernel
theorem dX12_findByAll_45 : decode cX12_findByAll 45 = .ok (.aload_n 0, 1) := by decide +kernel
theorem dX12_findByAll_46 : decode cX12_findByAll 46 = .ok (.getfield 39, 3) := by decide +kernel
theorem dX12_findByAll_49 : decode cX12_findByAll 49 = .ok (.iload_n 2, 1) := by decide +kernel
theorem dX12_findByAll_50 : decode cX12_findByAll 50 = .ok (.iaload, 1) := by decide +kernel
theorem dX12_findByAll_51 : decode cX12_findByAll 51 = .ok (.iload_n 1, 1) := by decide +kernel
theorem dX12_findByAll_52 : decode cX12_findByAll 52 = .ok (.if_icmp .ne 63, 3) := by decide +kernel
theorem dX12_findByAll_55 : decode cX12_findByAll 55 = .ok (.aload_n 0, 1) := by decide +kernel
theorem dX12_findByAll_56 : decode cX12_findByAll 56 = .ok (.getfield 30, 3) := by decide +kernel
theorem dX12_findByAll_59 : decode cX12_findByAll 59 = .ok (.iload_n 2, 1) := by decide +kernel
theorem dX12_findByAll_60 : decode cX12_findByAll 60 = .ok (.aload_n 0, 1) := by decide +kernel
theorem dX12_findByAll_61 : decode cX12_findByAll 61 = .ok (.getfield 30, 3) := by decide +kernel
theorem dX12_findByAll_64 : decode cX12_findByAll 64 = .ok (.iload_n 2, 1) := by decide +kernel
theorem dX12_findByAll_65 : decode cX12_findByAll 65 = .ok (.baload, 1) := by decide +kernel
theorem dX12_findByAll_66 : decode cX12_findByAll 66 = .ok (.ifCond .ne 13, 3) := by decide +kernel
theorem dX12_findByAll_69 : decode cX12_findByAll 69 = .ok (.aload_n 0, 1) := by decide +kernel
theorem dX12_findByAll_70 : decode cX12_findByAll 70 = .ok (.iload_n 2, 1) := by decide +kernel
theorem dX12_findByAll_71 : decode cX12_findByAll 71 = .ok (.iconst 1, 1) := by decide +kernel
theorem dX12_findByAll_72 : decode cX12_findByAll 72 = .ok (.iconst 1, 1) := by decide +kernel
theorem dX12_findByAll_73 : decode cX12_findByAll 73 = .ok (.invokevirtual 267, 3) := by decide +kernel
theorem dX12_findByAll_76 : decode cX12_findByAll 76 = .ok (.ifCond .ne 7, 3) := by decide +kernel
theorem dX12_findByAll_79 : decode cX12_findByAll 79 = .ok (.iconst 1, 1) := by decide +kernel
theorem dX12_findByAll_80 : decode cX12_findByAll 80 = .ok (.goto 4, 3) := by decide +kernel
theorem dX12_findByAll_83 : decode cX12_findByAll 83 = .ok (.iconst 0, 1) := by decide +kernel
theorem dX12_findByAll_84 : decode cX12_findByAll 84 = .ok (.bastore, 1) := by decide +kernel
theorem dX12_findByAll_85 : decode cX12_findByAll 85 = .ok (.aload_n 0, 1) := by decide +kernel
theorem dX12_findByAll_86 : decode cX12_findByAll 86 = .ok (.getfield 33, 3) := by decide +kernel
theorem dX12_findByAll_89 : decode cX12_findByAll 89 = .ok (.iload_n 2, 1) := by decide +kernel
theorem dX12_findByAll_90 : decode cX12_findByAll 90 = .ok (.aload_n 0, 1) := by decide +kernel
theorem dX12_findByAll_91 : decode cX12_findByAll 91 = .ok (.getfield 33, 3) := by decide +kernel
theorem dX12_findByAll_94 : decode cX12_findByAll 94 = .ok (.iload_n 2, 1) := by decide +kernel
theorem dX12_findByAll_95 : decode cX12_findByAll 95 = .ok (.baload, 1) := by decide +kernel
theorem dX12_findByAll_96 : decode cX12_findByAll 96 = .ok (.ifCond .ne 13, 3) := by decide +kernel
theorem dX12_findByAll_99 : decode cX12_findByAll 99 = .ok (.aload_n 0, 1) := by decide +kernel
theorem dX12_findByAll_100 : decode cX12_findByAll 100 = .ok (.iload_n 2, 1) := by decide +kernel
theorem dX12_findByAll_101 : decode cX12_findByAll 101 = .ok (.iconst 0, 1) := by decide +kernel
theorem dX12_findByAll_102 : decode cX12_findByAll 102 = .ok (.iconst 1, 1) := by decide +kernel
theorem dX12_findByAll_103 : decode cX12_findByAll 103 = .ok (.invokevirtual 267, 3) := by decide +kernel
theorem dX12_findByAll_106 : decode cX12_findByAll 106 = .ok (.ifCond .ne 7, 3) := by decide +kernel
theorem dX12_findByAll_109 : decode cX12_findByAll 109 = .ok (.iconst 1, 1) := by decide +kernel
theorem dX12_findByAll_110 : decode cX12_findByAll 110 = .ok (.goto 4, 3) := by decide +kernel
theorem dX12_findByAll_113 : decode cX12_findByAll 113 = .ok (.iconst 0, 1) := by decide +kernel
theorem dX12_findByAll_114 : decode cX12_findByAll 114 = .ok (.bastore, 1) := by decide +kernel
theorem dX12_findByAll_115 : decode cX12_findByAll 115 = .ok (.iinc 2 1, 3) := by decide +kernel
theorem dX12_findByAll_118 : decode cX12_findByAll 118 = .ok (.goto (-89), 3) := by decide +kernel
theorem dX12_findByAll_121 : decode cX12_findByAll 121 = .ok (.iinc 1 1, 3) := by decide +kernel
theorem dX12_findByAll_124 : decode cX12_findByAll 124 = .ok (.goto (-110), 3) := by decide +kernel
theorem dX12_findByAll_127 : decode cX12_findByAll 127 = .ok (.return_, 1) := by decide +kernel
theorem dX12_findUpTo_0 : decode cX12_findUpTo 0 = .ok (.aload_n 0, 1) := by decide +kernel
theorem dX12_findUpTo_1 : decode cX12_findUpTo 1 = .ok (.iload_n 1, 1) := by decide +kernel
theorem dX12_findUpTo_2 : decode cX12_findUpTo 2 = .ok (.iconst 1, 1) := by decide +kernel
theorem dX12_findUpTo_3 : decode cX12_findUpTo 3 = .ok (.if_icmp .le 7, 3) := by decide +kernel
theorem dX12_findUpTo_6 : decode cX12_findUpTo 6 = .ok (.iconst 1, 1) := by decide +kernel
theorem dX12_findUpTo_7 : decode cX12_findUpTo 7 = .ok (.goto 4, 3) := by decide +kernel
theorem dX12_findUpTo_10 : decode cX12_findUpTo 10 = .ok (.iconst 0, 1) := by decide +kernel
theorem dX12_findUpTo_11 : decode cX12_findUpTo 11 = .ok (.invokevirtual 166, 3) := by decide +kernel
theorem dX12_findUpTo_14 : decode cX12_findUpTo 14 = .ok (.iload_n 1, 1) := by decide +kernel
theorem dX12_findUpTo_15 : decode cX12_findUpTo 15 = .ok (.iconst 3, 1) := by decide +kernel
theorem dX12_findUpTo_16 : decode cX12_findUpTo 16 = .ok (.if_icmp .ne 7, 3) := by decide +kernel
theorem dX12_findUpTo_19 : decode cX12_findUpTo 19 = .ok (.aload_n 0, 1) := by decide +kernel
theorem dX12_findUpTo_20 : decode cX12_findUpTo 20 = .ok (.invokevirtual 170, 3) := by decide +kernel
theorem dX12_findUpTo_23 : decode cX12_findUpTo 23 = .ok (.return_, 1) := by decide +kernel
theorem q_X12_foundAround : yX12_foundAround.cls = RX12 ∧ yX12_foundAround.cls ≠ "java/lang/invoke/MethodHandle" ∧ yX12_foundAround.cls ≠ "java/lang/invoke/VarHandle" ∧ (parseMethodDescriptor yX12_foundAround.desc).map (fun d => d.parameters.length) = some 2 := ⟨rfl, by decide, by decide, by decide +kernel⟩
theorem q_X12_restOf : yX12_restOf.cls = RX12 ∧ yX12_restOf.cls ≠ "java/lang/invoke/MethodHandle" ∧ yX12_restOf.cls ≠ "java/lang/invoke/VarHandle" ∧ (parseMethodDescriptor yX12_restOf.desc).map (fun d => d.parameters.length) = some 1 := ⟨rfl, by decide, by decide, by decide +kernel⟩
theorem q_X12_unknowns : yX12_unknowns.cls = RX12 ∧ yX12_unknowns.cls ≠ "java/lang/invoke/MethodHandle" ∧ yX12_unknowns.cls ≠ "java/lang/invoke/VarHandle" ∧ (parseMethodDescriptor yX12_unknowns.desc).map (fun d => d.parameters.length) = some 1 := ⟨rfl, by decide, by decide, by decide +kernel⟩
theorem q_X12_isOpenEnd : yX12_isOpenEnd.cls = RX12 ∧ yX12_isOpenEnd.cls ≠ "java/lang/invoke/MethodHandle" ∧ yX12_isOpenEnd.cls ≠ "java/lang/invoke/VarHandle" ∧ (parseMethodDescriptor yX12_isOpenEnd.desc).map (fun d => d.parameters.length) = some 1 := ⟨rfl, by decide, by decide, by decide +kernel⟩
theorem q_X12_find : yX12_find.cls = RX12 ∧ yX12_find.cls ≠ "java/lang/invoke/MethodHandle" ∧ yX12_find.cls ≠ "java/lang/invoke/VarHandle" ∧ (parseMethodDescriptor yX12_find.desc).map (fun d => d.parameters.length) = some 3 := ⟨rfl, by decide, by decide, by decide +kernel⟩
theorem q_X12_byOne : yX12_byOne.cls = RX12 ∧ yX12_byOne.cls ≠ "java/lang/invoke/MethodHandle" ∧ yX12_byOne.cls ≠ "java/lang/invoke/VarHandle" ∧ (parseMethodDescriptor yX12_byOne.desc).map (fun d => d.parameters.length) = some 1 := ⟨rfl, by decide, by decide, by decide +kernel⟩
theorem q_X12_endsBeside : yX12_endsBeside.cls = RX12 ∧ yX12_endsBeside.cls ≠ "java/lang/invoke/MethodHandle" ∧ yX12_endsBeside.cls ≠ "java/lang/invoke/VarHandle" ∧ (parseMethodDescriptor yX12_endsBeside.desc).map (fun d => d.parameters.length) = some 2 := ⟨rfl, by decide, by decide, by decide +kernel⟩
theorem q_X12_byTwo : yX12_byTwo.cls = RX12 ∧ yX12_byTwo.cls ≠ "java/lang/invoke/MethodHandle" ∧ yX12_byTwo.cls ≠ "java/lang/invoke/VarHandle" ∧ (parseMethodDescriptor yX12_byTwo.desc).map (fun d => d.parameters.length) = some 2 := ⟨rfl, by decide, by decide, by decide +kernel⟩
theorem q_X12_findByRules : yX12_findByRules.cls = RX12 ∧ yX12_findByRules.cls ≠ "java/lang/invoke/MethodHandle" ∧ yX12_findByRules.cls ≠ "java/lang/invoke/VarHandle" ∧ (parseMethodDescriptor yX12_findByRules.desc).map (fun d => d.parameters.length) = some 1 := ⟨rfl, by decide, by decide, by decide +kernel⟩
theorem q_X12_useAll : yX12_useAll.cls = RX12 ∧ yX12_useAll.cls ≠ "java/lang/invoke/MethodHandle" ∧ yX12_useAll.cls ≠ "java/lang/invoke/VarHandle" ∧ (parseMethodDescriptor yX12_useAll.desc).map (fun d => d.parameters.length) = some 0 := ⟨rfl, by decide, by decide, by decide +kernel⟩
theorem q_X12_joinAround : yX12_joinAround.cls = RX12 ∧ yX12_joinAround.cls ≠ "java/lang/invoke/MethodHandle" ∧ yX12_joinAround.cls ≠ "java/lang/invoke/VarHandle" ∧ (parseMethodDescriptor yX12_joinAround.desc).map (fun d => d.parameters.length) = some 1 := ⟨rfl, by decide, by decide, by decide +kernel⟩
theorem q_X12_divide : yX12_divide.cls = RX12 ∧ yX12_divide.cls ≠ "java/lang/invoke/MethodHandle" ∧ yX12_divide.cls ≠ "java/lang/invoke/VarHandle" ∧ (parseMethodDescriptor yX12_divide.desc).map (fun d => d.parameters.length) = some 0 := ⟨rfl, by decide, by decide, by decide +kernel⟩
theorem q_X12_gather : yX12_gather.cls = RX12 ∧ yX12_gather.cls ≠ "java/lang/invoke/MethodHandle" ∧ yX12_gather.cls ≠ "java/lang/invoke/VarHandle" ∧ (parseMethodDescriptor yX12_gather.desc).map (fun d => d.parameters.length) = some 1 := ⟨rfl, by decide, by decide, by decide +kernel⟩
theorem q_X12_isRight : yX12_isRight.cls = RX12 ∧ yX12_isRight.cls ≠ "java/lang/invoke/MethodHandle" ∧ yX12_isRight.cls ≠ "java/lang/invoke/VarHandle" ∧ (parseMethodDescriptor yX12_isRight.desc).map (fun d => d.parameters.length) = some 1 := ⟨rfl, by decide, by decide, by decide +kernel⟩
theorem q_X12_countPart : yX12_countPart.cls = RX12 ∧ yX12_countPart.cls ≠ "java/lang/invoke/MethodHandle" ∧ yX12_countPart.cls ≠ "java/lang/invoke/VarHandle" ∧ (parseMethodDescriptor yX12_countPart.desc).map (fun d => d.parameters.length) = some 1 := ⟨rfl, by decide, by decide, by decide +kernel⟩
theorem q_X12_countParts : yX12_countParts.cls = RX12 ∧ yX12_countParts.cls ≠ "java/lang/invoke/MethodHandle" ∧ yX12_countParts.cls ≠ "java/lang/invoke/VarHandle" ∧ (parseMethodDescriptor yX12_countParts.desc).map (fun d => d.parameters.length) = some 0 := ⟨rfl, by decide, by decide, by decide +kernel⟩
theorem q_X12_freeCells : yX12_freeCells.cls = RX12 ∧ yX12_freeCells.cls ≠ "java/lang/invoke/MethodHandle" ∧ yX12_freeCells.cls ≠ "java/lang/invoke/VarHandle" ∧ (parseMethodDescriptor yX12_freeCells.desc).map (fun d => d.parameters.length) = some 0 := ⟨rfl, by decide, by decide, by decide +kernel⟩
theorem q_X12_findReach : yX12_findReach.cls = RX12 ∧ yX12_findReach.cls ≠ "java/lang/invoke/MethodHandle" ∧ yX12_findReach.cls ≠ "java/lang/invoke/VarHandle" ∧ (parseMethodDescriptor yX12_findReach.desc).map (fun d => d.parameters.length) = some 1 := ⟨rfl, by decide, by decide, by decide +kernel⟩
theorem q_X12_fitsIn : yX12_fitsIn.cls = RX12 ∧ yX12_fitsIn.cls ≠ "java/lang/invoke/MethodHandle" ∧ yX12_fitsIn.cls ≠ "java/lang/invoke/VarHandle" ∧ (parseMethodDescriptor yX12_fitsIn.desc).map (fun d => d.parameters.length) = some 2 := ⟨rfl, by decide, by decide, by decide +kernel⟩
theorem q_X12_hasWay : yX12_hasWay.cls = RX12 ∧ yX12_hasWay.cls ≠ "java/lang/invoke/MethodHandle" ∧ yX12_hasWay.cls ≠ "java/lang/invoke/VarHandle" ∧ (parseMethodDescriptor yX12_hasWay.desc).map (fun d => d.parameters.length) = some 3 := ⟨rfl, by decide, by decide, by decide +kernel⟩
theorem q_X12_isPossible : yX12_isPossible.cls = RX12 ∧ yX12_isPossible.cls ≠ "java/lang/invoke/MethodHandle" ∧ yX12_isPossible.cls ≠ "java/lang/invoke/VarHandle" ∧ (parseMethodDescriptor yX12_isPossible.desc).map (fun d => d.parameters.length) = some 3 := ⟨rfl, by decide, by decide, by decide +kernel⟩
theorem q_X12_findByAll : yX12_findByAll.cls = RX12 ∧ yX12_findByAll.cls ≠ "java/lang/invoke/MethodHandle" ∧ yX12_findByAll.cls ≠ "java/lang/invoke/VarHandle" ∧ (parseMethodDescriptor yX12_findByAll.desc).map (fun d => d.parameters.length) = some 0 := ⟨rfl, by decide, by decide, by decide +kernel⟩
theorem q_X12_findUpTo : yX12_findUpTo.cls = RX12 ∧ yX12_findUpTo.cls ≠ "java/lang/invoke/MethodHandle" ∧ yX12_findUpTo.cls ≠ "java/lang/invoke/VarHandle" ∧ (parseMethodDescriptor yX12_findUpTo.desc).map (fun d => d.parameters.length) = some 1 := ⟨rfl, by decide, by decide, by decide +kernel⟩
def P_X12_foundAround (post : Int → Prop) (M_near : Int → Int) (M_degree : Int → Int) (M_state : Int → Int) (M_safe : Int → Int) (M_mined : Int → Int) (x1 : Int) (x2 : Int) : Prop :=
  ∃ Inv_1 : Nat → (Int) → (Int) → Prop, (∃ n_2 : Nat, Inv_1 n_2 0 0) ∧ ∀ (n_3 : Nat) (x3_6 : Int) (x4_7 : Int), inR x3_6 → inR x4_7 → Inv_1 n_3 x3_6 x4_7 → ((0 ≤ x1 ∧ x1 < 144) ∧ (∀ v_9 : Int, v_9 = M_degree x1 → inR v_9 → ((v_9 ≤ x4_7 → (post x3_6)) ∧ (¬ v_9 ≤ x4_7 → ((0 ≤ ((8 * x1) + x4_7) ∧ ((8 * x1) + x4_7) < 1152) ∧ (∀ v_12 : Int, v_12 = M_near ((8 * x1) + x4_7) → inR v_12 → (P_X12_isUnknown (fun (c_13 : Int) => (c_13 = 0 ∨ c_13 = 1) → (∃ J_14 : (Int) → Prop, (∃ J_22 : Prop, ((c_13 = 0 → (J_22)) ∧ (¬ c_13 = 0 → (∃ J_25 : Prop, ((x2 = 0 → ((0 ≤ v_12 ∧ v_12 < 144) ∧ (∀ v_29 : Int, v_29 = M_safe v_12 → (v_29 = 0 ∨ v_29 = 1) → ((v_29 = 0 → (J_22)) ∧ (¬ v_29 = 0 → (J_25)))))) ∧ (¬ x2 = 0 → ((0 ≤ v_12 ∧ v_12 < 144) ∧ (∀ v_32 : Int, v_32 = M_mined v_12 → (v_32 = 0 ∨ v_32 = 1) → ((v_32 = 0 → (J_22)) ∧ (¬ v_32 = 0 → (J_25))))))) ∧ (J_25 → (J_14 1))))) ∧ (J_22 → (J_14 0))) ∧ (∀ (z_16 : Int), inR z_16 → J_14 z_16 → (inR (x3_6 + z_16) ∧ (∀ x3_18 : Int, x3_18 = (x3_6 + z_16) → (inR (x4_7 + 1) ∧ (∀ x4_20 : Int, x4_20 = (x4_7 + 1) → (∃ n_21 : Nat, n_21 < n_3 ∧ Inv_1 n_21 x3_18 x4_20)))))))) M_state v_12)))))))
set_option maxRecDepth 100000 in
set_option maxHeartbeats 4000000 in
theorem c_X12_foundAround (l : Launch) (K : wK) (ad : Nat → Nat) {M_thrown : Int} {M_w : Int} {M_h : Int} {M_cells : Int} {M_shape : Int} {M_isBoard : Int} {M_isBlank : Int} {M_lives : Int} {M_moves : Int} {M_parts : Int} {M_numbers : Int} {M_grade : Int} {M_reasons : Int} {M_total : Int} {M_near : Int → Int} {M_degree : Int → Int} {M_mine : Int → Int} {M_state : Int → Int} {M_history : Int → Int64} {M_oldLives : Int → Int} {M_safe : Int → Int} {M_mined : Int → Int} {M_used : Int → Int} {M_partOf : Int → Int} {M_placeOf : Int → Int} {M_partSize : Int → Int} {M_ways : Int → Int} {M_with : Int → Int} {M_masks : Int → Int} {M_rests : Int → Int} {M_bits : Int → Int} {M_reach : Int → Int} {M_more : Int → Int} {M_reason : Int → Int} {M_big : Int → Int64} {M_region : Int → Int} (x1 : Int) (x2 : Int) (rx1 : inR x1) (bx2 : x2 = 0 ∨ x2 = 1) (post : Int → Prop) (h : P_X12_foundAround post M_near M_degree M_state M_safe M_mined x1 x2) : mI l yX12_foundAround (Cond.code yX12_foundAround cX12_foundAround 6 (some .int) :: GT) ({ frames := 3, cells := 0, slots := 0, locals := 180 } : Room) [.ref (ad 0), .int (iI x1), .int (iI x2)] K ad (mW M_thrown M_w M_h M_cells M_shape M_isBoard M_isBlank M_lives M_moves M_parts M_numbers M_grade M_reasons M_total M_near M_degree M_mine M_state M_history M_oldLives M_safe M_mined M_used M_partOf M_placeOf M_partSize M_ways M_with M_masks M_rests M_bits M_reach M_more M_reason M_big M_region) (fun z9 u9 => u9 = (mW M_thrown M_w M_h M_cells M_shape M_isBoard M_isBlank M_lives M_moves M_parts M_numbers M_grade M_reasons M_total M_near M_degree M_mine M_state M_history M_oldLives M_safe M_mined M_used M_partOf M_placeOf M_partSize M_ways M_with M_masks M_rests M_bits M_reach M_more M_reason M_big M_region) ∧ post z9) := by
  refine mI_of (lv0 := [(0, .ref (ad 0)), (1, .int (iI x1)), (2, .int (iI x2))]) (by decide) (Nat.le_of_ble_eq_true rfl) rfl ?_
  intro p e s m args below meth c Q A C ret
  replace C : Cx p ({ frames := 3, cells := 0, slots := 0, locals := 180 } : Room) m c 0 0 cX12_foundAround 6 s args RX12 K A := C
  unfold P_X12_foundAround at h
  refine wa_iconst C (z := 0) dX12_foundAround_0 rfl ?_
  refine wa_istore_n C dX12_foundAround_1 rfl (by decide) rfl ?_
  refine wa_iconst C (z := 0) dX12_foundAround_2 rfl ?_
  refine wa_istore C dX12_foundAround_3 (by decide) rfl ?_
  obtain ⟨Inv_1, ⟨n_2, h0Inv_1⟩, hInv_1⟩ := h
  have k_5 : ∀ (n_3 : Nat) (x3_6 : Int) (x4_7 : Int), inR x3_6 → inR x4_7 → Inv_1 n_3 x3_6 x4_7 → WA p l e ({ frames := 3, cells := 0, slots := 0, locals := 180 } : Room) s m args below meth c 0 0 Q K ad 6 A 5 [(0, .ref (ad 0)), (1, .int (iI x1)), (2, .int (iI x2)), (3, .int (iI x3_6)), (4, .int (iI x4_7))] [] (mW M_thrown M_w M_h M_cells M_shape M_isBoard M_isBlank M_lives M_moves M_parts M_numbers M_grade M_reasons M_total M_near M_degree M_mine M_state M_history M_oldLives M_safe M_mined M_used M_partOf M_placeOf M_partSize M_ways M_with M_masks M_rests M_bits M_reach M_more M_reason M_big M_region) := by
    intro n_3
    induction n_3 using Nat.strongRecOn with
    | ind n_3 ih_4 =>
      intro x3_6 x4_7 rx3_6 rx4_7 h
      replace h := hInv_1 n_3 x3_6 x4_7 rx3_6 rx4_7 h
      refine wa_iload C 4 rfl dX12_foundAround_5 ?_
      refine wa_aload_n C 0 rfl dX12_foundAround_7 rfl ?_
      refine wa_getR C 0 8 mW_0 rfl rfl (by decide) okX12 gw_1240 dX12_foundAround_8 ?_
      refine wa_iload_n C 1 rfl dX12_foundAround_11 rfl ?_
      obtain ⟨t_8, h⟩ := h
      refine wa_iald C 2 mW_2 dX12_foundAround_12 t_8.1 t_8.2 (fun v_9 ev_9 rv_9 => ?_)
      replace h := h v_9 ev_9 rv_9
      refine wa_icmp_ge C (tgt := 80) rx4_7 rv_9 dX12_foundAround_13 (by decide) (fun c_10 => ?_) (fun c_10 => ?_)
      · replace h := h.1 c_10
        refine wa_iload_n C 3 rfl dX12_foundAround_80 rfl ?_
        exact ret dX12_foundAround_81 rx3_6 ⟨rfl, h⟩
      · replace h := h.2 c_10
        refine wa_aload_n C 0 rfl dX12_foundAround_16 rfl ?_
        refine wa_getR C 0 7 mW_0 rfl rfl (by decide) okX12 gw_1239 dX12_foundAround_17 ?_
        refine wa_bipush C (z := 8) dX12_foundAround_20 (by decide) ?_
        refine wa_iload_n C 1 rfl dX12_foundAround_22 rfl ?_
        refine wa_imul C dX12_foundAround_23 ?_
        refine wa_iload C 4 rfl dX12_foundAround_24 ?_
        refine wa_iadd C dX12_foundAround_26 ?_
        obtain ⟨t_11, h⟩ := h
        refine wa_iald C 1 mW_1 dX12_foundAround_27 t_11.1 t_11.2 (fun v_12 ev_12 rv_12 => ?_)
        replace h := h v_12 ev_12 rv_12
        refine wa_istore C dX12_foundAround_28 (by decide) rfl ?_
        refine wa_iload_n C 4 rfl dX12_foundAround_30 rfl ?_
        refine wa_aload_n C 1 rfl dX12_foundAround_31 rfl ?_
        refine wa_iload C 0 rfl dX12_foundAround_32 ?_
        refine wa_callVi C (k := 0) (As := [.int (iI v_12)]) (rest := [.int (iI x3_6)]) (c_X12_isUnknown l K ad v_12 rv_12 _ h) gw_1411 gw_1408 mW_0 rfl gw_1410 gs_63 gw_12 q_X12_isUnknown rfl rfl rfl ⟨by decide, by decide⟩ rfl (Nat.le_of_ble_eq_true rfl) dX12_foundAround_34 (fun c_13 u9 rc_13 hp => ?_)
        obtain ⟨bc_13, rfl, h⟩ := hp
        replace h := h bc_13
        obtain ⟨J_14, h, hJ_14⟩ := h
        have k_15 : ∀ (z_16 : Int), inR z_16 → J_14 z_16 → WA p l e ({ frames := 3, cells := 0, slots := 0, locals := 180 } : Room) s m args below meth c 0 0 Q K ad 6 A 72 [(0, .ref (ad 0)), (1, .int (iI x1)), (2, .int (iI x2)), (4, .int (iI x4_7))] [.int (iI z_16), .int (iI x3_6)] (mW M_thrown M_w M_h M_cells M_shape M_isBoard M_isBlank M_lives M_moves M_parts M_numbers M_grade M_reasons M_total M_near M_degree M_mine M_state M_history M_oldLives M_safe M_mined M_used M_partOf M_placeOf M_partSize M_ways M_with M_masks M_rests M_bits M_reach M_more M_reason M_big M_region) := by
          intro z_16 rz_16 h
          replace h := hJ_14 z_16 rz_16 h
          refine wa_iadd C dX12_foundAround_72 ?_
          obtain ⟨r_17, h⟩ := h
          refine wa_nmi (fun x3_18 ex3_18 => ?_)
          replace h := h x3_18 ex3_18
          have rx3_18 : inR x3_18 := by rw [ex3_18]; exact r_17
          refine wa_istore_n C dX12_foundAround_73 rfl (by decide) rfl ?_
          obtain ⟨r_19, h⟩ := h
          refine wa_iinc C (lv' := fun w9 => [(4, .int (iI w9)), (3, .int (iI x3_18)), (0, .ref (ad 0)), (1, .int (iI x1)), (2, .int (iI x2))]) 4 rfl dX12_foundAround_74 (by decide) (fun _ => rfl) (fun x4_20 ex4_20 => ?_)
          replace h := h x4_20 ex4_20
          have rx4_20 : inR x4_20 := by rw [ex4_20]; exact r_19
          refine wa_goto C (tgt := 5) dX12_foundAround_77 (by decide) ?_
          obtain ⟨n_21, ln_21, h⟩ := h
          refine wa_sub C [2, 3, 4, 1, 0] rfl ?_
          exact ih_4 n_21 ln_21 x3_18 x4_20 rx3_18 rx4_20 h
        obtain ⟨J_22, h, hJ_22⟩ := h
        have k_23 : J_22 → WA p l e ({ frames := 3, cells := 0, slots := 0, locals := 180 } : Room) s m args below meth c 0 0 Q K ad 6 A 71 [(0, .ref (ad 0)), (1, .int (iI x1)), (2, .int (iI x2)), (4, .int (iI x4_7))] [.int (iI x3_6)] (mW M_thrown M_w M_h M_cells M_shape M_isBoard M_isBlank M_lives M_moves M_parts M_numbers M_grade M_reasons M_total M_near M_degree M_mine M_state M_history M_oldLives M_safe M_mined M_used M_partOf M_placeOf M_partSize M_ways M_with M_masks M_rests M_bits M_reach M_more M_reason M_big M_region) := by
          intro h
          replace h := hJ_22 h
          refine wa_iconst C (z := 0) dX12_foundAround_71 rfl ?_
          refine wa_sub C [0, 1, 2, 3] rfl ?_
          exact k_15 0 (inR_k 0 rfl) h
        refine wa_if_eq C (tgt := 71) (inR_b bc_13) dX12_foundAround_37 (by decide) (fun c_24 => ?_) (fun c_24 => ?_)
        · replace h := h.1 c_24
          refine wa_sub C [1, 2, 3, 5] rfl ?_
          exact k_23 h
        · replace h := h.2 c_24
          refine wa_iload_n C 3 rfl dX12_foundAround_40 rfl ?_
          obtain ⟨J_25, h, hJ_25⟩ := h
          have k_26 : J_25 → WA p l e ({ frames := 3, cells := 0, slots := 0, locals := 180 } : Room) s m args below meth c 0 0 Q K ad 6 A 67 [(0, .ref (ad 0)), (1, .int (iI x1)), (2, .int (iI x2)), (4, .int (iI x4_7))] [.int (iI x3_6)] (mW M_thrown M_w M_h M_cells M_shape M_isBoard M_isBlank M_lives M_moves M_parts M_numbers M_grade M_reasons M_total M_near M_degree M_mine M_state M_history M_oldLives M_safe M_mined M_used M_partOf M_placeOf M_partSize M_ways M_with M_masks M_rests M_bits M_reach M_more M_reason M_big M_region) := by
            intro h
            replace h := hJ_25 h
            refine wa_iconst C (z := 1) dX12_foundAround_67 rfl ?_
            refine wa_goto C (tgt := 72) dX12_foundAround_68 (by decide) ?_
            refine wa_sub C [0, 1, 2, 3] rfl ?_
            exact k_15 1 (inR_k 1 rfl) h
          refine wa_if_eq C (tgt := 57) (inR_b bx2) dX12_foundAround_41 (by decide) (fun c_27 => ?_) (fun c_27 => ?_)
          · replace h := h.1 c_27
            refine wa_aload_n C 1 rfl dX12_foundAround_57 rfl ?_
            refine wa_getR C 0 15 mW_0 rfl rfl (by decide) okX12 gw_1247 dX12_foundAround_58 ?_
            refine wa_iload C 0 rfl dX12_foundAround_61 ?_
            obtain ⟨t_28, h⟩ := h
            refine wa_bald C 7 mW_7 dX12_foundAround_63 t_28.1 t_28.2 (fun v_29 ev_29 rv_29 => ?_)
            replace h := h v_29 ev_29 rv_29
            refine wa_if_eq C (tgt := 71) (inR_b rv_29) dX12_foundAround_64 (by decide) (fun c_30 => ?_) (fun c_30 => ?_)
            · replace h := h.1 c_30
              refine wa_sub C [1, 2, 3, 5] rfl ?_
              exact k_23 h
            · replace h := h.2 c_30
              refine wa_sub C [1, 2, 3, 5] rfl ?_
              exact k_26 h
          · replace h := h.2 c_27
            refine wa_aload_n C 1 rfl dX12_foundAround_44 rfl ?_
            refine wa_getR C 0 16 mW_0 rfl rfl (by decide) okX12 gw_1248 dX12_foundAround_45 ?_
            refine wa_iload C 0 rfl dX12_foundAround_48 ?_
            obtain ⟨t_31, h⟩ := h
            refine wa_bald C 8 mW_8 dX12_foundAround_50 t_31.1 t_31.2 (fun v_32 ev_32 rv_32 => ?_)
            replace h := h v_32 ev_32 rv_32
            refine wa_if_eq C (tgt := 71) (inR_b rv_32) dX12_foundAround_51 (by decide) (fun c_33 => ?_) (fun c_33 => ?_)
            · replace h := h.1 c_33
              refine wa_sub C [1, 2, 3, 5] rfl ?_
              exact k_23 h
            · replace h := h.2 c_33
              refine wa_goto C (tgt := 67) dX12_foundAround_54 (by decide) ?_
              refine wa_sub C [1, 2, 3, 5] rfl ?_
              exact k_26 h
  refine wa_sub C [2, 3, 4, 1, 0] rfl ?_
  exact k_5 n_2 0 0 (inR_k 0 rfl) (inR_k 0 rfl) h0Inv_1
def P_X12_restOf (post : Int → Prop) (M_near : Int → Int) (M_degree : Int → Int) (M_mine : Int → Int) (M_state : Int → Int) (x1 : Int) : Prop :=
  P_X12_numberOf (fun (c_1 : Int) => inR c_1 → (P_X12_around (fun (c_2 : Int) => inR c_2 → (inR (c_1 - c_2) ∧ (post (c_1 - c_2)))) M_near M_degree M_state x1 3)) M_near M_degree M_mine x1
set_option maxRecDepth 100000 in
set_option maxHeartbeats 4000000 in
theorem c_X12_restOf (l : Launch) (K : wK) (ad : Nat → Nat) {M_thrown : Int} {M_w : Int} {M_h : Int} {M_cells : Int} {M_shape : Int} {M_isBoard : Int} {M_isBlank : Int} {M_lives : Int} {M_moves : Int} {M_parts : Int} {M_numbers : Int} {M_grade : Int} {M_reasons : Int} {M_total : Int} {M_near : Int → Int} {M_degree : Int → Int} {M_mine : Int → Int} {M_state : Int → Int} {M_history : Int → Int64} {M_oldLives : Int → Int} {M_safe : Int → Int} {M_mined : Int → Int} {M_used : Int → Int} {M_partOf : Int → Int} {M_placeOf : Int → Int} {M_partSize : Int → Int} {M_ways : Int → Int} {M_with : Int → Int} {M_masks : Int → Int} {M_rests : Int → Int} {M_bits : Int → Int} {M_reach : Int → Int} {M_more : Int → Int} {M_reason : Int → Int} {M_big : Int → Int64} {M_region : Int → Int} (x1 : Int) (rx1 : inR x1) (post : Int → Prop) (h : P_X12_restOf post M_near M_degree M_mine M_state x1) : mI l yX12_restOf (Cond.code yX12_restOf cX12_restOf 2 (some .int) :: GT) ({ frames := 3, cells := 0, slots := 0, locals := 180 } : Room) [.ref (ad 0), .int (iI x1)] K ad (mW M_thrown M_w M_h M_cells M_shape M_isBoard M_isBlank M_lives M_moves M_parts M_numbers M_grade M_reasons M_total M_near M_degree M_mine M_state M_history M_oldLives M_safe M_mined M_used M_partOf M_placeOf M_partSize M_ways M_with M_masks M_rests M_bits M_reach M_more M_reason M_big M_region) (fun z9 u9 => u9 = (mW M_thrown M_w M_h M_cells M_shape M_isBoard M_isBlank M_lives M_moves M_parts M_numbers M_grade M_reasons M_total M_near M_degree M_mine M_state M_history M_oldLives M_safe M_mined M_used M_partOf M_placeOf M_partSize M_ways M_with M_masks M_rests M_bits M_reach M_more M_reason M_big M_region) ∧ post z9) := by
  refine mI_of (lv0 := [(0, .ref (ad 0)), (1, .int (iI x1))]) (by decide) (Nat.le_of_ble_eq_true rfl) rfl ?_
  intro p e s m args below meth c Q A C ret
  replace C : Cx p ({ frames := 3, cells := 0, slots := 0, locals := 180 } : Room) m c 0 0 cX12_restOf 2 s args RX12 K A := C
  unfold P_X12_restOf at h
  refine wa_aload_n C 0 rfl dX12_restOf_0 rfl ?_
  refine wa_iload_n C 1 rfl dX12_restOf_1 rfl ?_
  refine wa_callVi C (k := 0) (As := [.int (iI x1)]) (rest := []) (c_X12_numberOf l K ad x1 rx1 _ h) gw_1407 gw_1404 mW_0 rfl gw_1406 gs_62 gw_12 q_X12_numberOf rfl rfl rfl ⟨by decide, by decide⟩ rfl (Nat.le_of_ble_eq_true rfl) dX12_restOf_2 (fun c_1 u9 rc_1 hp => ?_)
  obtain ⟨rfl, h⟩ := hp
  replace h := h rc_1
  refine wa_aload_n C 0 rfl dX12_restOf_5 rfl ?_
  refine wa_iload_n C 1 rfl dX12_restOf_6 rfl ?_
  refine wa_iconst C (z := 3) dX12_restOf_7 rfl ?_
  refine wa_callVi C (k := 0) (As := [.int (iI x1), .int (iI 3)]) (rest := [.int (iI c_1)]) (c_X12_around l K ad x1 3 rx1 (inR_k 3 rfl) _ h) gw_1435 gw_1432 mW_0 rfl gw_1434 gs_69 gw_12 q_X12_around rfl rfl rfl ⟨by decide, by decide⟩ rfl (Nat.le_of_ble_eq_true rfl) dX12_restOf_8 (fun c_2 u9 rc_2 hp => ?_)
  obtain ⟨rfl, h⟩ := hp
  replace h := h rc_2
  refine wa_isub C dX12_restOf_11 ?_
  obtain ⟨r_3, h⟩ := h
  exact ret dX12_restOf_12 r_3 ⟨rfl, h⟩
def P_X12_unknowns (post : Int → Prop) (M_near : Int → Int) (M_degree : Int → Int) (M_state : Int → Int) (x1 : Int) : Prop :=
  P_X12_around (fun (c_1 : Int) => inR c_1 → (P_X12_around (fun (c_2 : Int) => inR c_2 → (inR (c_1 + c_2) ∧ (post (c_1 + c_2)))) M_near M_degree M_state x1 2)) M_near M_degree M_state x1 0
set_option maxRecDepth 100000 in
set_option maxHeartbeats 4000000 in
theorem c_X12_unknowns (l : Launch) (K : wK) (ad : Nat → Nat) {M_thrown : Int} {M_w : Int} {M_h : Int} {M_cells : Int} {M_shape : Int} {M_isBoard : Int} {M_isBlank : Int} {M_lives : Int} {M_moves : Int} {M_parts : Int} {M_numbers : Int} {M_grade : Int} {M_reasons : Int} {M_total : Int} {M_near : Int → Int} {M_degree : Int → Int} {M_mine : Int → Int} {M_state : Int → Int} {M_history : Int → Int64} {M_oldLives : Int → Int} {M_safe : Int → Int} {M_mined : Int → Int} {M_used : Int → Int} {M_partOf : Int → Int} {M_placeOf : Int → Int} {M_partSize : Int → Int} {M_ways : Int → Int} {M_with : Int → Int} {M_masks : Int → Int} {M_rests : Int → Int} {M_bits : Int → Int} {M_reach : Int → Int} {M_more : Int → Int} {M_reason : Int → Int} {M_big : Int → Int64} {M_region : Int → Int} (x1 : Int) (rx1 : inR x1) (post : Int → Prop) (h : P_X12_unknowns post M_near M_degree M_state x1) : mI l yX12_unknowns (Cond.code yX12_unknowns cX12_unknowns 2 (some .int) :: GT) ({ frames := 3, cells := 0, slots := 0, locals := 180 } : Room) [.ref (ad 0), .int (iI x1)] K ad (mW M_thrown M_w M_h M_cells M_shape M_isBoard M_isBlank M_lives M_moves M_parts M_numbers M_grade M_reasons M_total M_near M_degree M_mine M_state M_history M_oldLives M_safe M_mined M_used M_partOf M_placeOf M_partSize M_ways M_with M_masks M_rests M_bits M_reach M_more M_reason M_big M_region) (fun z9 u9 => u9 = (mW M_thrown M_w M_h M_cells M_shape M_isBoard M_isBlank M_lives M_moves M_parts M_numbers M_grade M_reasons M_total M_near M_degree M_mine M_state M_history M_oldLives M_safe M_mined M_used M_partOf M_placeOf M_partSize M_ways M_with M_masks M_rests M_bits M_reach M_more M_reason M_big M_region) ∧ post z9) := by
  refine mI_of (lv0 := [(0, .ref (ad 0)), (1, .int (iI x1))]) (by decide) (Nat.le_of_ble_eq_true rfl) rfl ?_
  intro p e s m args below meth c Q A C ret
  replace C : Cx p ({ frames := 3, cells := 0, slots := 0, locals := 180 } : Room) m c 0 0 cX12_unknowns 2 s args RX12 K A := C
  unfold P_X12_unknowns at h
  refine wa_aload_n C 0 rfl dX12_unknowns_0 rfl ?_
  refine wa_iload_n C 1 rfl dX12_unknowns_1 rfl ?_
  refine wa_iconst C (z := 0) dX12_unknowns_2 rfl ?_
  refine wa_callVi C (k := 0) (As := [.int (iI x1), .int (iI 0)]) (rest := []) (c_X12_around l K ad x1 0 rx1 (inR_k 0 rfl) _ h) gw_1435 gw_1432 mW_0 rfl gw_1434 gs_69 gw_12 q_X12_around rfl rfl rfl ⟨by decide, by decide⟩ rfl (Nat.le_of_ble_eq_true rfl) dX12_unknowns_3 (fun c_1 u9 rc_1 hp => ?_)
  obtain ⟨rfl, h⟩ := hp
  replace h := h rc_1
  refine wa_aload_n C 0 rfl dX12_unknowns_6 rfl ?_
  refine wa_iload_n C 1 rfl dX12_unknowns_7 rfl ?_
  refine wa_iconst C (z := 2) dX12_unknowns_8 rfl ?_
  refine wa_callVi C (k := 0) (As := [.int (iI x1), .int (iI 2)]) (rest := [.int (iI c_1)]) (c_X12_around l K ad x1 2 rx1 (inR_k 2 rfl) _ h) gw_1435 gw_1432 mW_0 rfl gw_1434 gs_69 gw_12 q_X12_around rfl rfl rfl ⟨by decide, by decide⟩ rfl (Nat.le_of_ble_eq_true rfl) dX12_unknowns_9 (fun c_2 u9 rc_2 hp => ?_)
  obtain ⟨rfl, h⟩ := hp
  replace h := h rc_2
  refine wa_iadd C dX12_unknowns_12 ?_
  obtain ⟨r_3, h⟩ := h
  exact ret dX12_unknowns_13 r_3 ⟨rfl, h⟩
def P_X12_isOpenEnd (post : Int → Prop) (M_state : Int → Int) (M_safe : Int → Int) (M_mined : Int → Int) (x1 : Int) : Prop :=
  P_X12_isUnknown (fun (c_1 : Int) => (c_1 = 0 ∨ c_1 = 1) → (∃ J_2 : (Int) → Prop, (∃ J_6 : Prop, ((c_1 = 0 → (J_6)) ∧ (¬ c_1 = 0 → ((0 ≤ x1 ∧ x1 < 144) ∧ (∀ v_10 : Int, v_10 = M_safe x1 → (v_10 = 0 ∨ v_10 = 1) → ((¬ v_10 = 0 → (J_6)) ∧ (v_10 = 0 → ((0 ≤ x1 ∧ x1 < 144) ∧ (∀ v_13 : Int, v_13 = M_mined x1 → (v_13 = 0 ∨ v_13 = 1) → ((¬ v_13 = 0 → (J_6)) ∧ (v_13 = 0 → (J_2 1))))))))))) ∧ (J_6 → (J_2 0))) ∧ (∀ (z_4 : Int), inR z_4 → J_2 z_4 → ((z_4 = 0 ∨ z_4 = 1) ∧ (post z_4))))) M_state x1
set_option maxRecDepth 100000 in
set_option maxHeartbeats 4000000 in
theorem c_X12_isOpenEnd (l : Launch) (K : wK) (ad : Nat → Nat) {M_thrown : Int} {M_w : Int} {M_h : Int} {M_cells : Int} {M_shape : Int} {M_isBoard : Int} {M_isBlank : Int} {M_lives : Int} {M_moves : Int} {M_parts : Int} {M_numbers : Int} {M_grade : Int} {M_reasons : Int} {M_total : Int} {M_near : Int → Int} {M_degree : Int → Int} {M_mine : Int → Int} {M_state : Int → Int} {M_history : Int → Int64} {M_oldLives : Int → Int} {M_safe : Int → Int} {M_mined : Int → Int} {M_used : Int → Int} {M_partOf : Int → Int} {M_placeOf : Int → Int} {M_partSize : Int → Int} {M_ways : Int → Int} {M_with : Int → Int} {M_masks : Int → Int} {M_rests : Int → Int} {M_bits : Int → Int} {M_reach : Int → Int} {M_more : Int → Int} {M_reason : Int → Int} {M_big : Int → Int64} {M_region : Int → Int} (x1 : Int) (rx1 : inR x1) (post : Int → Prop) (h : P_X12_isOpenEnd post M_state M_safe M_mined x1) : mI l yX12_isOpenEnd (Cond.code yX12_isOpenEnd cX12_isOpenEnd 2 (some .boolean) :: GT) ({ frames := 3, cells := 0, slots := 0, locals := 180 } : Room) [.ref (ad 0), .int (iI x1)] K ad (mW M_thrown M_w M_h M_cells M_shape M_isBoard M_isBlank M_lives M_moves M_parts M_numbers M_grade M_reasons M_total M_near M_degree M_mine M_state M_history M_oldLives M_safe M_mined M_used M_partOf M_placeOf M_partSize M_ways M_with M_masks M_rests M_bits M_reach M_more M_reason M_big M_region) (fun z9 u9 => (z9 = 0 ∨ z9 = 1) ∧ u9 = (mW M_thrown M_w M_h M_cells M_shape M_isBoard M_isBlank M_lives M_moves M_parts M_numbers M_grade M_reasons M_total M_near M_degree M_mine M_state M_history M_oldLives M_safe M_mined M_used M_partOf M_placeOf M_partSize M_ways M_with M_masks M_rests M_bits M_reach M_more M_reason M_big M_region) ∧ post z9) := by
  refine mZ_of (lv0 := [(0, .ref (ad 0)), (1, .int (iI x1))]) (by decide) (Nat.le_of_ble_eq_true rfl) rfl ?_
  intro p e s m args below meth c Q A C ret
  replace C : Cx p ({ frames := 3, cells := 0, slots := 0, locals := 180 } : Room) m c 0 0 cX12_isOpenEnd 2 s args RX12 K A := C
  unfold P_X12_isOpenEnd at h
  refine wa_aload_n C 0 rfl dX12_isOpenEnd_0 rfl ?_
  refine wa_iload_n C 1 rfl dX12_isOpenEnd_1 rfl ?_
  refine wa_callVi C (k := 0) (As := [.int (iI x1)]) (rest := []) (c_X12_isUnknown l K ad x1 rx1 _ h) gw_1411 gw_1408 mW_0 rfl gw_1410 gs_63 gw_12 q_X12_isUnknown rfl rfl rfl ⟨by decide, by decide⟩ rfl (Nat.le_of_ble_eq_true rfl) dX12_isOpenEnd_2 (fun c_1 u9 rc_1 hp => ?_)
  obtain ⟨bc_1, rfl, h⟩ := hp
  replace h := h bc_1
  obtain ⟨J_2, h, hJ_2⟩ := h
  have k_3 : ∀ (z_4 : Int), inR z_4 → J_2 z_4 → WA p l e ({ frames := 3, cells := 0, slots := 0, locals := 180 } : Room) s m args below meth c 0 0 Q K ad 2 A 31 [] [.int (iI z_4)] (mW M_thrown M_w M_h M_cells M_shape M_isBoard M_isBlank M_lives M_moves M_parts M_numbers M_grade M_reasons M_total M_near M_degree M_mine M_state M_history M_oldLives M_safe M_mined M_used M_partOf M_placeOf M_partSize M_ways M_with M_masks M_rests M_bits M_reach M_more M_reason M_big M_region) := by
    intro z_4 rz_4 h
    replace h := hJ_2 z_4 rz_4 h
    obtain ⟨b_5, h⟩ := h
    exact ret dX12_isOpenEnd_31 b_5 ⟨b_5, rfl, h⟩
  obtain ⟨J_6, h, hJ_6⟩ := h
  have k_7 : J_6 → WA p l e ({ frames := 3, cells := 0, slots := 0, locals := 180 } : Room) s m args below meth c 0 0 Q K ad 2 A 30 [] [] (mW M_thrown M_w M_h M_cells M_shape M_isBoard M_isBlank M_lives M_moves M_parts M_numbers M_grade M_reasons M_total M_near M_degree M_mine M_state M_history M_oldLives M_safe M_mined M_used M_partOf M_placeOf M_partSize M_ways M_with M_masks M_rests M_bits M_reach M_more M_reason M_big M_region) := by
    intro h
    replace h := hJ_6 h
    refine wa_iconst C (z := 0) dX12_isOpenEnd_30 rfl ?_
    refine wa_sub C [] rfl ?_
    exact k_3 0 (inR_k 0 rfl) h
  refine wa_if_eq C (tgt := 30) (inR_b bc_1) dX12_isOpenEnd_5 (by decide) (fun c_8 => ?_) (fun c_8 => ?_)
  · replace h := h.1 c_8
    refine wa_sub C [] rfl ?_
    exact k_7 h
  · replace h := h.2 c_8
    refine wa_aload_n C 0 rfl dX12_isOpenEnd_8 rfl ?_
    refine wa_getR C 0 15 mW_0 rfl rfl (by decide) okX12 gw_1247 dX12_isOpenEnd_9 ?_
    refine wa_iload_n C 1 rfl dX12_isOpenEnd_12 rfl ?_
    obtain ⟨t_9, h⟩ := h
    refine wa_bald C 7 mW_7 dX12_isOpenEnd_13 t_9.1 t_9.2 (fun v_10 ev_10 rv_10 => ?_)
    replace h := h v_10 ev_10 rv_10
    refine wa_if_ne C (tgt := 30) (inR_b rv_10) dX12_isOpenEnd_14 (by decide) (fun c_11 => ?_) (fun c_11 => ?_)
    · replace h := h.1 c_11
      refine wa_sub C [] rfl ?_
      exact k_7 h
    · replace h := h.2 c_11
      refine wa_aload_n C 0 rfl dX12_isOpenEnd_17 rfl ?_
      refine wa_getR C 0 16 mW_0 rfl rfl (by decide) okX12 gw_1248 dX12_isOpenEnd_18 ?_
      refine wa_iload_n C 1 rfl dX12_isOpenEnd_21 rfl ?_
      obtain ⟨t_12, h⟩ := h
      refine wa_bald C 8 mW_8 dX12_isOpenEnd_22 t_12.1 t_12.2 (fun v_13 ev_13 rv_13 => ?_)
      replace h := h v_13 ev_13 rv_13
      refine wa_if_ne C (tgt := 30) (inR_b rv_13) dX12_isOpenEnd_23 (by decide) (fun c_14 => ?_) (fun c_14 => ?_)
      · replace h := h.1 c_14
        refine wa_sub C [] rfl ?_
        exact k_7 h
      · replace h := h.2 c_14
        refine wa_iconst C (z := 1) dX12_isOpenEnd_26 rfl ?_
        refine wa_goto C (tgt := 31) dX12_isOpenEnd_27 (by decide) ?_
        refine wa_sub C [] rfl ?_
        exact k_3 1 (inR_k 1 rfl) h
def P_X12_find (post : Int → (Int → Int) → (Int → Int) → Prop) (M_w : Int) (M_h : Int) (M_shape : Int) (M_near : Int → Int) (M_degree : Int → Int) (M_state : Int → Int) (M_safe : Int → Int) (M_mined : Int → Int) (x1 : Int) (x2 : Int) (x3 : Int) : Prop :=
  ∃ Inv_1 : Nat → (Int) → (Int) → (Int → Int) → (Int → Int) → Prop, (∃ n_2 : Nat, Inv_1 n_2 0 0 M_safe M_mined) ∧ ∀ (n_3 : Nat) (x4_6 : Int) (x5_7 : Int) (M_safe_8 : Int → Int) (M_mined_9 : Int → Int), inR x4_6 → inR x5_7 → Inv_1 n_3 x4_6 x5_7 M_safe_8 M_mined_9 → ((0 ≤ x1 ∧ x1 < 144) ∧ (∀ v_11 : Int, v_11 = M_degree x1 → inR v_11 → ((v_11 ≤ x5_7 → ((x4_6 = 0 ∨ x4_6 = 1) ∧ (post x4_6 M_safe_8 M_mined_9))) ∧ (¬ v_11 ≤ x5_7 → ((0 ≤ ((8 * x1) + x5_7) ∧ ((8 * x1) + x5_7) < 1152) ∧ (∀ v_15 : Int, v_15 = M_near ((8 * x1) + x5_7) → inR v_15 → (P_X12_isOpenEnd (fun (c_16 : Int) => (c_16 = 0 ∨ c_16 = 1) → (∃ J_17 : (Int) → (Int → Int) → (Int → Int) → Prop, ((c_16 = 0 → (J_17 x4_6 M_safe_8 M_mined_9)) ∧ (¬ c_16 = 0 → (∃ J_26 : Prop, ((x2 < 0 → (J_26)) ∧ (¬ x2 < 0 → (P_X12_areNear (fun (c_38 : Int) => (c_38 = 0 ∨ c_38 = 1) → ((¬ c_38 = 0 → (J_17 x4_6 M_safe_8 M_mined_9)) ∧ (c_38 = 0 → (J_26)))) M_w M_h M_shape x2 v_15))) ∧ (J_26 → (∃ J_28 : (Int → Int) → (Int → Int) → Prop, ((x3 = 0 → ((0 ≤ v_15 ∧ v_15 < 144) ∧ (∀ M_safe_34 : Int → Int, M_safe_34 = upZ M_safe_8 v_15 1 → (J_28 M_safe_34 M_mined_9)))) ∧ (¬ x3 = 0 → ((0 ≤ v_15 ∧ v_15 < 144) ∧ (∀ M_mined_36 : Int → Int, M_mined_36 = upZ M_mined_9 v_15 1 → (J_28 M_safe_8 M_mined_36))))) ∧ (∀ (M_safe_30 : Int → Int) (M_mined_31 : Int → Int), J_28 M_safe_30 M_mined_31 → (J_17 1 M_safe_30 M_mined_31))))))) ∧ (∀ (x4_19 : Int) (M_safe_20 : Int → Int) (M_mined_21 : Int → Int), inR x4_19 → J_17 x4_19 M_safe_20 M_mined_21 → (inR (x5_7 + 1) ∧ (∀ x5_23 : Int, x5_23 = (x5_7 + 1) → (∃ n_24 : Nat, n_24 < n_3 ∧ Inv_1 n_24 x4_19 x5_23 M_safe_20 M_mined_21)))))) M_state M_safe_8 M_mined_9 v_15)))))))
set_option maxRecDepth 100000 in
set_option maxHeartbeats 4000000 in
theorem c_X12_find (l : Launch) (K : wK) (ad : Nat → Nat) {M_thrown : Int} {M_w : Int} {M_h : Int} {M_cells : Int} {M_shape : Int} {M_isBoard : Int} {M_isBlank : Int} {M_lives : Int} {M_moves : Int} {M_parts : Int} {M_numbers : Int} {M_grade : Int} {M_reasons : Int} {M_total : Int} {M_near : Int → Int} {M_degree : Int → Int} {M_mine : Int → Int} {M_state : Int → Int} {M_history : Int → Int64} {M_oldLives : Int → Int} {M_safe : Int → Int} {M_mined : Int → Int} {M_used : Int → Int} {M_partOf : Int → Int} {M_placeOf : Int → Int} {M_partSize : Int → Int} {M_ways : Int → Int} {M_with : Int → Int} {M_masks : Int → Int} {M_rests : Int → Int} {M_bits : Int → Int} {M_reach : Int → Int} {M_more : Int → Int} {M_reason : Int → Int} {M_big : Int → Int64} {M_region : Int → Int} (x1 : Int) (x2 : Int) (x3 : Int) (rx1 : inR x1) (rx2 : inR x2) (bx3 : x3 = 0 ∨ x3 = 1) (post : Int → (Int → Int) → (Int → Int) → Prop) (h : P_X12_find post M_w M_h M_shape M_near M_degree M_state M_safe M_mined x1 x2 x3) : mI l yX12_find (Cond.code yX12_find cX12_find 7 (some .boolean) :: GT) ({ frames := 5, cells := 0, slots := 0, locals := 300 } : Room) [.ref (ad 0), .int (iI x1), .int (iI x2), .int (iI x3)] K ad (mW M_thrown M_w M_h M_cells M_shape M_isBoard M_isBlank M_lives M_moves M_parts M_numbers M_grade M_reasons M_total M_near M_degree M_mine M_state M_history M_oldLives M_safe M_mined M_used M_partOf M_placeOf M_partSize M_ways M_with M_masks M_rests M_bits M_reach M_more M_reason M_big M_region) (fun z9 u9 => (z9 = 0 ∨ z9 = 1) ∧ ∃ M_safe9 M_mined9, u9 = (mW M_thrown M_w M_h M_cells M_shape M_isBoard M_isBlank M_lives M_moves M_parts M_numbers M_grade M_reasons M_total M_near M_degree M_mine M_state M_history M_oldLives M_safe9 M_mined9 M_used M_partOf M_placeOf M_partSize M_ways M_with M_masks M_rests M_bits M_reach M_more M_reason M_big M_region) ∧ post z9 M_safe9 M_mined9) := by
  refine mZ_of (lv0 := [(0, .ref (ad 0)), (1, .int (iI x1)), (2, .int (iI x2)), (3, .int (iI x3))]) (by decide) (Nat.le_of_ble_eq_true rfl) rfl ?_
  intro p e s m args below meth c Q A C ret
  replace C : Cx p ({ frames := 5, cells := 0, slots := 0, locals := 300 } : Room) m c 0 0 cX12_find 7 s args RX12 K A := C
  unfold P_X12_find at h
  refine wa_iconst C (z := 0) dX12_find_0 rfl ?_
  refine wa_istore C dX12_find_1 (by decide) rfl ?_
  refine wa_iconst C (z := 0) dX12_find_3 rfl ?_
  refine wa_istore C dX12_find_4 (by decide) rfl ?_
  obtain ⟨Inv_1, ⟨n_2, h0Inv_1⟩, hInv_1⟩ := h
  have k_5 : ∀ (n_3 : Nat) (x4_6 : Int) (x5_7 : Int) (M_safe_8 : Int → Int) (M_mined_9 : Int → Int), inR x4_6 → inR x5_7 → Inv_1 n_3 x4_6 x5_7 M_safe_8 M_mined_9 → WA p l e ({ frames := 5, cells := 0, slots := 0, locals := 300 } : Room) s m args below meth c 0 0 Q K ad 7 A 6 [(0, .ref (ad 0)), (1, .int (iI x1)), (2, .int (iI x2)), (3, .int (iI x3)), (4, .int (iI x4_6)), (5, .int (iI x5_7))] [] (mW M_thrown M_w M_h M_cells M_shape M_isBoard M_isBlank M_lives M_moves M_parts M_numbers M_grade M_reasons M_total M_near M_degree M_mine M_state M_history M_oldLives M_safe_8 M_mined_9 M_used M_partOf M_placeOf M_partSize M_ways M_with M_masks M_rests M_bits M_reach M_more M_reason M_big M_region) := by
    intro n_3
    induction n_3 using Nat.strongRecOn with
    | ind n_3 ih_4 =>
      intro x4_6 x5_7 M_safe_8 M_mined_9 rx4_6 rx5_7 h
      replace h := hInv_1 n_3 x4_6 x5_7 M_safe_8 M_mined_9 rx4_6 rx5_7 h
      refine wa_iload C 5 rfl dX12_find_6 ?_
      refine wa_aload_n C 0 rfl dX12_find_8 rfl ?_
      refine wa_getR C 0 8 mW_0 rfl rfl (by decide) okX12 gw_1240 dX12_find_9 ?_
      refine wa_iload_n C 1 rfl dX12_find_12 rfl ?_
      obtain ⟨t_10, h⟩ := h
      refine wa_iald C 2 mW_2 dX12_find_13 t_10.1 t_10.2 (fun v_11 ev_11 rv_11 => ?_)
      replace h := h v_11 ev_11 rv_11
      refine wa_icmp_ge C (tgt := 86) rx5_7 rv_11 dX12_find_14 (by decide) (fun c_12 => ?_) (fun c_12 => ?_)
      · replace h := h.1 c_12
        refine wa_iload C 4 rfl dX12_find_86 ?_
        obtain ⟨b_13, h⟩ := h
        exact ret dX12_find_88 b_13 ⟨b_13, _, _, rfl, h⟩
      · replace h := h.2 c_12
        refine wa_aload_n C 0 rfl dX12_find_17 rfl ?_
        refine wa_getR C 0 7 mW_0 rfl rfl (by decide) okX12 gw_1239 dX12_find_18 ?_
        refine wa_bipush C (z := 8) dX12_find_21 (by decide) ?_
        refine wa_iload_n C 1 rfl dX12_find_23 rfl ?_
        refine wa_imul C dX12_find_24 ?_
        refine wa_iload C 5 rfl dX12_find_25 ?_
        refine wa_iadd C dX12_find_27 ?_
        obtain ⟨t_14, h⟩ := h
        refine wa_iald C 1 mW_1 dX12_find_28 t_14.1 t_14.2 (fun v_15 ev_15 rv_15 => ?_)
        replace h := h v_15 ev_15 rv_15
        refine wa_istore C dX12_find_29 (by decide) rfl ?_
        refine wa_aload_n C 1 rfl dX12_find_31 rfl ?_
        refine wa_iload C 0 rfl dX12_find_32 ?_
        refine wa_callVi C (k := 0) (As := [.int (iI v_15)]) (rest := []) (c_X12_isOpenEnd l K ad v_15 rv_15 _ h) gw_1443 gw_1440 mW_0 rfl gw_1442 gs_71 gw_12 q_X12_isOpenEnd rfl rfl rfl ⟨by decide, by decide⟩ rfl (Nat.le_of_ble_eq_true rfl) dX12_find_34 (fun c_16 u9 rc_16 hp => ?_)
        obtain ⟨bc_16, rfl, h⟩ := hp
        replace h := h bc_16
        obtain ⟨J_17, h, hJ_17⟩ := h
        have k_18 : ∀ (x4_19 : Int) (M_safe_20 : Int → Int) (M_mined_21 : Int → Int), inR x4_19 → J_17 x4_19 M_safe_20 M_mined_21 → WA p l e ({ frames := 5, cells := 0, slots := 0, locals := 300 } : Room) s m args below meth c 0 0 Q K ad 7 A 80 [(0, .ref (ad 0)), (1, .int (iI x1)), (2, .int (iI x2)), (3, .int (iI x3)), (4, .int (iI x4_19)), (5, .int (iI x5_7))] [] (mW M_thrown M_w M_h M_cells M_shape M_isBoard M_isBlank M_lives M_moves M_parts M_numbers M_grade M_reasons M_total M_near M_degree M_mine M_state M_history M_oldLives M_safe_20 M_mined_21 M_used M_partOf M_placeOf M_partSize M_ways M_with M_masks M_rests M_bits M_reach M_more M_reason M_big M_region) := by
          intro x4_19 M_safe_20 M_mined_21 rx4_19 h
          replace h := hJ_17 x4_19 M_safe_20 M_mined_21 rx4_19 h
          obtain ⟨r_22, h⟩ := h
          refine wa_iinc C (lv' := fun w9 => [(5, .int (iI w9)), (0, .ref (ad 0)), (1, .int (iI x1)), (2, .int (iI x2)), (3, .int (iI x3)), (4, .int (iI x4_19))]) 5 rfl dX12_find_80 (by decide) (fun _ => rfl) (fun x5_23 ex5_23 => ?_)
          replace h := h x5_23 ex5_23
          have rx5_23 : inR x5_23 := by rw [ex5_23]; exact r_22
          refine wa_goto C (tgt := 6) dX12_find_83 (by decide) ?_
          obtain ⟨n_24, ln_24, h⟩ := h
          refine wa_sub C [1, 2, 3, 4, 5, 0] rfl ?_
          exact ih_4 n_24 ln_24 x4_19 x5_23 M_safe_20 M_mined_21 rx4_19 rx5_23 h
        refine wa_if_eq C (tgt := 80) (inR_b bc_16) dX12_find_37 (by decide) (fun c_25 => ?_) (fun c_25 => ?_)
        · replace h := h.1 c_25
          refine wa_sub C [1, 2, 3, 4, 5, 6] rfl ?_
          exact k_18 x4_6 M_safe_8 M_mined_9 rx4_6 h
        · replace h := h.2 c_25
          refine wa_iload_n C 3 rfl dX12_find_40 rfl ?_
          obtain ⟨J_26, h, hJ_26⟩ := h
          have k_27 : J_26 → WA p l e ({ frames := 5, cells := 0, slots := 0, locals := 300 } : Room) s m args below meth c 0 0 Q K ad 7 A 54 [(0, .ref (ad 0)), (1, .int (iI x1)), (2, .int (iI x2)), (3, .int (iI x3)), (5, .int (iI x5_7)), (6, .int (iI v_15))] [] (mW M_thrown M_w M_h M_cells M_shape M_isBoard M_isBlank M_lives M_moves M_parts M_numbers M_grade M_reasons M_total M_near M_degree M_mine M_state M_history M_oldLives M_safe_8 M_mined_9 M_used M_partOf M_placeOf M_partSize M_ways M_with M_masks M_rests M_bits M_reach M_more M_reason M_big M_region) := by
            intro h
            replace h := hJ_26 h
            refine wa_iload_n C 3 rfl dX12_find_54 rfl ?_
            obtain ⟨J_28, h, hJ_28⟩ := h
            have k_29 : ∀ (M_safe_30 : Int → Int) (M_mined_31 : Int → Int), J_28 M_safe_30 M_mined_31 → WA p l e ({ frames := 5, cells := 0, slots := 0, locals := 300 } : Room) s m args below meth c 0 0 Q K ad 7 A 77 [(0, .ref (ad 0)), (1, .int (iI x1)), (2, .int (iI x2)), (3, .int (iI x3)), (5, .int (iI x5_7))] [] (mW M_thrown M_w M_h M_cells M_shape M_isBoard M_isBlank M_lives M_moves M_parts M_numbers M_grade M_reasons M_total M_near M_degree M_mine M_state M_history M_oldLives M_safe_30 M_mined_31 M_used M_partOf M_placeOf M_partSize M_ways M_with M_masks M_rests M_bits M_reach M_more M_reason M_big M_region) := by
              intro M_safe_30 M_mined_31 h
              replace h := hJ_28 M_safe_30 M_mined_31 h
              refine wa_iconst C (z := 1) dX12_find_77 rfl ?_
              refine wa_istore C dX12_find_78 (by decide) rfl ?_
              refine wa_sub C [1, 2, 3, 4, 0, 5] rfl ?_
              exact k_18 1 M_safe_30 M_mined_31 (inR_k 1 rfl) h
            refine wa_if_eq C (tgt := 69) (inR_b bx3) dX12_find_55 (by decide) (fun c_32 => ?_) (fun c_32 => ?_)
            · replace h := h.1 c_32
              refine wa_aload_n C 0 rfl dX12_find_69 rfl ?_
              refine wa_getR C 0 15 mW_0 rfl rfl (by decide) okX12 gw_1247 dX12_find_70 ?_
              refine wa_iload C 5 rfl dX12_find_73 ?_
              refine wa_iconst C (z := 1) dX12_find_75 rfl ?_
              obtain ⟨t_33, h⟩ := h
              refine wa_bast C (ws' := fun w9 => (mW M_thrown M_w M_h M_cells M_shape M_isBoard M_isBlank M_lives M_moves M_parts M_numbers M_grade M_reasons M_total M_near M_degree M_mine M_state M_history M_oldLives w9 M_mined_9 M_used M_partOf M_placeOf M_partSize M_ways M_with M_masks M_rests M_bits M_reach M_more M_reason M_big M_region)) 7 mW_7 dX12_find_76 t_33.1 t_33.2 (Or.inr rfl) mWs_7 (fun M_safe_34 eM_safe_34 => ?_)
              replace h := h M_safe_34 eM_safe_34
              refine wa_sub C [0, 1, 2, 3, 4] rfl ?_
              exact k_29 M_safe_34 M_mined_9 h
            · replace h := h.2 c_32
              refine wa_aload_n C 0 rfl dX12_find_58 rfl ?_
              refine wa_getR C 0 16 mW_0 rfl rfl (by decide) okX12 gw_1248 dX12_find_59 ?_
              refine wa_iload C 5 rfl dX12_find_62 ?_
              refine wa_iconst C (z := 1) dX12_find_64 rfl ?_
              obtain ⟨t_35, h⟩ := h
              refine wa_bast C (ws' := fun w9 => (mW M_thrown M_w M_h M_cells M_shape M_isBoard M_isBlank M_lives M_moves M_parts M_numbers M_grade M_reasons M_total M_near M_degree M_mine M_state M_history M_oldLives M_safe_8 w9 M_used M_partOf M_placeOf M_partSize M_ways M_with M_masks M_rests M_bits M_reach M_more M_reason M_big M_region)) 8 mW_8 dX12_find_65 t_35.1 t_35.2 (Or.inr rfl) mWs_8 (fun M_mined_36 eM_mined_36 => ?_)
              replace h := h M_mined_36 eM_mined_36
              refine wa_goto C (tgt := 77) dX12_find_66 (by decide) ?_
              refine wa_sub C [0, 1, 2, 3, 4] rfl ?_
              exact k_29 M_safe_8 M_mined_36 h
          refine wa_if_lt C (tgt := 54) rx2 dX12_find_41 (by decide) (fun c_37 => ?_) (fun c_37 => ?_)
          · replace h := h.1 c_37
            refine wa_sub C [1, 2, 3, 4, 6, 0] rfl ?_
            exact k_27 h
          · replace h := h.2 c_37
            refine wa_aload_n C 1 rfl dX12_find_44 rfl ?_
            refine wa_iload_n C 3 rfl dX12_find_45 rfl ?_
            refine wa_iload C 0 rfl dX12_find_46 ?_
            refine wa_callVi C (k := 0) (As := [.int (iI x2), .int (iI v_15)]) (rest := []) (c_X12_areNear l K ad x2 v_15 rx2 rv_15 _ h) gw_1373 gw_1370 mW_0 rfl gw_1372 gs_54 gw_12 q_X12_areNear rfl rfl rfl ⟨by decide, by decide⟩ rfl (Nat.le_of_ble_eq_true rfl) dX12_find_48 (fun c_38 u9 rc_38 hp => ?_)
            obtain ⟨bc_38, rfl, h⟩ := hp
            replace h := h bc_38
            refine wa_if_ne C (tgt := 80) (inR_b bc_38) dX12_find_51 (by decide) (fun c_39 => ?_) (fun c_39 => ?_)
            · replace h := h.1 c_39
              refine wa_sub C [1, 2, 3, 4, 5, 6] rfl ?_
              exact k_18 x4_6 M_safe_8 M_mined_9 rx4_6 h
            · replace h := h.2 c_39
              refine wa_sub C [1, 2, 3, 4, 6, 0] rfl ?_
              exact k_27 h
  refine wa_sub C [2, 3, 4, 5, 1, 0] rfl ?_
  exact k_5 n_2 0 0 M_safe M_mined (inR_k 0 rfl) (inR_k 0 rfl) h0Inv_1
def P_X12_byOne (post : Int → (Int → Int) → (Int → Int) → Prop) (M_w : Int) (M_h : Int) (M_shape : Int) (M_near : Int → Int) (M_degree : Int → Int) (M_mine : Int → Int) (M_state : Int → Int) (M_safe : Int → Int) (M_mined : Int → Int) (x1 : Int) : Prop :=
  P_X12_foundAround (fun (c_1 : Int) => inR c_1 → (P_X12_restOf (fun (c_2 : Int) => inR c_2 → ((¬ c_1 = c_2 → (P_X12_unknowns (fun (c_4 : Int) => inR c_4 → (P_X12_foundAround (fun (c_5 : Int) => inR c_5 → (P_X12_restOf (fun (c_6 : Int) => inR c_6 → (inR (c_4 - c_5) ∧ ((¬ (c_4 - c_5) = c_6 → (post 0 M_safe M_mined)) ∧ ((c_4 - c_5) = c_6 → (P_X12_find (fun (c_9 : Int) (M_safe_10 : Int → Int) (M_mined_11 : Int → Int) => (c_9 = 0 ∨ c_9 = 1) → (post c_9 M_safe_10 M_mined_11)) M_w M_h M_shape M_near M_degree M_state M_safe M_mined x1 (-1) 1))))) M_near M_degree M_mine M_state x1)) M_near M_degree M_state M_safe M_mined x1 0)) M_near M_degree M_state x1)) ∧ (c_1 = c_2 → (P_X12_find (fun (c_12 : Int) (M_safe_13 : Int → Int) (M_mined_14 : Int → Int) => (c_12 = 0 ∨ c_12 = 1) → (post c_12 M_safe_13 M_mined_14)) M_w M_h M_shape M_near M_degree M_state M_safe M_mined x1 (-1) 0)))) M_near M_degree M_mine M_state x1)) M_near M_degree M_state M_safe M_mined x1 1
set_option maxRecDepth 100000 in
set_option maxHeartbeats 4000000 in
theorem c_X12_byOne (l : Launch) (K : wK) (ad : Nat → Nat) {M_thrown : Int} {M_w : Int} {M_h : Int} {M_cells : Int} {M_shape : Int} {M_isBoard : Int} {M_isBlank : Int} {M_lives : Int} {M_moves : Int} {M_parts : Int} {M_numbers : Int} {M_grade : Int} {M_reasons : Int} {M_total : Int} {M_near : Int → Int} {M_degree : Int → Int} {M_mine : Int → Int} {M_state : Int → Int} {M_history : Int → Int64} {M_oldLives : Int → Int} {M_safe : Int → Int} {M_mined : Int → Int} {M_used : Int → Int} {M_partOf : Int → Int} {M_placeOf : Int → Int} {M_partSize : Int → Int} {M_ways : Int → Int} {M_with : Int → Int} {M_masks : Int → Int} {M_rests : Int → Int} {M_bits : Int → Int} {M_reach : Int → Int} {M_more : Int → Int} {M_reason : Int → Int} {M_big : Int → Int64} {M_region : Int → Int} (x1 : Int) (rx1 : inR x1) (post : Int → (Int → Int) → (Int → Int) → Prop) (h : P_X12_byOne post M_w M_h M_shape M_near M_degree M_mine M_state M_safe M_mined x1) : mI l yX12_byOne (Cond.code yX12_byOne cX12_byOne 2 (some .boolean) :: GT) ({ frames := 6, cells := 0, slots := 0, locals := 360 } : Room) [.ref (ad 0), .int (iI x1)] K ad (mW M_thrown M_w M_h M_cells M_shape M_isBoard M_isBlank M_lives M_moves M_parts M_numbers M_grade M_reasons M_total M_near M_degree M_mine M_state M_history M_oldLives M_safe M_mined M_used M_partOf M_placeOf M_partSize M_ways M_with M_masks M_rests M_bits M_reach M_more M_reason M_big M_region) (fun z9 u9 => (z9 = 0 ∨ z9 = 1) ∧ ∃ M_safe9 M_mined9, u9 = (mW M_thrown M_w M_h M_cells M_shape M_isBoard M_isBlank M_lives M_moves M_parts M_numbers M_grade M_reasons M_total M_near M_degree M_mine M_state M_history M_oldLives M_safe9 M_mined9 M_used M_partOf M_placeOf M_partSize M_ways M_with M_masks M_rests M_bits M_reach M_more M_reason M_big M_region) ∧ post z9 M_safe9 M_mined9) := by
  refine mZ_of (lv0 := [(0, .ref (ad 0)), (1, .int (iI x1))]) (by decide) (Nat.le_of_ble_eq_true rfl) rfl ?_
  intro p e s m args below meth c Q A C ret
  replace C : Cx p ({ frames := 6, cells := 0, slots := 0, locals := 360 } : Room) m c 0 0 cX12_byOne 2 s args RX12 K A := C
  unfold P_X12_byOne at h
  refine wa_aload_n C 0 rfl dX12_byOne_0 rfl ?_
  refine wa_iload_n C 1 rfl dX12_byOne_1 rfl ?_
  refine wa_iconst C (z := 1) dX12_byOne_2 rfl ?_
  refine wa_callVi C (k := 0) (As := [.int (iI x1), .int (iI 1)]) (rest := []) (c_X12_foundAround l K ad x1 1 rx1 (Or.inr rfl) _ h) gw_1427 gw_1424 mW_0 rfl gw_1426 gs_67 gw_12 q_X12_foundAround rfl rfl rfl ⟨by decide, by decide⟩ rfl (Nat.le_of_ble_eq_true rfl) dX12_byOne_3 (fun c_1 u9 rc_1 hp => ?_)
  obtain ⟨rfl, h⟩ := hp
  replace h := h rc_1
  refine wa_aload_n C 0 rfl dX12_byOne_6 rfl ?_
  refine wa_iload_n C 1 rfl dX12_byOne_7 rfl ?_
  refine wa_callVi C (k := 0) (As := [.int (iI x1)]) (rest := [.int (iI c_1)]) (c_X12_restOf l K ad x1 rx1 _ h) gw_1431 gw_1428 mW_0 rfl gw_1430 gs_68 gw_12 q_X12_restOf rfl rfl rfl ⟨by decide, by decide⟩ rfl (Nat.le_of_ble_eq_true rfl) dX12_byOne_8 (fun c_2 u9 rc_2 hp => ?_)
  obtain ⟨rfl, h⟩ := hp
  replace h := h rc_2
  refine wa_icmp_ne C (tgt := 22) rc_1 rc_2 dX12_byOne_11 (by decide) (fun c_3 => ?_) (fun c_3 => ?_)
  · replace h := h.1 c_3
    refine wa_aload_n C 0 rfl dX12_byOne_22 rfl ?_
    refine wa_iload_n C 1 rfl dX12_byOne_23 rfl ?_
    refine wa_callVi C (k := 0) (As := [.int (iI x1)]) (rest := []) (c_X12_unknowns l K ad x1 rx1 _ h) gw_1447 gw_1444 mW_0 rfl gw_1446 gs_72 gw_12 q_X12_unknowns rfl rfl rfl ⟨by decide, by decide⟩ rfl (Nat.le_of_ble_eq_true rfl) dX12_byOne_24 (fun c_4 u9 rc_4 hp => ?_)
    obtain ⟨rfl, h⟩ := hp
    replace h := h rc_4
    refine wa_aload_n C 0 rfl dX12_byOne_27 rfl ?_
    refine wa_iload_n C 1 rfl dX12_byOne_28 rfl ?_
    refine wa_iconst C (z := 0) dX12_byOne_29 rfl ?_
    refine wa_callVi C (k := 0) (As := [.int (iI x1), .int (iI 0)]) (rest := [.int (iI c_4)]) (c_X12_foundAround l K ad x1 0 rx1 (Or.inl rfl) _ h) gw_1427 gw_1424 mW_0 rfl gw_1426 gs_67 gw_12 q_X12_foundAround rfl rfl rfl ⟨by decide, by decide⟩ rfl (Nat.le_of_ble_eq_true rfl) dX12_byOne_30 (fun c_5 u9 rc_5 hp => ?_)
    obtain ⟨rfl, h⟩ := hp
    replace h := h rc_5
    refine wa_isub C dX12_byOne_33 ?_
    refine wa_aload_n C 0 rfl dX12_byOne_34 rfl ?_
    refine wa_iload_n C 1 rfl dX12_byOne_35 rfl ?_
    refine wa_callVi C (k := 0) (As := [.int (iI x1)]) (rest := [.int (iI (c_4 - c_5))]) (c_X12_restOf l K ad x1 rx1 _ h) gw_1431 gw_1428 mW_0 rfl gw_1430 gs_68 gw_12 q_X12_restOf rfl rfl rfl ⟨by decide, by decide⟩ rfl (Nat.le_of_ble_eq_true rfl) dX12_byOne_36 (fun c_6 u9 rc_6 hp => ?_)
    obtain ⟨rfl, h⟩ := hp
    replace h := h rc_6
    obtain ⟨r_7, h⟩ := h
    refine wa_icmp_ne C (tgt := 50) r_7 rc_6 dX12_byOne_39 (by decide) (fun c_8 => ?_) (fun c_8 => ?_)
    · replace h := h.1 c_8
      refine wa_iconst C (z := 0) dX12_byOne_50 rfl ?_
      exact ret dX12_byOne_51 (Or.inl rfl) ⟨(Or.inl rfl), _, _, rfl, h⟩
    · replace h := h.2 c_8
      refine wa_aload_n C 0 rfl dX12_byOne_42 rfl ?_
      refine wa_iload_n C 1 rfl dX12_byOne_43 rfl ?_
      refine wa_iconst C (z := -1) dX12_byOne_44 rfl ?_
      refine wa_iconst C (z := 1) dX12_byOne_45 rfl ?_
      refine wa_callVi C (k := 0) (As := [.int (iI x1), .int (iI (-1)), .int (iI 1)]) (rest := []) (c_X12_find l K ad x1 (-1) 1 rx1 (inR_k (-1) rfl) (Or.inr rfl) _ h) gw_1439 gw_1436 mW_0 rfl gw_1438 gs_70 gw_12 q_X12_find rfl rfl rfl ⟨by decide, by decide⟩ rfl (Nat.le_of_ble_eq_true rfl) dX12_byOne_46 (fun c_9 u9 rc_9 hp => ?_)
      obtain ⟨bc_9, M_safe_10, M_mined_11, rfl, h⟩ := hp
      replace h := h bc_9
      exact ret dX12_byOne_49 bc_9 ⟨bc_9, _, _, rfl, h⟩
  · replace h := h.2 c_3
    refine wa_aload_n C 0 rfl dX12_byOne_14 rfl ?_
    refine wa_iload_n C 1 rfl dX12_byOne_15 rfl ?_
    refine wa_iconst C (z := -1) dX12_byOne_16 rfl ?_
    refine wa_iconst C (z := 0) dX12_byOne_17 rfl ?_
    refine wa_callVi C (k := 0) (As := [.int (iI x1), .int (iI (-1)), .int (iI 0)]) (rest := []) (c_X12_find l K ad x1 (-1) 0 rx1 (inR_k (-1) rfl) (Or.inl rfl) _ h) gw_1439 gw_1436 mW_0 rfl gw_1438 gs_70 gw_12 q_X12_find rfl rfl rfl ⟨by decide, by decide⟩ rfl (Nat.le_of_ble_eq_true rfl) dX12_byOne_18 (fun c_12 u9 rc_12 hp => ?_)
    obtain ⟨bc_12, M_safe_13, M_mined_14, rfl, h⟩ := hp
    replace h := h bc_12
    exact ret dX12_byOne_21 bc_12 ⟨bc_12, _, _, rfl, h⟩
def P_X12_endsBeside (post : Int → Prop) (M_w : Int) (M_h : Int) (M_shape : Int) (M_near : Int → Int) (M_degree : Int → Int) (M_state : Int → Int) (M_safe : Int → Int) (M_mined : Int → Int) (x1 : Int) (x2 : Int) : Prop :=
  ∃ Inv_1 : Nat → (Int) → (Int) → Prop, (∃ n_2 : Nat, Inv_1 n_2 0 0) ∧ ∀ (n_3 : Nat) (x3_6 : Int) (x4_7 : Int), inR x3_6 → inR x4_7 → Inv_1 n_3 x3_6 x4_7 → ((0 ≤ x1 ∧ x1 < 144) ∧ (∀ v_9 : Int, v_9 = M_degree x1 → inR v_9 → ((v_9 ≤ x4_7 → (post x3_6)) ∧ (¬ v_9 ≤ x4_7 → ((0 ≤ ((8 * x1) + x4_7) ∧ ((8 * x1) + x4_7) < 1152) ∧ (∀ v_12 : Int, v_12 = M_near ((8 * x1) + x4_7) → inR v_12 → (P_X12_isOpenEnd (fun (c_13 : Int) => (c_13 = 0 ∨ c_13 = 1) → (∃ J_14 : (Int) → Prop, (∃ J_22 : Prop, ((c_13 = 0 → (J_22)) ∧ (¬ c_13 = 0 → (∃ J_25 : Prop, ((x2 < 0 → (J_25)) ∧ (¬ x2 < 0 → (P_X12_areNear (fun (c_28 : Int) => (c_28 = 0 ∨ c_28 = 1) → ((¬ c_28 = 0 → (J_22)) ∧ (c_28 = 0 → (J_25)))) M_w M_h M_shape x2 v_12))) ∧ (J_25 → (J_14 1))))) ∧ (J_22 → (J_14 0))) ∧ (∀ (z_16 : Int), inR z_16 → J_14 z_16 → (inR (x3_6 + z_16) ∧ (∀ x3_18 : Int, x3_18 = (x3_6 + z_16) → (inR (x4_7 + 1) ∧ (∀ x4_20 : Int, x4_20 = (x4_7 + 1) → (∃ n_21 : Nat, n_21 < n_3 ∧ Inv_1 n_21 x3_18 x4_20)))))))) M_state M_safe M_mined v_12)))))))
set_option maxRecDepth 100000 in
set_option maxHeartbeats 4000000 in
theorem c_X12_endsBeside (l : Launch) (K : wK) (ad : Nat → Nat) {M_thrown : Int} {M_w : Int} {M_h : Int} {M_cells : Int} {M_shape : Int} {M_isBoard : Int} {M_isBlank : Int} {M_lives : Int} {M_moves : Int} {M_parts : Int} {M_numbers : Int} {M_grade : Int} {M_reasons : Int} {M_total : Int} {M_near : Int → Int} {M_degree : Int → Int} {M_mine : Int → Int} {M_state : Int → Int} {M_history : Int → Int64} {M_oldLives : Int → Int} {M_safe : Int → Int} {M_mined : Int → Int} {M_used : Int → Int} {M_partOf : Int → Int} {M_placeOf : Int → Int} {M_partSize : Int → Int} {M_ways : Int → Int} {M_with : Int → Int} {M_masks : Int → Int} {M_rests : Int → Int} {M_bits : Int → Int} {M_reach : Int → Int} {M_more : Int → Int} {M_reason : Int → Int} {M_big : Int → Int64} {M_region : Int → Int} (x1 : Int) (x2 : Int) (rx1 : inR x1) (rx2 : inR x2) (post : Int → Prop) (h : P_X12_endsBeside post M_w M_h M_shape M_near M_degree M_state M_safe M_mined x1 x2) : mI l yX12_endsBeside (Cond.code yX12_endsBeside cX12_endsBeside 6 (some .int) :: GT) ({ frames := 5, cells := 0, slots := 0, locals := 300 } : Room) [.ref (ad 0), .int (iI x1), .int (iI x2)] K ad (mW M_thrown M_w M_h M_cells M_shape M_isBoard M_isBlank M_lives M_moves M_parts M_numbers M_grade M_reasons M_total M_near M_degree M_mine M_state M_history M_oldLives M_safe M_mined M_used M_partOf M_placeOf M_partSize M_ways M_with M_masks M_rests M_bits M_reach M_more M_reason M_big M_region) (fun z9 u9 => u9 = (mW M_thrown M_w M_h M_cells M_shape M_isBoard M_isBlank M_lives M_moves M_parts M_numbers M_grade M_reasons M_total M_near M_degree M_mine M_state M_history M_oldLives M_safe M_mined M_used M_partOf M_placeOf M_partSize M_ways M_with M_masks M_rests M_bits M_reach M_more M_reason M_big M_region) ∧ post z9) := by
  refine mI_of (lv0 := [(0, .ref (ad 0)), (1, .int (iI x1)), (2, .int (iI x2))]) (by decide) (Nat.le_of_ble_eq_true rfl) rfl ?_
  intro p e s m args below meth c Q A C ret
  replace C : Cx p ({ frames := 5, cells := 0, slots := 0, locals := 300 } : Room) m c 0 0 cX12_endsBeside 6 s args RX12 K A := C
  unfold P_X12_endsBeside at h
  refine wa_iconst C (z := 0) dX12_endsBeside_0 rfl ?_
  refine wa_istore_n C dX12_endsBeside_1 rfl (by decide) rfl ?_
  refine wa_iconst C (z := 0) dX12_endsBeside_2 rfl ?_
  refine wa_istore C dX12_endsBeside_3 (by decide) rfl ?_
  obtain ⟨Inv_1, ⟨n_2, h0Inv_1⟩, hInv_1⟩ := h
  have k_5 : ∀ (n_3 : Nat) (x3_6 : Int) (x4_7 : Int), inR x3_6 → inR x4_7 → Inv_1 n_3 x3_6 x4_7 → WA p l e ({ frames := 5, cells := 0, slots := 0, locals := 300 } : Room) s m args below meth c 0 0 Q K ad 6 A 5 [(0, .ref (ad 0)), (1, .int (iI x1)), (2, .int (iI x2)), (3, .int (iI x3_6)), (4, .int (iI x4_7))] [] (mW M_thrown M_w M_h M_cells M_shape M_isBoard M_isBlank M_lives M_moves M_parts M_numbers M_grade M_reasons M_total M_near M_degree M_mine M_state M_history M_oldLives M_safe M_mined M_used M_partOf M_placeOf M_partSize M_ways M_with M_masks M_rests M_bits M_reach M_more M_reason M_big M_region) := by
    intro n_3
    induction n_3 using Nat.strongRecOn with
    | ind n_3 ih_4 =>
      intro x3_6 x4_7 rx3_6 rx4_7 h
      replace h := hInv_1 n_3 x3_6 x4_7 rx3_6 rx4_7 h
      refine wa_iload C 4 rfl dX12_endsBeside_5 ?_
      refine wa_aload_n C 0 rfl dX12_endsBeside_7 rfl ?_
      refine wa_getR C 0 8 mW_0 rfl rfl (by decide) okX12 gw_1240 dX12_endsBeside_8 ?_
      refine wa_iload_n C 1 rfl dX12_endsBeside_11 rfl ?_
      obtain ⟨t_8, h⟩ := h
      refine wa_iald C 2 mW_2 dX12_endsBeside_12 t_8.1 t_8.2 (fun v_9 ev_9 rv_9 => ?_)
      replace h := h v_9 ev_9 rv_9
      refine wa_icmp_ge C (tgt := 67) rx4_7 rv_9 dX12_endsBeside_13 (by decide) (fun c_10 => ?_) (fun c_10 => ?_)
      · replace h := h.1 c_10
        refine wa_iload_n C 3 rfl dX12_endsBeside_67 rfl ?_
        exact ret dX12_endsBeside_68 rx3_6 ⟨rfl, h⟩
      · replace h := h.2 c_10
        refine wa_aload_n C 0 rfl dX12_endsBeside_16 rfl ?_
        refine wa_getR C 0 7 mW_0 rfl rfl (by decide) okX12 gw_1239 dX12_endsBeside_17 ?_
        refine wa_bipush C (z := 8) dX12_endsBeside_20 (by decide) ?_
        refine wa_iload_n C 1 rfl dX12_endsBeside_22 rfl ?_
        refine wa_imul C dX12_endsBeside_23 ?_
        refine wa_iload C 4 rfl dX12_endsBeside_24 ?_
        refine wa_iadd C dX12_endsBeside_26 ?_
        obtain ⟨t_11, h⟩ := h
        refine wa_iald C 1 mW_1 dX12_endsBeside_27 t_11.1 t_11.2 (fun v_12 ev_12 rv_12 => ?_)
        replace h := h v_12 ev_12 rv_12
        refine wa_istore C dX12_endsBeside_28 (by decide) rfl ?_
        refine wa_iload_n C 4 rfl dX12_endsBeside_30 rfl ?_
        refine wa_aload_n C 1 rfl dX12_endsBeside_31 rfl ?_
        refine wa_iload C 0 rfl dX12_endsBeside_32 ?_
        refine wa_callVi C (k := 0) (As := [.int (iI v_12)]) (rest := [.int (iI x3_6)]) (c_X12_isOpenEnd l K ad v_12 rv_12 _ h) gw_1443 gw_1440 mW_0 rfl gw_1442 gs_71 gw_12 q_X12_isOpenEnd rfl rfl rfl ⟨by decide, by decide⟩ rfl (Nat.le_of_ble_eq_true rfl) dX12_endsBeside_34 (fun c_13 u9 rc_13 hp => ?_)
        obtain ⟨bc_13, rfl, h⟩ := hp
        replace h := h bc_13
        obtain ⟨J_14, h, hJ_14⟩ := h
        have k_15 : ∀ (z_16 : Int), inR z_16 → J_14 z_16 → WA p l e ({ frames := 5, cells := 0, slots := 0, locals := 300 } : Room) s m args below meth c 0 0 Q K ad 6 A 59 [(0, .ref (ad 0)), (1, .int (iI x1)), (2, .int (iI x2)), (4, .int (iI x4_7))] [.int (iI z_16), .int (iI x3_6)] (mW M_thrown M_w M_h M_cells M_shape M_isBoard M_isBlank M_lives M_moves M_parts M_numbers M_grade M_reasons M_total M_near M_degree M_mine M_state M_history M_oldLives M_safe M_mined M_used M_partOf M_placeOf M_partSize M_ways M_with M_masks M_rests M_bits M_reach M_more M_reason M_big M_region) := by
          intro z_16 rz_16 h
          replace h := hJ_14 z_16 rz_16 h
          refine wa_iadd C dX12_endsBeside_59 ?_
          obtain ⟨r_17, h⟩ := h
          refine wa_nmi (fun x3_18 ex3_18 => ?_)
          replace h := h x3_18 ex3_18
          have rx3_18 : inR x3_18 := by rw [ex3_18]; exact r_17
          refine wa_istore_n C dX12_endsBeside_60 rfl (by decide) rfl ?_
          obtain ⟨r_19, h⟩ := h
          refine wa_iinc C (lv' := fun w9 => [(4, .int (iI w9)), (3, .int (iI x3_18)), (0, .ref (ad 0)), (1, .int (iI x1)), (2, .int (iI x2))]) 4 rfl dX12_endsBeside_61 (by decide) (fun _ => rfl) (fun x4_20 ex4_20 => ?_)
          replace h := h x4_20 ex4_20
          have rx4_20 : inR x4_20 := by rw [ex4_20]; exact r_19
          refine wa_goto C (tgt := 5) dX12_endsBeside_64 (by decide) ?_
          obtain ⟨n_21, ln_21, h⟩ := h
          refine wa_sub C [2, 3, 4, 1, 0] rfl ?_
          exact ih_4 n_21 ln_21 x3_18 x4_20 rx3_18 rx4_20 h
        obtain ⟨J_22, h, hJ_22⟩ := h
        have k_23 : J_22 → WA p l e ({ frames := 5, cells := 0, slots := 0, locals := 300 } : Room) s m args below meth c 0 0 Q K ad 6 A 58 [(0, .ref (ad 0)), (1, .int (iI x1)), (2, .int (iI x2)), (4, .int (iI x4_7))] [.int (iI x3_6)] (mW M_thrown M_w M_h M_cells M_shape M_isBoard M_isBlank M_lives M_moves M_parts M_numbers M_grade M_reasons M_total M_near M_degree M_mine M_state M_history M_oldLives M_safe M_mined M_used M_partOf M_placeOf M_partSize M_ways M_with M_masks M_rests M_bits M_reach M_more M_reason M_big M_region) := by
          intro h
          replace h := hJ_22 h
          refine wa_iconst C (z := 0) dX12_endsBeside_58 rfl ?_
          refine wa_sub C [0, 1, 2, 3] rfl ?_
          exact k_15 0 (inR_k 0 rfl) h
        refine wa_if_eq C (tgt := 58) (inR_b bc_13) dX12_endsBeside_37 (by decide) (fun c_24 => ?_) (fun c_24 => ?_)
        · replace h := h.1 c_24
          refine wa_sub C [1, 2, 3, 5] rfl ?_
          exact k_23 h
        · replace h := h.2 c_24
          refine wa_iload_n C 3 rfl dX12_endsBeside_40 rfl ?_
          obtain ⟨J_25, h, hJ_25⟩ := h
          have k_26 : J_25 → WA p l e ({ frames := 5, cells := 0, slots := 0, locals := 300 } : Room) s m args below meth c 0 0 Q K ad 6 A 54 [(0, .ref (ad 0)), (1, .int (iI x1)), (2, .int (iI x2)), (4, .int (iI x4_7))] [.int (iI x3_6)] (mW M_thrown M_w M_h M_cells M_shape M_isBoard M_isBlank M_lives M_moves M_parts M_numbers M_grade M_reasons M_total M_near M_degree M_mine M_state M_history M_oldLives M_safe M_mined M_used M_partOf M_placeOf M_partSize M_ways M_with M_masks M_rests M_bits M_reach M_more M_reason M_big M_region) := by
            intro h
            replace h := hJ_25 h
            refine wa_iconst C (z := 1) dX12_endsBeside_54 rfl ?_
            refine wa_goto C (tgt := 59) dX12_endsBeside_55 (by decide) ?_
            refine wa_sub C [0, 1, 2, 3] rfl ?_
            exact k_15 1 (inR_k 1 rfl) h
          refine wa_if_lt C (tgt := 54) rx2 dX12_endsBeside_41 (by decide) (fun c_27 => ?_) (fun c_27 => ?_)
          · replace h := h.1 c_27
            refine wa_sub C [1, 2, 3, 5] rfl ?_
            exact k_26 h
          · replace h := h.2 c_27
            refine wa_aload_n C 1 rfl dX12_endsBeside_44 rfl ?_
            refine wa_iload_n C 3 rfl dX12_endsBeside_45 rfl ?_
            refine wa_iload C 0 rfl dX12_endsBeside_46 ?_
            refine wa_callVi C (k := 0) (As := [.int (iI x2), .int (iI v_12)]) (rest := [.int (iI x3_6)]) (c_X12_areNear l K ad x2 v_12 rx2 rv_12 _ h) gw_1373 gw_1370 mW_0 rfl gw_1372 gs_54 gw_12 q_X12_areNear rfl rfl rfl ⟨by decide, by decide⟩ rfl (Nat.le_of_ble_eq_true rfl) dX12_endsBeside_48 (fun c_28 u9 rc_28 hp => ?_)
            obtain ⟨bc_28, rfl, h⟩ := hp
            replace h := h bc_28
            refine wa_if_ne C (tgt := 58) (inR_b bc_28) dX12_endsBeside_51 (by decide) (fun c_29 => ?_) (fun c_29 => ?_)
            · replace h := h.1 c_29
              refine wa_sub C [1, 2, 3, 5] rfl ?_
              exact k_23 h
            · replace h := h.2 c_29
              refine wa_sub C [1, 2, 3, 5] rfl ?_
              exact k_26 h
  refine wa_sub C [2, 3, 4, 1, 0] rfl ?_
  exact k_5 n_2 0 0 (inR_k 0 rfl) (inR_k 0 rfl) h0Inv_1
def P_X12_byTwo (post : Int → (Int → Int) → (Int → Int) → Prop) (M_w : Int) (M_h : Int) (M_shape : Int) (M_near : Int → Int) (M_degree : Int → Int) (M_mine : Int → Int) (M_state : Int → Int) (M_safe : Int → Int) (M_mined : Int → Int) (x1 : Int) (x2 : Int) : Prop :=
  P_X12_endsBeside (fun (c_1 : Int) => inR c_1 → ((c_1 ≤ 0 → (P_X12_restOf (fun (c_3 : Int) => inR c_3 → (P_X12_foundAround (fun (c_4 : Int) => inR c_4 → (inR (c_3 - c_4) ∧ (∀ x3_6 : Int, x3_6 = (c_3 - c_4) → (P_X12_restOf (fun (c_7 : Int) => inR c_7 → (P_X12_foundAround (fun (c_8 : Int) => inR c_8 → (inR (c_7 - c_8) ∧ (∀ x4_10 : Int, x4_10 = (c_7 - c_8) → (P_X12_endsBeside (fun (c_11 : Int) => inR c_11 → ((¬ x3_6 = x4_10 → (inR (x4_10 - x3_6) ∧ (∃ J_14 : (Int → Int) → (Int → Int) → (Int) → Prop, (∃ J_20 : (Int → Int) → (Int → Int) → Prop, ((¬ (x4_10 - x3_6) = c_11 → (J_20 M_safe M_mined)) ∧ ((x4_10 - x3_6) = c_11 → (P_X12_find (fun (c_25 : Int) (M_safe_26 : Int → Int) (M_mined_27 : Int → Int) => (c_25 = 0 ∨ c_25 = 1) → ((c_25 = 0 → (J_20 M_safe_26 M_mined_27)) ∧ (¬ c_25 = 0 → (J_14 M_safe_26 M_mined_27 1)))) M_w M_h M_shape M_near M_degree M_state M_safe M_mined x2 x1 1))) ∧ (∀ (M_safe_22 : Int → Int) (M_mined_23 : Int → Int), J_20 M_safe_22 M_mined_23 → (J_14 M_safe_22 M_mined_23 0))) ∧ (∀ (M_safe_16 : Int → Int) (M_mined_17 : Int → Int) (z_18 : Int), inR z_18 → J_14 M_safe_16 M_mined_17 z_18 → ((z_18 = 0 ∨ z_18 = 1) ∧ (post z_18 M_safe_16 M_mined_17)))))) ∧ (x3_6 = x4_10 → (P_X12_find (fun (c_29 : Int) (M_safe_30 : Int → Int) (M_mined_31 : Int → Int) => (c_29 = 0 ∨ c_29 = 1) → (post c_29 M_safe_30 M_mined_31)) M_w M_h M_shape M_near M_degree M_state M_safe M_mined x2 x1 0)))) M_w M_h M_shape M_near M_degree M_state M_safe M_mined x2 x1)))) M_near M_degree M_state M_safe M_mined x2 1)) M_near M_degree M_mine M_state x2)))) M_near M_degree M_state M_safe M_mined x1 1)) M_near M_degree M_mine M_state x1)) ∧ (¬ c_1 ≤ 0 → (post 0 M_safe M_mined)))) M_w M_h M_shape M_near M_degree M_state M_safe M_mined x1 x2
set_option maxRecDepth 100000 in
set_option maxHeartbeats 4000000 in
theorem c_X12_byTwo (l : Launch) (K : wK) (ad : Nat → Nat) {M_thrown : Int} {M_w : Int} {M_h : Int} {M_cells : Int} {M_shape : Int} {M_isBoard : Int} {M_isBlank : Int} {M_lives : Int} {M_moves : Int} {M_parts : Int} {M_numbers : Int} {M_grade : Int} {M_reasons : Int} {M_total : Int} {M_near : Int → Int} {M_degree : Int → Int} {M_mine : Int → Int} {M_state : Int → Int} {M_history : Int → Int64} {M_oldLives : Int → Int} {M_safe : Int → Int} {M_mined : Int → Int} {M_used : Int → Int} {M_partOf : Int → Int} {M_placeOf : Int → Int} {M_partSize : Int → Int} {M_ways : Int → Int} {M_with : Int → Int} {M_masks : Int → Int} {M_rests : Int → Int} {M_bits : Int → Int} {M_reach : Int → Int} {M_more : Int → Int} {M_reason : Int → Int} {M_big : Int → Int64} {M_region : Int → Int} (x1 : Int) (x2 : Int) (rx1 : inR x1) (rx2 : inR x2) (post : Int → (Int → Int) → (Int → Int) → Prop) (h : P_X12_byTwo post M_w M_h M_shape M_near M_degree M_mine M_state M_safe M_mined x1 x2) : mI l yX12_byTwo (Cond.code yX12_byTwo cX12_byTwo 6 (some .boolean) :: GT) ({ frames := 6, cells := 0, slots := 0, locals := 360 } : Room) [.ref (ad 0), .int (iI x1), .int (iI x2)] K ad (mW M_thrown M_w M_h M_cells M_shape M_isBoard M_isBlank M_lives M_moves M_parts M_numbers M_grade M_reasons M_total M_near M_degree M_mine M_state M_history M_oldLives M_safe M_mined M_used M_partOf M_placeOf M_partSize M_ways M_with M_masks M_rests M_bits M_reach M_more M_reason M_big M_region) (fun z9 u9 => (z9 = 0 ∨ z9 = 1) ∧ ∃ M_safe9 M_mined9, u9 = (mW M_thrown M_w M_h M_cells M_shape M_isBoard M_isBlank M_lives M_moves M_parts M_numbers M_grade M_reasons M_total M_near M_degree M_mine M_state M_history M_oldLives M_safe9 M_mined9 M_used M_partOf M_placeOf M_partSize M_ways M_with M_masks M_rests M_bits M_reach M_more M_reason M_big M_region) ∧ post z9 M_safe9 M_mined9) := by
  refine mZ_of (lv0 := [(0, .ref (ad 0)), (1, .int (iI x1)), (2, .int (iI x2))]) (by decide) (Nat.le_of_ble_eq_true rfl) rfl ?_
  intro p e s m args below meth c Q A C ret
  replace C : Cx p ({ frames := 6, cells := 0, slots := 0, locals := 360 } : Room) m c 0 0 cX12_byTwo 6 s args RX12 K A := C
  unfold P_X12_byTwo at h
  refine wa_aload_n C 0 rfl dX12_byTwo_0 rfl ?_
  refine wa_iload_n C 1 rfl dX12_byTwo_1 rfl ?_
  refine wa_iload_n C 2 rfl dX12_byTwo_2 rfl ?_
  refine wa_callVi C (k := 0) (As := [.int (iI x1), .int (iI x2)]) (rest := []) (c_X12_endsBeside l K ad x1 x2 rx1 rx2 _ h) gw_1455 gw_1452 mW_0 rfl gw_1454 gs_74 gw_12 q_X12_endsBeside rfl rfl rfl ⟨by decide, by decide⟩ rfl (Nat.le_of_ble_eq_true rfl) dX12_byTwo_3 (fun c_1 u9 rc_1 hp => ?_)
  obtain ⟨rfl, h⟩ := hp
  replace h := h rc_1
  refine wa_if_le C (tgt := 11) rc_1 dX12_byTwo_6 (by decide) (fun c_2 => ?_) (fun c_2 => ?_)
  · replace h := h.1 c_2
    refine wa_aload_n C 0 rfl dX12_byTwo_11 rfl ?_
    refine wa_iload_n C 1 rfl dX12_byTwo_12 rfl ?_
    refine wa_callVi C (k := 0) (As := [.int (iI x1)]) (rest := []) (c_X12_restOf l K ad x1 rx1 _ h) gw_1431 gw_1428 mW_0 rfl gw_1430 gs_68 gw_12 q_X12_restOf rfl rfl rfl ⟨by decide, by decide⟩ rfl (Nat.le_of_ble_eq_true rfl) dX12_byTwo_13 (fun c_3 u9 rc_3 hp => ?_)
    obtain ⟨rfl, h⟩ := hp
    replace h := h rc_3
    refine wa_aload_n C 0 rfl dX12_byTwo_16 rfl ?_
    refine wa_iload_n C 1 rfl dX12_byTwo_17 rfl ?_
    refine wa_iconst C (z := 1) dX12_byTwo_18 rfl ?_
    refine wa_callVi C (k := 0) (As := [.int (iI x1), .int (iI 1)]) (rest := [.int (iI c_3)]) (c_X12_foundAround l K ad x1 1 rx1 (Or.inr rfl) _ h) gw_1427 gw_1424 mW_0 rfl gw_1426 gs_67 gw_12 q_X12_foundAround rfl rfl rfl ⟨by decide, by decide⟩ rfl (Nat.le_of_ble_eq_true rfl) dX12_byTwo_19 (fun c_4 u9 rc_4 hp => ?_)
    obtain ⟨rfl, h⟩ := hp
    replace h := h rc_4
    refine wa_isub C dX12_byTwo_22 ?_
    obtain ⟨r_5, h⟩ := h
    refine wa_nmi (fun x3_6 ex3_6 => ?_)
    replace h := h x3_6 ex3_6
    have rx3_6 : inR x3_6 := by rw [ex3_6]; exact r_5
    refine wa_istore_n C dX12_byTwo_23 rfl (by decide) rfl ?_
    refine wa_aload_n C 1 rfl dX12_byTwo_24 rfl ?_
    refine wa_iload_n C 3 rfl dX12_byTwo_25 rfl ?_
    refine wa_callVi C (k := 0) (As := [.int (iI x2)]) (rest := []) (c_X12_restOf l K ad x2 rx2 _ h) gw_1431 gw_1428 mW_0 rfl gw_1430 gs_68 gw_12 q_X12_restOf rfl rfl rfl ⟨by decide, by decide⟩ rfl (Nat.le_of_ble_eq_true rfl) dX12_byTwo_26 (fun c_7 u9 rc_7 hp => ?_)
    obtain ⟨rfl, h⟩ := hp
    replace h := h rc_7
    refine wa_aload_n C 1 rfl dX12_byTwo_29 rfl ?_
    refine wa_iload_n C 3 rfl dX12_byTwo_30 rfl ?_
    refine wa_iconst C (z := 1) dX12_byTwo_31 rfl ?_
    refine wa_callVi C (k := 0) (As := [.int (iI x2), .int (iI 1)]) (rest := [.int (iI c_7)]) (c_X12_foundAround l K ad x2 1 rx2 (Or.inr rfl) _ h) gw_1427 gw_1424 mW_0 rfl gw_1426 gs_67 gw_12 q_X12_foundAround rfl rfl rfl ⟨by decide, by decide⟩ rfl (Nat.le_of_ble_eq_true rfl) dX12_byTwo_32 (fun c_8 u9 rc_8 hp => ?_)
    obtain ⟨rfl, h⟩ := hp
    replace h := h rc_8
    refine wa_isub C dX12_byTwo_35 ?_
    obtain ⟨r_9, h⟩ := h
    refine wa_nmi (fun x4_10 ex4_10 => ?_)
    replace h := h x4_10 ex4_10
    have rx4_10 : inR x4_10 := by rw [ex4_10]; exact r_9
    refine wa_istore C dX12_byTwo_36 (by decide) rfl ?_
    refine wa_aload_n C 2 rfl dX12_byTwo_38 rfl ?_
    refine wa_iload_n C 4 rfl dX12_byTwo_39 rfl ?_
    refine wa_iload_n C 3 rfl dX12_byTwo_40 rfl ?_
    refine wa_callVi C (k := 0) (As := [.int (iI x2), .int (iI x1)]) (rest := []) (c_X12_endsBeside l K ad x2 x1 rx2 rx1 _ h) gw_1455 gw_1452 mW_0 rfl gw_1454 gs_74 gw_12 q_X12_endsBeside rfl rfl rfl ⟨by decide, by decide⟩ rfl (Nat.le_of_ble_eq_true rfl) dX12_byTwo_41 (fun c_11 u9 rc_11 hp => ?_)
    obtain ⟨rfl, h⟩ := hp
    replace h := h rc_11
    refine wa_istore C dX12_byTwo_44 (by decide) rfl ?_
    refine wa_iload_n C 2 rfl dX12_byTwo_46 rfl ?_
    refine wa_iload C 1 rfl dX12_byTwo_47 ?_
    refine wa_icmp_ne C (tgt := 60) rx3_6 rx4_10 dX12_byTwo_49 (by decide) (fun c_12 => ?_) (fun c_12 => ?_)
    · replace h := h.1 c_12
      refine wa_iload C 1 rfl dX12_byTwo_60 ?_
      refine wa_iload_n C 2 rfl dX12_byTwo_62 rfl ?_
      refine wa_isub C dX12_byTwo_63 ?_
      refine wa_iload C 0 rfl dX12_byTwo_64 ?_
      obtain ⟨r_13, h⟩ := h
      obtain ⟨J_14, h, hJ_14⟩ := h
      have k_15 : ∀ (M_safe_16 : Int → Int) (M_mined_17 : Int → Int) (z_18 : Int), inR z_18 → J_14 M_safe_16 M_mined_17 z_18 → WA p l e ({ frames := 6, cells := 0, slots := 0, locals := 360 } : Room) s m args below meth c 0 0 Q K ad 6 A 84 [] [.int (iI z_18)] (mW M_thrown M_w M_h M_cells M_shape M_isBoard M_isBlank M_lives M_moves M_parts M_numbers M_grade M_reasons M_total M_near M_degree M_mine M_state M_history M_oldLives M_safe_16 M_mined_17 M_used M_partOf M_placeOf M_partSize M_ways M_with M_masks M_rests M_bits M_reach M_more M_reason M_big M_region) := by
        intro M_safe_16 M_mined_17 z_18 rz_18 h
        replace h := hJ_14 M_safe_16 M_mined_17 z_18 rz_18 h
        obtain ⟨b_19, h⟩ := h
        exact ret dX12_byTwo_84 b_19 ⟨b_19, _, _, rfl, h⟩
      obtain ⟨J_20, h, hJ_20⟩ := h
      have k_21 : ∀ (M_safe_22 : Int → Int) (M_mined_23 : Int → Int), J_20 M_safe_22 M_mined_23 → WA p l e ({ frames := 6, cells := 0, slots := 0, locals := 360 } : Room) s m args below meth c 0 0 Q K ad 6 A 83 [] [] (mW M_thrown M_w M_h M_cells M_shape M_isBoard M_isBlank M_lives M_moves M_parts M_numbers M_grade M_reasons M_total M_near M_degree M_mine M_state M_history M_oldLives M_safe_22 M_mined_23 M_used M_partOf M_placeOf M_partSize M_ways M_with M_masks M_rests M_bits M_reach M_more M_reason M_big M_region) := by
        intro M_safe_22 M_mined_23 h
        replace h := hJ_20 M_safe_22 M_mined_23 h
        refine wa_iconst C (z := 0) dX12_byTwo_83 rfl ?_
        refine wa_sub C [] rfl ?_
        exact k_15 M_safe_22 M_mined_23 0 (inR_k 0 rfl) h
      refine wa_icmp_ne C (tgt := 83) r_13 rc_11 dX12_byTwo_66 (by decide) (fun c_24 => ?_) (fun c_24 => ?_)
      · replace h := h.1 c_24
        refine wa_sub C [] rfl ?_
        exact k_21 M_safe M_mined h
      · replace h := h.2 c_24
        refine wa_aload_n C 3 rfl dX12_byTwo_69 rfl ?_
        refine wa_iload_n C 5 rfl dX12_byTwo_70 rfl ?_
        refine wa_iload_n C 4 rfl dX12_byTwo_71 rfl ?_
        refine wa_iconst C (z := 1) dX12_byTwo_72 rfl ?_
        refine wa_callVi C (k := 0) (As := [.int (iI x2), .int (iI x1), .int (iI 1)]) (rest := []) (c_X12_find l K ad x2 x1 1 rx2 rx1 (Or.inr rfl) _ h) gw_1439 gw_1436 mW_0 rfl gw_1438 gs_70 gw_12 q_X12_find rfl rfl rfl ⟨by decide, by decide⟩ rfl (Nat.le_of_ble_eq_true rfl) dX12_byTwo_73 (fun c_25 u9 rc_25 hp => ?_)
        obtain ⟨bc_25, M_safe_26, M_mined_27, rfl, h⟩ := hp
        replace h := h bc_25
        refine wa_if_eq C (tgt := 83) (inR_b bc_25) dX12_byTwo_76 (by decide) (fun c_28 => ?_) (fun c_28 => ?_)
        · replace h := h.1 c_28
          refine wa_sub C [] rfl ?_
          exact k_21 M_safe_26 M_mined_27 h
        · replace h := h.2 c_28
          refine wa_iconst C (z := 1) dX12_byTwo_79 rfl ?_
          refine wa_goto C (tgt := 84) dX12_byTwo_80 (by decide) ?_
          refine wa_sub C [] rfl ?_
          exact k_15 M_safe_26 M_mined_27 1 (inR_k 1 rfl) h
    · replace h := h.2 c_12
      refine wa_aload_n C 3 rfl dX12_byTwo_52 rfl ?_
      refine wa_iload_n C 5 rfl dX12_byTwo_53 rfl ?_
      refine wa_iload_n C 4 rfl dX12_byTwo_54 rfl ?_
      refine wa_iconst C (z := 0) dX12_byTwo_55 rfl ?_
      refine wa_callVi C (k := 0) (As := [.int (iI x2), .int (iI x1), .int (iI 0)]) (rest := []) (c_X12_find l K ad x2 x1 0 rx2 rx1 (Or.inl rfl) _ h) gw_1439 gw_1436 mW_0 rfl gw_1438 gs_70 gw_12 q_X12_find rfl rfl rfl ⟨by decide, by decide⟩ rfl (Nat.le_of_ble_eq_true rfl) dX12_byTwo_56 (fun c_29 u9 rc_29 hp => ?_)
      obtain ⟨bc_29, M_safe_30, M_mined_31, rfl, h⟩ := hp
      replace h := h bc_29
      exact ret dX12_byTwo_59 bc_29 ⟨bc_29, _, _, rfl, h⟩
  · replace h := h.2 c_2
    refine wa_iconst C (z := 0) dX12_byTwo_9 rfl ?_
    exact ret dX12_byTwo_10 (Or.inl rfl) ⟨(Or.inl rfl), _, _, rfl, h⟩
def P_X12_findByRules (post : (Int → Int) → (Int → Int) → Prop) (M_w : Int) (M_h : Int) (M_cells : Int) (M_shape : Int) (M_near : Int → Int) (M_degree : Int → Int) (M_mine : Int → Int) (M_state : Int → Int) (M_safe : Int → Int) (M_mined : Int → Int) (x1 : Int) : Prop :=
  ∃ Inv_1 : Nat → (Int) → (Int → Int) → (Int → Int) → Prop, (∃ n_2 : Nat, Inv_1 n_2 0 M_safe M_mined) ∧ ∀ (n_3 : Nat) (x2_6 : Int) (M_safe_7 : Int → Int) (M_mined_8 : Int → Int), inR x2_6 → Inv_1 n_3 x2_6 M_safe_7 M_mined_8 → ((M_cells ≤ x2_6 → (∃ Inv_11 : Nat → (Int) → (Int → Int) → (Int → Int) → Prop, (∃ n_12 : Nat, Inv_11 n_12 1 M_safe_7 M_mined_8) ∧ ∀ (n_13 : Nat) (x2_16 : Int) (M_safe_17 : Int → Int) (M_mined_18 : Int → Int), inR x2_16 → Inv_11 n_13 x2_16 M_safe_17 M_mined_18 → ((x2_16 = 0 → (post M_safe_17 M_mined_18)) ∧ (¬ x2_16 = 0 → (∃ Inv_20 : Nat → (Int) → (Int) → (Int → Int) → (Int → Int) → Prop, (∃ n_21 : Nat, Inv_20 n_21 0 0 M_safe_17 M_mined_18) ∧ ∀ (n_22 : Nat) (x2_25 : Int) (x3_26 : Int) (M_safe_27 : Int → Int) (M_mined_28 : Int → Int), inR x2_25 → inR x3_26 → Inv_20 n_22 x2_25 x3_26 M_safe_27 M_mined_28 → ((M_cells ≤ x3_26 → (∃ n_31 : Nat, n_31 < n_13 ∧ Inv_11 n_31 x2_25 M_safe_27 M_mined_28)) ∧ (¬ M_cells ≤ x3_26 → ((0 ≤ x3_26 ∧ x3_26 < 144) ∧ (∀ v_33 : Int, v_33 = M_state x3_26 → inR v_33 → (∃ J_34 : (Int) → (Int → Int) → (Int → Int) → Prop, ((¬ v_33 = 1 → (J_34 x2_25 M_safe_27 M_mined_28)) ∧ (v_33 = 1 → (P_X12_byOne (fun (c_82 : Int) (M_safe_83 : Int → Int) (M_mined_84 : Int → Int) => (c_82 = 0 ∨ c_82 = 1) → (∃ J_85 : (Int) → Prop, (∃ J_88 : Prop, ((¬ c_82 = 0 → (J_88)) ∧ (c_82 = 0 → ((x2_25 = 0 → (J_85 0)) ∧ (¬ x2_25 = 0 → (J_88))))) ∧ (J_88 → (J_85 1))) ∧ (∀ (z_87 : Int), inR z_87 → J_85 z_87 → (J_34 z_87 M_safe_83 M_mined_84)))) M_w M_h M_shape M_near M_degree M_mine M_state M_safe_27 M_mined_28 x3_26))) ∧ (∀ (x2_36 : Int) (M_safe_37 : Int → Int) (M_mined_38 : Int → Int), inR x2_36 → J_34 x2_36 M_safe_37 M_mined_38 → (∃ Inv_39 : Nat → (Int) → (Int) → (Int → Int) → (Int → Int) → Prop, (∃ n_40 : Nat, Inv_39 n_40 x2_36 0 M_safe_37 M_mined_38) ∧ ∀ (n_41 : Nat) (x2_44 : Int) (x4_45 : Int) (M_safe_46 : Int → Int) (M_mined_47 : Int → Int), inR x2_44 → inR x4_45 → Inv_39 n_41 x2_44 x4_45 M_safe_46 M_mined_47 → (∃ J_49 : Prop, ((M_cells ≤ x4_45 → (J_49)) ∧ (¬ M_cells ≤ x4_45 → ((x1 = 0 → (J_49)) ∧ (¬ x1 = 0 → ((0 ≤ x3_26 ∧ x3_26 < 144) ∧ (∀ v_57 : Int, v_57 = M_state x3_26 → inR v_57 → ((¬ v_57 = 1 → (J_49)) ∧ (v_57 = 1 → (∃ J_59 : (Int) → (Int → Int) → (Int → Int) → Prop, ((x4_45 = x3_26 → (J_59 x2_44 M_safe_46 M_mined_47)) ∧ (¬ x4_45 = x3_26 → ((0 ≤ x4_45 ∧ x4_45 < 144) ∧ (∀ v_69 : Int, v_69 = M_state x4_45 → inR v_69 → ((¬ v_69 = 1 → (J_59 x2_44 M_safe_46 M_mined_47)) ∧ (v_69 = 1 → (P_X12_byTwo (fun (c_71 : Int) (M_safe_72 : Int → Int) (M_mined_73 : Int → Int) => (c_71 = 0 ∨ c_71 = 1) → (∃ J_74 : (Int) → Prop, (∃ J_77 : Prop, ((¬ c_71 = 0 → (J_77)) ∧ (c_71 = 0 → ((x2_44 = 0 → (J_74 0)) ∧ (¬ x2_44 = 0 → (J_77))))) ∧ (J_77 → (J_74 1))) ∧ (∀ (z_76 : Int), inR z_76 → J_74 z_76 → (J_59 z_76 M_safe_72 M_mined_73)))) M_w M_h M_shape M_near M_degree M_mine M_state M_safe_46 M_mined_47 x3_26 x4_45))))))) ∧ (∀ (x2_61 : Int) (M_safe_62 : Int → Int) (M_mined_63 : Int → Int), inR x2_61 → J_59 x2_61 M_safe_62 M_mined_63 → (inR (x4_45 + 1) ∧ (∀ x4_65 : Int, x4_65 = (x4_45 + 1) → (∃ n_66 : Nat, n_66 < n_41 ∧ Inv_39 n_66 x2_61 x4_65 M_safe_62 M_mined_63))))))))))))) ∧ (J_49 → (inR (x3_26 + 1) ∧ (∀ x3_52 : Int, x3_52 = (x3_26 + 1) → (∃ n_53 : Nat, n_53 < n_22 ∧ Inv_20 n_53 x2_44 x3_52 M_safe_46 M_mined_47))))))))))))))))) ∧ (¬ M_cells ≤ x2_6 → ((0 ≤ x2_6 ∧ x2_6 < 144) ∧ (∀ M_safe_93 : Int → Int, M_safe_93 = upZ M_safe_7 x2_6 0 → ((0 ≤ x2_6 ∧ x2_6 < 144) ∧ (∀ M_mined_95 : Int → Int, M_mined_95 = upZ M_mined_8 x2_6 0 → (inR (x2_6 + 1) ∧ (∀ x2_97 : Int, x2_97 = (x2_6 + 1) → (∃ n_98 : Nat, n_98 < n_3 ∧ Inv_1 n_98 x2_97 M_safe_93 M_mined_95)))))))))
set_option maxRecDepth 100000 in
set_option maxHeartbeats 4000000 in
theorem c_X12_findByRules (l : Launch) (K : wK) (ad : Nat → Nat) {M_thrown : Int} {M_w : Int} {M_h : Int} {M_cells : Int} {M_shape : Int} {M_isBoard : Int} {M_isBlank : Int} {M_lives : Int} {M_moves : Int} {M_parts : Int} {M_numbers : Int} {M_grade : Int} {M_reasons : Int} {M_total : Int} {M_near : Int → Int} {M_degree : Int → Int} {M_mine : Int → Int} {M_state : Int → Int} {M_history : Int → Int64} {M_oldLives : Int → Int} {M_safe : Int → Int} {M_mined : Int → Int} {M_used : Int → Int} {M_partOf : Int → Int} {M_placeOf : Int → Int} {M_partSize : Int → Int} {M_ways : Int → Int} {M_with : Int → Int} {M_masks : Int → Int} {M_rests : Int → Int} {M_bits : Int → Int} {M_reach : Int → Int} {M_more : Int → Int} {M_reason : Int → Int} {M_big : Int → Int64} {M_region : Int → Int} (x1 : Int) (bx1 : x1 = 0 ∨ x1 = 1) (post : (Int → Int) → (Int → Int) → Prop) (h : P_X12_findByRules post M_w M_h M_cells M_shape M_near M_degree M_mine M_state M_safe M_mined x1) : mV l yX12_findByRules (Cond.code yX12_findByRules cX12_findByRules 5 none :: GT) ({ frames := 7, cells := 0, slots := 0, locals := 420 } : Room) [.ref (ad 0), .int (iI x1)] K ad (mW M_thrown M_w M_h M_cells M_shape M_isBoard M_isBlank M_lives M_moves M_parts M_numbers M_grade M_reasons M_total M_near M_degree M_mine M_state M_history M_oldLives M_safe M_mined M_used M_partOf M_placeOf M_partSize M_ways M_with M_masks M_rests M_bits M_reach M_more M_reason M_big M_region) (fun u9 => ∃ M_safe9 M_mined9, u9 = (mW M_thrown M_w M_h M_cells M_shape M_isBoard M_isBlank M_lives M_moves M_parts M_numbers M_grade M_reasons M_total M_near M_degree M_mine M_state M_history M_oldLives M_safe9 M_mined9 M_used M_partOf M_placeOf M_partSize M_ways M_with M_masks M_rests M_bits M_reach M_more M_reason M_big M_region) ∧ post M_safe9 M_mined9) := by
  refine mV_of (lv0 := [(0, .ref (ad 0)), (1, .int (iI x1))]) (by decide) (Nat.le_of_ble_eq_true rfl) rfl ?_
  intro p e s m args below meth c Q A C ret
  replace C : Cx p ({ frames := 7, cells := 0, slots := 0, locals := 420 } : Room) m c 0 0 cX12_findByRules 5 s args RX12 K A := C
  unfold P_X12_findByRules at h
  refine wa_iconst C (z := 0) dX12_findByRules_0 rfl ?_
  refine wa_istore_n C dX12_findByRules_1 rfl (by decide) rfl ?_
  obtain ⟨Inv_1, ⟨n_2, h0Inv_1⟩, hInv_1⟩ := h
  have k_5 : ∀ (n_3 : Nat) (x2_6 : Int) (M_safe_7 : Int → Int) (M_mined_8 : Int → Int), inR x2_6 → Inv_1 n_3 x2_6 M_safe_7 M_mined_8 → WA p l e ({ frames := 7, cells := 0, slots := 0, locals := 420 } : Room) s m args below meth c 0 0 Q K ad 5 A 2 [(0, .ref (ad 0)), (1, .int (iI x1)), (2, .int (iI x2_6))] [] (mW M_thrown M_w M_h M_cells M_shape M_isBoard M_isBlank M_lives M_moves M_parts M_numbers M_grade M_reasons M_total M_near M_degree M_mine M_state M_history M_oldLives M_safe_7 M_mined_8 M_used M_partOf M_placeOf M_partSize M_ways M_with M_masks M_rests M_bits M_reach M_more M_reason M_big M_region) := by
    intro n_3
    induction n_3 using Nat.strongRecOn with
    | ind n_3 ih_4 =>
      intro x2_6 M_safe_7 M_mined_8 rx2_6 h
      replace h := hInv_1 n_3 x2_6 M_safe_7 M_mined_8 rx2_6 h
      refine wa_iload_n C 2 rfl dX12_findByRules_2 rfl ?_
      refine wa_aload_n C 0 rfl dX12_findByRules_3 rfl ?_
      refine wa_getI C 0 3 mW_0 rfl rfl (by decide) okX12 gw_1235 dX12_findByRules_4 (fun r_9 => ?_)
      refine wa_icmp_ge C (tgt := 30) rx2_6 r_9 dX12_findByRules_7 (by decide) (fun c_10 => ?_) (fun c_10 => ?_)
      · replace h := h.1 c_10
        refine wa_iconst C (z := 1) dX12_findByRules_30 rfl ?_
        refine wa_istore_n C dX12_findByRules_31 rfl (by decide) rfl ?_
        obtain ⟨Inv_11, ⟨n_12, h0Inv_11⟩, hInv_11⟩ := h
        have k_15 : ∀ (n_13 : Nat) (x2_16 : Int) (M_safe_17 : Int → Int) (M_mined_18 : Int → Int), inR x2_16 → Inv_11 n_13 x2_16 M_safe_17 M_mined_18 → WA p l e ({ frames := 7, cells := 0, slots := 0, locals := 420 } : Room) s m args below meth c 0 0 Q K ad 5 A 32 [(0, .ref (ad 0)), (1, .int (iI x1)), (2, .int (iI x2_16))] [] (mW M_thrown M_w M_h M_cells M_shape M_isBoard M_isBlank M_lives M_moves M_parts M_numbers M_grade M_reasons M_total M_near M_degree M_mine M_state M_history M_oldLives M_safe_17 M_mined_18 M_used M_partOf M_placeOf M_partSize M_ways M_with M_masks M_rests M_bits M_reach M_more M_reason M_big M_region) := by
          intro n_13
          induction n_13 using Nat.strongRecOn with
          | ind n_13 ih_14 =>
            intro x2_16 M_safe_17 M_mined_18 rx2_16 h
            replace h := hInv_11 n_13 x2_16 M_safe_17 M_mined_18 rx2_16 h
            refine wa_iload_n C 2 rfl dX12_findByRules_32 rfl ?_
            refine wa_if_eq C (tgt := 154) rx2_16 dX12_findByRules_33 (by decide) (fun c_19 => ?_) (fun c_19 => ?_)
            · replace h := h.1 c_19
              exact ret dX12_findByRules_154 ⟨_, _, rfl, h⟩
            · replace h := h.2 c_19
              refine wa_iconst C (z := 0) dX12_findByRules_36 rfl ?_
              refine wa_istore_n C dX12_findByRules_37 rfl (by decide) rfl ?_
              refine wa_iconst C (z := 0) dX12_findByRules_38 rfl ?_
              refine wa_istore_n C dX12_findByRules_39 rfl (by decide) rfl ?_
              obtain ⟨Inv_20, ⟨n_21, h0Inv_20⟩, hInv_20⟩ := h
              have k_24 : ∀ (n_22 : Nat) (x2_25 : Int) (x3_26 : Int) (M_safe_27 : Int → Int) (M_mined_28 : Int → Int), inR x2_25 → inR x3_26 → Inv_20 n_22 x2_25 x3_26 M_safe_27 M_mined_28 → WA p l e ({ frames := 7, cells := 0, slots := 0, locals := 420 } : Room) s m args below meth c 0 0 Q K ad 5 A 40 [(0, .ref (ad 0)), (1, .int (iI x1)), (2, .int (iI x2_25)), (3, .int (iI x3_26))] [] (mW M_thrown M_w M_h M_cells M_shape M_isBoard M_isBlank M_lives M_moves M_parts M_numbers M_grade M_reasons M_total M_near M_degree M_mine M_state M_history M_oldLives M_safe_27 M_mined_28 M_used M_partOf M_placeOf M_partSize M_ways M_with M_masks M_rests M_bits M_reach M_more M_reason M_big M_region) := by
                intro n_22
                induction n_22 using Nat.strongRecOn with
                | ind n_22 ih_23 =>
                  intro x2_25 x3_26 M_safe_27 M_mined_28 rx2_25 rx3_26 h
                  replace h := hInv_20 n_22 x2_25 x3_26 M_safe_27 M_mined_28 rx2_25 rx3_26 h
                  refine wa_iload_n C 3 rfl dX12_findByRules_40 rfl ?_
                  refine wa_aload_n C 0 rfl dX12_findByRules_41 rfl ?_
                  refine wa_getI C 0 3 mW_0 rfl rfl (by decide) okX12 gw_1235 dX12_findByRules_42 (fun r_29 => ?_)
                  refine wa_icmp_ge C (tgt := 151) rx3_26 r_9 dX12_findByRules_45 (by decide) (fun c_30 => ?_) (fun c_30 => ?_)
                  · replace h := h.1 c_30
                    refine wa_goto C (tgt := 32) dX12_findByRules_151 (by decide) ?_
                    obtain ⟨n_31, ln_31, h⟩ := h
                    refine wa_sub C [0, 1, 2] rfl ?_
                    exact ih_14 n_31 ln_31 x2_25 M_safe_27 M_mined_28 rx2_25 h
                  · replace h := h.2 c_30
                    refine wa_aload_n C 0 rfl dX12_findByRules_48 rfl ?_
                    refine wa_getR C 0 10 mW_0 rfl rfl (by decide) okX12 gw_1242 dX12_findByRules_49 ?_
                    refine wa_iload_n C 3 rfl dX12_findByRules_52 rfl ?_
                    obtain ⟨t_32, h⟩ := h
                    refine wa_iald C 4 mW_4 dX12_findByRules_53 t_32.1 t_32.2 (fun v_33 ev_33 rv_33 => ?_)
                    replace h := h v_33 ev_33 rv_33
                    refine wa_iconst C (z := 1) dX12_findByRules_54 rfl ?_
                    obtain ⟨J_34, h, hJ_34⟩ := h
                    have k_35 : ∀ (x2_36 : Int) (M_safe_37 : Int → Int) (M_mined_38 : Int → Int), inR x2_36 → J_34 x2_36 M_safe_37 M_mined_38 → WA p l e ({ frames := 7, cells := 0, slots := 0, locals := 420 } : Room) s m args below meth c 0 0 Q K ad 5 A 76 [(0, .ref (ad 0)), (1, .int (iI x1)), (2, .int (iI x2_36)), (3, .int (iI x3_26))] [] (mW M_thrown M_w M_h M_cells M_shape M_isBoard M_isBlank M_lives M_moves M_parts M_numbers M_grade M_reasons M_total M_near M_degree M_mine M_state M_history M_oldLives M_safe_37 M_mined_38 M_used M_partOf M_placeOf M_partSize M_ways M_with M_masks M_rests M_bits M_reach M_more M_reason M_big M_region) := by
                      intro x2_36 M_safe_37 M_mined_38 rx2_36 h
                      replace h := hJ_34 x2_36 M_safe_37 M_mined_38 rx2_36 h
                      refine wa_iconst C (z := 0) dX12_findByRules_76 rfl ?_
                      refine wa_istore C dX12_findByRules_77 (by decide) rfl ?_
                      obtain ⟨Inv_39, ⟨n_40, h0Inv_39⟩, hInv_39⟩ := h
                      have k_43 : ∀ (n_41 : Nat) (x2_44 : Int) (x4_45 : Int) (M_safe_46 : Int → Int) (M_mined_47 : Int → Int), inR x2_44 → inR x4_45 → Inv_39 n_41 x2_44 x4_45 M_safe_46 M_mined_47 → WA p l e ({ frames := 7, cells := 0, slots := 0, locals := 420 } : Room) s m args below meth c 0 0 Q K ad 5 A 79 [(0, .ref (ad 0)), (1, .int (iI x1)), (2, .int (iI x2_44)), (3, .int (iI x3_26)), (4, .int (iI x4_45))] [] (mW M_thrown M_w M_h M_cells M_shape M_isBoard M_isBlank M_lives M_moves M_parts M_numbers M_grade M_reasons M_total M_near M_degree M_mine M_state M_history M_oldLives M_safe_46 M_mined_47 M_used M_partOf M_placeOf M_partSize M_ways M_with M_masks M_rests M_bits M_reach M_more M_reason M_big M_region) := by
                        intro n_41
                        induction n_41 using Nat.strongRecOn with
                        | ind n_41 ih_42 =>
                          intro x2_44 x4_45 M_safe_46 M_mined_47 rx2_44 rx4_45 h
                          replace h := hInv_39 n_41 x2_44 x4_45 M_safe_46 M_mined_47 rx2_44 rx4_45 h
                          refine wa_iload C 4 rfl dX12_findByRules_79 ?_
                          refine wa_aload_n C 0 rfl dX12_findByRules_81 rfl ?_
                          refine wa_getI C 0 3 mW_0 rfl rfl (by decide) okX12 gw_1235 dX12_findByRules_82 (fun r_48 => ?_)
                          obtain ⟨J_49, h, hJ_49⟩ := h
                          have k_50 : J_49 → WA p l e ({ frames := 7, cells := 0, slots := 0, locals := 420 } : Room) s m args below meth c 0 0 Q K ad 5 A 145 [(0, .ref (ad 0)), (1, .int (iI x1)), (2, .int (iI x2_44)), (3, .int (iI x3_26))] [] (mW M_thrown M_w M_h M_cells M_shape M_isBoard M_isBlank M_lives M_moves M_parts M_numbers M_grade M_reasons M_total M_near M_degree M_mine M_state M_history M_oldLives M_safe_46 M_mined_47 M_used M_partOf M_placeOf M_partSize M_ways M_with M_masks M_rests M_bits M_reach M_more M_reason M_big M_region) := by
                            intro h
                            replace h := hJ_49 h
                            obtain ⟨r_51, h⟩ := h
                            refine wa_iinc C (lv' := fun w9 => [(3, .int (iI w9)), (0, .ref (ad 0)), (1, .int (iI x1)), (2, .int (iI x2_44))]) 3 rfl dX12_findByRules_145 (by decide) (fun _ => rfl) (fun x3_52 ex3_52 => ?_)
                            replace h := h x3_52 ex3_52
                            have rx3_52 : inR x3_52 := by rw [ex3_52]; exact r_51
                            refine wa_goto C (tgt := 40) dX12_findByRules_148 (by decide) ?_
                            obtain ⟨n_53, ln_53, h⟩ := h
                            refine wa_sub C [1, 2, 3, 0] rfl ?_
                            exact ih_23 n_53 ln_53 x2_44 x3_52 M_safe_46 M_mined_47 rx2_44 rx3_52 h
                          refine wa_icmp_ge C (tgt := 145) rx4_45 r_9 dX12_findByRules_85 (by decide) (fun c_54 => ?_) (fun c_54 => ?_)
                          · replace h := h.1 c_54
                            refine wa_sub C [0, 1, 2, 3] rfl ?_
                            exact k_50 h
                          · replace h := h.2 c_54
                            refine wa_iload_n C 1 rfl dX12_findByRules_88 rfl ?_
                            refine wa_if_eq C (tgt := 145) (inR_b bx1) dX12_findByRules_89 (by decide) (fun c_55 => ?_) (fun c_55 => ?_)
                            · replace h := h.1 c_55
                              refine wa_sub C [0, 1, 2, 3] rfl ?_
                              exact k_50 h
                            · replace h := h.2 c_55
                              refine wa_aload_n C 0 rfl dX12_findByRules_92 rfl ?_
                              refine wa_getR C 0 10 mW_0 rfl rfl (by decide) okX12 gw_1242 dX12_findByRules_93 ?_
                              refine wa_iload_n C 3 rfl dX12_findByRules_96 rfl ?_
                              obtain ⟨t_56, h⟩ := h
                              refine wa_iald C 4 mW_4 dX12_findByRules_97 t_56.1 t_56.2 (fun v_57 ev_57 rv_57 => ?_)
                              replace h := h v_57 ev_57 rv_57
                              refine wa_iconst C (z := 1) dX12_findByRules_98 rfl ?_
                              refine wa_icmp_ne C (tgt := 145) rv_57 (inR_k 1 rfl) dX12_findByRules_99 (by decide) (fun c_58 => ?_) (fun c_58 => ?_)
                              · replace h := h.1 c_58
                                refine wa_sub C [0, 1, 2, 3] rfl ?_
                                exact k_50 h
                              · replace h := h.2 c_58
                                refine wa_iload C 4 rfl dX12_findByRules_102 ?_
                                refine wa_iload_n C 3 rfl dX12_findByRules_104 rfl ?_
                                obtain ⟨J_59, h, hJ_59⟩ := h
                                have k_60 : ∀ (x2_61 : Int) (M_safe_62 : Int → Int) (M_mined_63 : Int → Int), inR x2_61 → J_59 x2_61 M_safe_62 M_mined_63 → WA p l e ({ frames := 7, cells := 0, slots := 0, locals := 420 } : Room) s m args below meth c 0 0 Q K ad 5 A 139 [(0, .ref (ad 0)), (1, .int (iI x1)), (2, .int (iI x2_61)), (3, .int (iI x3_26)), (4, .int (iI x4_45))] [] (mW M_thrown M_w M_h M_cells M_shape M_isBoard M_isBlank M_lives M_moves M_parts M_numbers M_grade M_reasons M_total M_near M_degree M_mine M_state M_history M_oldLives M_safe_62 M_mined_63 M_used M_partOf M_placeOf M_partSize M_ways M_with M_masks M_rests M_bits M_reach M_more M_reason M_big M_region) := by
                                  intro x2_61 M_safe_62 M_mined_63 rx2_61 h
                                  replace h := hJ_59 x2_61 M_safe_62 M_mined_63 rx2_61 h
                                  obtain ⟨r_64, h⟩ := h
                                  refine wa_iinc C (lv' := fun w9 => [(4, .int (iI w9)), (0, .ref (ad 0)), (1, .int (iI x1)), (2, .int (iI x2_61)), (3, .int (iI x3_26))]) 4 rfl dX12_findByRules_139 (by decide) (fun _ => rfl) (fun x4_65 ex4_65 => ?_)
                                  replace h := h x4_65 ex4_65
                                  have rx4_65 : inR x4_65 := by rw [ex4_65]; exact r_64
                                  refine wa_goto C (tgt := 79) dX12_findByRules_142 (by decide) ?_
                                  obtain ⟨n_66, ln_66, h⟩ := h
                                  refine wa_sub C [1, 2, 3, 4, 0] rfl ?_
                                  exact ih_42 n_66 ln_66 x2_61 x4_65 M_safe_62 M_mined_63 rx2_61 rx4_65 h
                                refine wa_icmp_eq C (tgt := 139) rx4_45 rx3_26 dX12_findByRules_105 (by decide) (fun c_67 => ?_) (fun c_67 => ?_)
                                · replace h := h.1 c_67
                                  refine wa_sub C [0, 1, 2, 3, 4] rfl ?_
                                  exact k_60 x2_44 M_safe_46 M_mined_47 rx2_44 h
                                · replace h := h.2 c_67
                                  refine wa_aload_n C 0 rfl dX12_findByRules_108 rfl ?_
                                  refine wa_getR C 0 10 mW_0 rfl rfl (by decide) okX12 gw_1242 dX12_findByRules_109 ?_
                                  refine wa_iload C 4 rfl dX12_findByRules_112 ?_
                                  obtain ⟨t_68, h⟩ := h
                                  refine wa_iald C 4 mW_4 dX12_findByRules_114 t_68.1 t_68.2 (fun v_69 ev_69 rv_69 => ?_)
                                  replace h := h v_69 ev_69 rv_69
                                  refine wa_iconst C (z := 1) dX12_findByRules_115 rfl ?_
                                  refine wa_icmp_ne C (tgt := 139) rv_69 (inR_k 1 rfl) dX12_findByRules_116 (by decide) (fun c_70 => ?_) (fun c_70 => ?_)
                                  · replace h := h.1 c_70
                                    refine wa_sub C [0, 1, 2, 3, 4] rfl ?_
                                    exact k_60 x2_44 M_safe_46 M_mined_47 rx2_44 h
                                  · replace h := h.2 c_70
                                    refine wa_aload_n C 0 rfl dX12_findByRules_119 rfl ?_
                                    refine wa_iload_n C 3 rfl dX12_findByRules_120 rfl ?_
                                    refine wa_iload C 4 rfl dX12_findByRules_121 ?_
                                    refine wa_callVi C (k := 0) (As := [.int (iI x3_26), .int (iI x4_45)]) (rest := []) (c_X12_byTwo l K ad x3_26 x4_45 rx3_26 rx4_45 _ h) gw_1451 gw_1448 mW_0 rfl gw_1450 gs_73 gw_12 q_X12_byTwo rfl rfl rfl ⟨by decide, by decide⟩ rfl (Nat.le_of_ble_eq_true rfl) dX12_findByRules_123 (fun c_71 u9 rc_71 hp => ?_)
                                    obtain ⟨bc_71, M_safe_72, M_mined_73, rfl, h⟩ := hp
                                    replace h := h bc_71
                                    obtain ⟨J_74, h, hJ_74⟩ := h
                                    have k_75 : ∀ (z_76 : Int), inR z_76 → J_74 z_76 → WA p l e ({ frames := 7, cells := 0, slots := 0, locals := 420 } : Room) s m args below meth c 0 0 Q K ad 5 A 138 [(0, .ref (ad 0)), (1, .int (iI x1)), (3, .int (iI x3_26)), (4, .int (iI x4_45))] [.int (iI z_76)] (mW M_thrown M_w M_h M_cells M_shape M_isBoard M_isBlank M_lives M_moves M_parts M_numbers M_grade M_reasons M_total M_near M_degree M_mine M_state M_history M_oldLives M_safe_72 M_mined_73 M_used M_partOf M_placeOf M_partSize M_ways M_with M_masks M_rests M_bits M_reach M_more M_reason M_big M_region) := by
                                      intro z_76 rz_76 h
                                      replace h := hJ_74 z_76 rz_76 h
                                      refine wa_istore_n C dX12_findByRules_138 rfl (by decide) rfl ?_
                                      refine wa_sub C [1, 2, 0, 3, 4] rfl ?_
                                      exact k_60 z_76 M_safe_72 M_mined_73 rz_76 h
                                    obtain ⟨J_77, h, hJ_77⟩ := h
                                    have k_78 : J_77 → WA p l e ({ frames := 7, cells := 0, slots := 0, locals := 420 } : Room) s m args below meth c 0 0 Q K ad 5 A 133 [(0, .ref (ad 0)), (1, .int (iI x1)), (3, .int (iI x3_26)), (4, .int (iI x4_45))] [] (mW M_thrown M_w M_h M_cells M_shape M_isBoard M_isBlank M_lives M_moves M_parts M_numbers M_grade M_reasons M_total M_near M_degree M_mine M_state M_history M_oldLives M_safe_72 M_mined_73 M_used M_partOf M_placeOf M_partSize M_ways M_with M_masks M_rests M_bits M_reach M_more M_reason M_big M_region) := by
                                      intro h
                                      replace h := hJ_77 h
                                      refine wa_iconst C (z := 1) dX12_findByRules_133 rfl ?_
                                      refine wa_goto C (tgt := 138) dX12_findByRules_134 (by decide) ?_
                                      refine wa_sub C [0, 1, 2, 3] rfl ?_
                                      exact k_75 1 (inR_k 1 rfl) h
                                    refine wa_if_ne C (tgt := 133) (inR_b bc_71) dX12_findByRules_126 (by decide) (fun c_79 => ?_) (fun c_79 => ?_)
                                    · replace h := h.1 c_79
                                      refine wa_sub C [0, 1, 3, 4] rfl ?_
                                      exact k_78 h
                                    · replace h := h.2 c_79
                                      refine wa_iload_n C 2 rfl dX12_findByRules_129 rfl ?_
                                      refine wa_if_eq C (tgt := 137) rx2_44 dX12_findByRules_130 (by decide) (fun c_80 => ?_) (fun c_80 => ?_)
                                      · replace h := h.1 c_80
                                        refine wa_iconst C (z := 0) dX12_findByRules_137 rfl ?_
                                        refine wa_sub C [0, 1, 3, 4] rfl ?_
                                        exact k_75 0 (inR_k 0 rfl) h
                                      · replace h := h.2 c_80
                                        refine wa_sub C [0, 1, 3, 4] rfl ?_
                                        exact k_78 h
                      refine wa_sub C [1, 2, 3, 4, 0] rfl ?_
                      exact k_43 n_40 x2_36 0 M_safe_37 M_mined_38 rx2_36 (inR_k 0 rfl) h0Inv_39
                    refine wa_icmp_ne C (tgt := 76) rv_33 (inR_k 1 rfl) dX12_findByRules_55 (by decide) (fun c_81 => ?_) (fun c_81 => ?_)
                    · replace h := h.1 c_81
                      refine wa_sub C [0, 1, 2, 3] rfl ?_
                      exact k_35 x2_25 M_safe_27 M_mined_28 rx2_25 h
                    · replace h := h.2 c_81
                      refine wa_aload_n C 0 rfl dX12_findByRules_58 rfl ?_
                      refine wa_iload_n C 3 rfl dX12_findByRules_59 rfl ?_
                      refine wa_callVi C (k := 0) (As := [.int (iI x3_26)]) (rest := []) (c_X12_byOne l K ad x3_26 rx3_26 _ h) gw_1423 gw_1420 mW_0 rfl gw_1422 gs_66 gw_12 q_X12_byOne rfl rfl rfl ⟨by decide, by decide⟩ rfl (Nat.le_of_ble_eq_true rfl) dX12_findByRules_60 (fun c_82 u9 rc_82 hp => ?_)
                      obtain ⟨bc_82, M_safe_83, M_mined_84, rfl, h⟩ := hp
                      replace h := h bc_82
                      obtain ⟨J_85, h, hJ_85⟩ := h
                      have k_86 : ∀ (z_87 : Int), inR z_87 → J_85 z_87 → WA p l e ({ frames := 7, cells := 0, slots := 0, locals := 420 } : Room) s m args below meth c 0 0 Q K ad 5 A 75 [(0, .ref (ad 0)), (1, .int (iI x1)), (3, .int (iI x3_26))] [.int (iI z_87)] (mW M_thrown M_w M_h M_cells M_shape M_isBoard M_isBlank M_lives M_moves M_parts M_numbers M_grade M_reasons M_total M_near M_degree M_mine M_state M_history M_oldLives M_safe_83 M_mined_84 M_used M_partOf M_placeOf M_partSize M_ways M_with M_masks M_rests M_bits M_reach M_more M_reason M_big M_region) := by
                        intro z_87 rz_87 h
                        replace h := hJ_85 z_87 rz_87 h
                        refine wa_istore_n C dX12_findByRules_75 rfl (by decide) rfl ?_
                        refine wa_sub C [1, 2, 0, 3] rfl ?_
                        exact k_35 z_87 M_safe_83 M_mined_84 rz_87 h
                      obtain ⟨J_88, h, hJ_88⟩ := h
                      have k_89 : J_88 → WA p l e ({ frames := 7, cells := 0, slots := 0, locals := 420 } : Room) s m args below meth c 0 0 Q K ad 5 A 70 [(0, .ref (ad 0)), (1, .int (iI x1)), (3, .int (iI x3_26))] [] (mW M_thrown M_w M_h M_cells M_shape M_isBoard M_isBlank M_lives M_moves M_parts M_numbers M_grade M_reasons M_total M_near M_degree M_mine M_state M_history M_oldLives M_safe_83 M_mined_84 M_used M_partOf M_placeOf M_partSize M_ways M_with M_masks M_rests M_bits M_reach M_more M_reason M_big M_region) := by
                        intro h
                        replace h := hJ_88 h
                        refine wa_iconst C (z := 1) dX12_findByRules_70 rfl ?_
                        refine wa_goto C (tgt := 75) dX12_findByRules_71 (by decide) ?_
                        refine wa_sub C [0, 1, 2] rfl ?_
                        exact k_86 1 (inR_k 1 rfl) h
                      refine wa_if_ne C (tgt := 70) (inR_b bc_82) dX12_findByRules_63 (by decide) (fun c_90 => ?_) (fun c_90 => ?_)
                      · replace h := h.1 c_90
                        refine wa_sub C [0, 1, 3] rfl ?_
                        exact k_89 h
                      · replace h := h.2 c_90
                        refine wa_iload_n C 2 rfl dX12_findByRules_66 rfl ?_
                        refine wa_if_eq C (tgt := 74) rx2_25 dX12_findByRules_67 (by decide) (fun c_91 => ?_) (fun c_91 => ?_)
                        · replace h := h.1 c_91
                          refine wa_iconst C (z := 0) dX12_findByRules_74 rfl ?_
                          refine wa_sub C [0, 1, 3] rfl ?_
                          exact k_86 0 (inR_k 0 rfl) h
                        · replace h := h.2 c_91
                          refine wa_sub C [0, 1, 3] rfl ?_
                          exact k_89 h
              refine wa_sub C [2, 3, 1, 0] rfl ?_
              exact k_24 n_21 0 0 M_safe_17 M_mined_18 (inR_k 0 rfl) (inR_k 0 rfl) h0Inv_20
        refine wa_sub C [1, 2, 0] rfl ?_
        exact k_15 n_12 1 M_safe_7 M_mined_8 (inR_k 1 rfl) h0Inv_11
      · replace h := h.2 c_10
        refine wa_aload_n C 0 rfl dX12_findByRules_10 rfl ?_
        refine wa_getR C 0 15 mW_0 rfl rfl (by decide) okX12 gw_1247 dX12_findByRules_11 ?_
        refine wa_iload_n C 2 rfl dX12_findByRules_14 rfl ?_
        refine wa_iconst C (z := 0) dX12_findByRules_15 rfl ?_
        obtain ⟨t_92, h⟩ := h
        refine wa_bast C (ws' := fun w9 => (mW M_thrown M_w M_h M_cells M_shape M_isBoard M_isBlank M_lives M_moves M_parts M_numbers M_grade M_reasons M_total M_near M_degree M_mine M_state M_history M_oldLives w9 M_mined_8 M_used M_partOf M_placeOf M_partSize M_ways M_with M_masks M_rests M_bits M_reach M_more M_reason M_big M_region)) 7 mW_7 dX12_findByRules_16 t_92.1 t_92.2 (Or.inl rfl) mWs_7 (fun M_safe_93 eM_safe_93 => ?_)
        replace h := h M_safe_93 eM_safe_93
        refine wa_aload_n C 0 rfl dX12_findByRules_17 rfl ?_
        refine wa_getR C 0 16 mW_0 rfl rfl (by decide) okX12 gw_1248 dX12_findByRules_18 ?_
        refine wa_iload_n C 2 rfl dX12_findByRules_21 rfl ?_
        refine wa_iconst C (z := 0) dX12_findByRules_22 rfl ?_
        obtain ⟨t_94, h⟩ := h
        refine wa_bast C (ws' := fun w9 => (mW M_thrown M_w M_h M_cells M_shape M_isBoard M_isBlank M_lives M_moves M_parts M_numbers M_grade M_reasons M_total M_near M_degree M_mine M_state M_history M_oldLives M_safe_93 w9 M_used M_partOf M_placeOf M_partSize M_ways M_with M_masks M_rests M_bits M_reach M_more M_reason M_big M_region)) 8 mW_8 dX12_findByRules_23 t_94.1 t_94.2 (Or.inl rfl) mWs_8 (fun M_mined_95 eM_mined_95 => ?_)
        replace h := h M_mined_95 eM_mined_95
        obtain ⟨r_96, h⟩ := h
        refine wa_iinc C (lv' := fun w9 => [(2, .int (iI w9)), (0, .ref (ad 0)), (1, .int (iI x1))]) 2 rfl dX12_findByRules_24 (by decide) (fun _ => rfl) (fun x2_97 ex2_97 => ?_)
        replace h := h x2_97 ex2_97
        have rx2_97 : inR x2_97 := by rw [ex2_97]; exact r_96
        refine wa_goto C (tgt := 2) dX12_findByRules_27 (by decide) ?_
        obtain ⟨n_98, ln_98, h⟩ := h
        refine wa_sub C [1, 2, 0] rfl ?_
        exact ih_4 n_98 ln_98 x2_97 M_safe_93 M_mined_95 rx2_97 h
  refine wa_sub C [1, 2, 0] rfl ?_
  exact k_5 n_2 0 M_safe M_mined (inR_k 0 rfl) h0Inv_1
def P_X12_useAll (post : (Int → Int) → Prop) (M_cells : Int) (M_near : Int → Int) (M_degree : Int → Int) (M_state : Int → Int) (M_used : Int → Int) : Prop :=
  ∃ Inv_1 : Nat → (Int) → (Int → Int) → Prop, (∃ n_2 : Nat, Inv_1 n_2 0 M_used) ∧ ∀ (n_3 : Nat) (x1_6 : Int) (M_used_7 : Int → Int), inR x1_6 → Inv_1 n_3 x1_6 M_used_7 → ((M_cells ≤ x1_6 → (post M_used_7)) ∧ (¬ M_cells ≤ x1_6 → ((0 ≤ x1_6 ∧ x1_6 < 144) ∧ (∀ v_11 : Int, v_11 = M_state x1_6 → inR v_11 → (∃ J_12 : (Int) → Prop, (∃ J_21 : Prop, ((¬ v_11 = 1 → (J_21)) ∧ (v_11 = 1 → (P_X12_unknowns (fun (c_24 : Int) => inR c_24 → ((c_24 ≤ 0 → (J_21)) ∧ (¬ c_24 ≤ 0 → (J_12 1)))) M_near M_degree M_state x1_6))) ∧ (J_21 → (J_12 0))) ∧ (∀ (z_14 : Int), inR z_14 → J_12 z_14 → ((0 ≤ x1_6 ∧ x1_6 < 144) ∧ ((z_14 = 0 ∨ z_14 = 1) ∧ (∀ M_used_17 : Int → Int, M_used_17 = upZ M_used_7 x1_6 z_14 → (inR (x1_6 + 1) ∧ (∀ x1_19 : Int, x1_19 = (x1_6 + 1) → (∃ n_20 : Nat, n_20 < n_3 ∧ Inv_1 n_20 x1_19 M_used_17))))))))))))
set_option maxRecDepth 100000 in
set_option maxHeartbeats 4000000 in
theorem c_X12_useAll (l : Launch) (K : wK) (ad : Nat → Nat) {M_thrown : Int} {M_w : Int} {M_h : Int} {M_cells : Int} {M_shape : Int} {M_isBoard : Int} {M_isBlank : Int} {M_lives : Int} {M_moves : Int} {M_parts : Int} {M_numbers : Int} {M_grade : Int} {M_reasons : Int} {M_total : Int} {M_near : Int → Int} {M_degree : Int → Int} {M_mine : Int → Int} {M_state : Int → Int} {M_history : Int → Int64} {M_oldLives : Int → Int} {M_safe : Int → Int} {M_mined : Int → Int} {M_used : Int → Int} {M_partOf : Int → Int} {M_placeOf : Int → Int} {M_partSize : Int → Int} {M_ways : Int → Int} {M_with : Int → Int} {M_masks : Int → Int} {M_rests : Int → Int} {M_bits : Int → Int} {M_reach : Int → Int} {M_more : Int → Int} {M_reason : Int → Int} {M_big : Int → Int64} {M_region : Int → Int}   (post : (Int → Int) → Prop) (h : P_X12_useAll post M_cells M_near M_degree M_state M_used) : mV l yX12_useAll (Cond.code yX12_useAll cX12_useAll 2 none :: GT) ({ frames := 4, cells := 0, slots := 0, locals := 240 } : Room) [.ref (ad 0)] K ad (mW M_thrown M_w M_h M_cells M_shape M_isBoard M_isBlank M_lives M_moves M_parts M_numbers M_grade M_reasons M_total M_near M_degree M_mine M_state M_history M_oldLives M_safe M_mined M_used M_partOf M_placeOf M_partSize M_ways M_with M_masks M_rests M_bits M_reach M_more M_reason M_big M_region) (fun u9 => ∃ M_used9, u9 = (mW M_thrown M_w M_h M_cells M_shape M_isBoard M_isBlank M_lives M_moves M_parts M_numbers M_grade M_reasons M_total M_near M_degree M_mine M_state M_history M_oldLives M_safe M_mined M_used9 M_partOf M_placeOf M_partSize M_ways M_with M_masks M_rests M_bits M_reach M_more M_reason M_big M_region) ∧ post M_used9) := by
  refine mV_of (lv0 := [(0, .ref (ad 0))]) (by decide) (Nat.le_of_ble_eq_true rfl) rfl ?_
  intro p e s m args below meth c Q A C ret
  replace C : Cx p ({ frames := 4, cells := 0, slots := 0, locals := 240 } : Room) m c 0 0 cX12_useAll 2 s args RX12 K A := C
  unfold P_X12_useAll at h
  refine wa_iconst C (z := 0) dX12_useAll_0 rfl ?_
  refine wa_istore_n C dX12_useAll_1 rfl (by decide) rfl ?_
  obtain ⟨Inv_1, ⟨n_2, h0Inv_1⟩, hInv_1⟩ := h
  have k_5 : ∀ (n_3 : Nat) (x1_6 : Int) (M_used_7 : Int → Int), inR x1_6 → Inv_1 n_3 x1_6 M_used_7 → WA p l e ({ frames := 4, cells := 0, slots := 0, locals := 240 } : Room) s m args below meth c 0 0 Q K ad 2 A 2 [(0, .ref (ad 0)), (1, .int (iI x1_6))] [] (mW M_thrown M_w M_h M_cells M_shape M_isBoard M_isBlank M_lives M_moves M_parts M_numbers M_grade M_reasons M_total M_near M_degree M_mine M_state M_history M_oldLives M_safe M_mined M_used_7 M_partOf M_placeOf M_partSize M_ways M_with M_masks M_rests M_bits M_reach M_more M_reason M_big M_region) := by
    intro n_3
    induction n_3 using Nat.strongRecOn with
    | ind n_3 ih_4 =>
      intro x1_6 M_used_7 rx1_6 h
      replace h := hInv_1 n_3 x1_6 M_used_7 rx1_6 h
      refine wa_iload_n C 1 rfl dX12_useAll_2 rfl ?_
      refine wa_aload_n C 0 rfl dX12_useAll_3 rfl ?_
      refine wa_getI C 0 3 mW_0 rfl rfl (by decide) okX12 gw_1235 dX12_useAll_4 (fun r_8 => ?_)
      refine wa_icmp_ge C (tgt := 45) rx1_6 r_8 dX12_useAll_7 (by decide) (fun c_9 => ?_) (fun c_9 => ?_)
      · replace h := h.1 c_9
        exact ret dX12_useAll_45 ⟨_, rfl, h⟩
      · replace h := h.2 c_9
        refine wa_aload_n C 0 rfl dX12_useAll_10 rfl ?_
        refine wa_getR C 0 17 mW_0 rfl rfl (by decide) okX12 gw_1249 dX12_useAll_11 ?_
        refine wa_iload_n C 1 rfl dX12_useAll_14 rfl ?_
        refine wa_aload_n C 0 rfl dX12_useAll_15 rfl ?_
        refine wa_getR C 0 10 mW_0 rfl rfl (by decide) okX12 gw_1242 dX12_useAll_16 ?_
        refine wa_iload_n C 1 rfl dX12_useAll_19 rfl ?_
        obtain ⟨t_10, h⟩ := h
        refine wa_iald C 4 mW_4 dX12_useAll_20 t_10.1 t_10.2 (fun v_11 ev_11 rv_11 => ?_)
        replace h := h v_11 ev_11 rv_11
        refine wa_iconst C (z := 1) dX12_useAll_21 rfl ?_
        obtain ⟨J_12, h, hJ_12⟩ := h
        have k_13 : ∀ (z_14 : Int), inR z_14 → J_12 z_14 → WA p l e ({ frames := 4, cells := 0, slots := 0, locals := 240 } : Room) s m args below meth c 0 0 Q K ad 2 A 38 [(0, .ref (ad 0)), (1, .int (iI x1_6))] [.int (iI z_14), .int (iI x1_6), .ref (ad 9)] (mW M_thrown M_w M_h M_cells M_shape M_isBoard M_isBlank M_lives M_moves M_parts M_numbers M_grade M_reasons M_total M_near M_degree M_mine M_state M_history M_oldLives M_safe M_mined M_used_7 M_partOf M_placeOf M_partSize M_ways M_with M_masks M_rests M_bits M_reach M_more M_reason M_big M_region) := by
          intro z_14 rz_14 h
          replace h := hJ_12 z_14 rz_14 h
          obtain ⟨t_15, h⟩ := h
          obtain ⟨b_16, h⟩ := h
          refine wa_bast C (ws' := fun w9 => (mW M_thrown M_w M_h M_cells M_shape M_isBoard M_isBlank M_lives M_moves M_parts M_numbers M_grade M_reasons M_total M_near M_degree M_mine M_state M_history M_oldLives M_safe M_mined w9 M_partOf M_placeOf M_partSize M_ways M_with M_masks M_rests M_bits M_reach M_more M_reason M_big M_region)) 9 mW_9 dX12_useAll_38 t_15.1 t_15.2 b_16 mWs_9 (fun M_used_17 eM_used_17 => ?_)
          replace h := h M_used_17 eM_used_17
          obtain ⟨r_18, h⟩ := h
          refine wa_iinc C (lv' := fun w9 => [(1, .int (iI w9)), (0, .ref (ad 0))]) 1 rfl dX12_useAll_39 (by decide) (fun _ => rfl) (fun x1_19 ex1_19 => ?_)
          replace h := h x1_19 ex1_19
          have rx1_19 : inR x1_19 := by rw [ex1_19]; exact r_18
          refine wa_goto C (tgt := 2) dX12_useAll_42 (by decide) ?_
          obtain ⟨n_20, ln_20, h⟩ := h
          refine wa_sub C [1, 0] rfl ?_
          exact ih_4 n_20 ln_20 x1_19 M_used_17 rx1_19 h
        obtain ⟨J_21, h, hJ_21⟩ := h
        have k_22 : J_21 → WA p l e ({ frames := 4, cells := 0, slots := 0, locals := 240 } : Room) s m args below meth c 0 0 Q K ad 2 A 37 [(0, .ref (ad 0)), (1, .int (iI x1_6))] [.int (iI x1_6), .ref (ad 9)] (mW M_thrown M_w M_h M_cells M_shape M_isBoard M_isBlank M_lives M_moves M_parts M_numbers M_grade M_reasons M_total M_near M_degree M_mine M_state M_history M_oldLives M_safe M_mined M_used_7 M_partOf M_placeOf M_partSize M_ways M_with M_masks M_rests M_bits M_reach M_more M_reason M_big M_region) := by
          intro h
          replace h := hJ_21 h
          refine wa_iconst C (z := 0) dX12_useAll_37 rfl ?_
          refine wa_sub C [0, 1] rfl ?_
          exact k_13 0 (inR_k 0 rfl) h
        refine wa_icmp_ne C (tgt := 37) rv_11 (inR_k 1 rfl) dX12_useAll_22 (by decide) (fun c_23 => ?_) (fun c_23 => ?_)
        · replace h := h.1 c_23
          refine wa_sub C [0, 1] rfl ?_
          exact k_22 h
        · replace h := h.2 c_23
          refine wa_aload_n C 0 rfl dX12_useAll_25 rfl ?_
          refine wa_iload_n C 1 rfl dX12_useAll_26 rfl ?_
          refine wa_callVi C (k := 0) (As := [.int (iI x1_6)]) (rest := [.int (iI x1_6), .ref (ad 9)]) (c_X12_unknowns l K ad x1_6 rx1_6 _ h) gw_1447 gw_1444 mW_0 rfl gw_1446 gs_72 gw_12 q_X12_unknowns rfl rfl rfl ⟨by decide, by decide⟩ rfl (Nat.le_of_ble_eq_true rfl) dX12_useAll_27 (fun c_24 u9 rc_24 hp => ?_)
          obtain ⟨rfl, h⟩ := hp
          replace h := h rc_24
          refine wa_if_le C (tgt := 37) rc_24 dX12_useAll_30 (by decide) (fun c_25 => ?_) (fun c_25 => ?_)
          · replace h := h.1 c_25
            refine wa_sub C [0, 1] rfl ?_
            exact k_22 h
          · replace h := h.2 c_25
            refine wa_iconst C (z := 1) dX12_useAll_33 rfl ?_
            refine wa_goto C (tgt := 38) dX12_useAll_34 (by decide) ?_
            refine wa_sub C [0, 1] rfl ?_
            exact k_13 1 (inR_k 1 rfl) h
  refine wa_sub C [1, 0] rfl ?_
  exact k_5 n_2 0 M_used (inR_k 0 rfl) h0Inv_1
def P_X12_joinAround (post : (Int → Int) → Prop) (M_cells : Int) (M_near : Int → Int) (M_degree : Int → Int) (M_state : Int → Int) (M_partOf : Int → Int) (x1 : Int) : Prop :=
  inR (1000 + x1) ∧ (∀ x2_2 : Int, x2_2 = (1000 + x1) → (∃ Inv_3 : Nat → (Int) → (Int → Int) → Prop, (∃ n_4 : Nat, Inv_3 n_4 0 M_partOf) ∧ ∀ (n_5 : Nat) (x3_8 : Int) (M_partOf_9 : Int → Int), inR x3_8 → Inv_3 n_5 x3_8 M_partOf_9 → ((0 ≤ x1 ∧ x1 < 144) ∧ (∀ v_11 : Int, v_11 = M_degree x1 → inR v_11 → ((v_11 ≤ x3_8 → (post M_partOf_9)) ∧ (¬ v_11 ≤ x3_8 → ((0 ≤ ((8 * x1) + x3_8) ∧ ((8 * x1) + x3_8) < 1152) ∧ (∀ v_14 : Int, v_14 = M_near ((8 * x1) + x3_8) → inR v_14 → (P_X12_isUnknown (fun (c_15 : Int) => (c_15 = 0 ∨ c_15 = 1) → (∃ J_16 : (Int → Int) → Prop, ((c_15 = 0 → (J_16 M_partOf_9)) ∧ (¬ c_15 = 0 → ((0 ≤ v_14 ∧ v_14 < 144) ∧ (∀ v_24 : Int, v_24 = M_partOf_9 v_14 → inR v_24 → ((0 ≤ v_14 ∧ v_14 < 144) ∧ (∀ M_partOf_26 : Int → Int, M_partOf_26 = upZ M_partOf_9 v_14 x2_2 → (∃ Inv_27 : Nat → (Int) → (Int → Int) → Prop, (∃ n_28 : Nat, Inv_27 n_28 0 M_partOf_26) ∧ ∀ (n_29 : Nat) (x6_32 : Int) (M_partOf_33 : Int → Int), inR x6_32 → Inv_27 n_29 x6_32 M_partOf_33 → ((M_cells ≤ x6_32 → (J_16 M_partOf_33)) ∧ (¬ M_cells ≤ x6_32 → ((v_24 < 0 → (J_16 M_partOf_33)) ∧ (¬ v_24 < 0 → ((0 ≤ x6_32 ∧ x6_32 < 144) ∧ (∀ v_38 : Int, v_38 = M_partOf_33 x6_32 → inR v_38 → (∃ J_39 : (Int) → Prop, ((¬ v_38 = v_24 → ((0 ≤ x6_32 ∧ x6_32 < 144) ∧ (∀ v_49 : Int, v_49 = M_partOf_33 x6_32 → inR v_49 → (J_39 v_49)))) ∧ (v_38 = v_24 → (J_39 x2_2))) ∧ (∀ (z_41 : Int), inR z_41 → J_39 z_41 → ((0 ≤ x6_32 ∧ x6_32 < 144) ∧ (∀ M_partOf_43 : Int → Int, M_partOf_43 = upZ M_partOf_33 x6_32 z_41 → (inR (x6_32 + 1) ∧ (∀ x6_45 : Int, x6_45 = (x6_32 + 1) → (∃ n_46 : Nat, n_46 < n_29 ∧ Inv_27 n_46 x6_45 M_partOf_43)))))))))))))))))))) ∧ (∀ (M_partOf_18 : Int → Int), J_16 M_partOf_18 → (inR (x3_8 + 1) ∧ (∀ x3_20 : Int, x3_20 = (x3_8 + 1) → (∃ n_21 : Nat, n_21 < n_5 ∧ Inv_3 n_21 x3_20 M_partOf_18)))))) M_state v_14)))))))))
set_option maxRecDepth 100000 in
set_option maxHeartbeats 4000000 in
theorem c_X12_joinAround (l : Launch) (K : wK) (ad : Nat → Nat) {M_thrown : Int} {M_w : Int} {M_h : Int} {M_cells : Int} {M_shape : Int} {M_isBoard : Int} {M_isBlank : Int} {M_lives : Int} {M_moves : Int} {M_parts : Int} {M_numbers : Int} {M_grade : Int} {M_reasons : Int} {M_total : Int} {M_near : Int → Int} {M_degree : Int → Int} {M_mine : Int → Int} {M_state : Int → Int} {M_history : Int → Int64} {M_oldLives : Int → Int} {M_safe : Int → Int} {M_mined : Int → Int} {M_used : Int → Int} {M_partOf : Int → Int} {M_placeOf : Int → Int} {M_partSize : Int → Int} {M_ways : Int → Int} {M_with : Int → Int} {M_masks : Int → Int} {M_rests : Int → Int} {M_bits : Int → Int} {M_reach : Int → Int} {M_more : Int → Int} {M_reason : Int → Int} {M_big : Int → Int64} {M_region : Int → Int} (x1 : Int) (rx1 : inR x1) (post : (Int → Int) → Prop) (h : P_X12_joinAround post M_cells M_near M_degree M_state M_partOf x1) : mV l yX12_joinAround (Cond.code yX12_joinAround cX12_joinAround 7 none :: GT) ({ frames := 3, cells := 0, slots := 0, locals := 180 } : Room) [.ref (ad 0), .int (iI x1)] K ad (mW M_thrown M_w M_h M_cells M_shape M_isBoard M_isBlank M_lives M_moves M_parts M_numbers M_grade M_reasons M_total M_near M_degree M_mine M_state M_history M_oldLives M_safe M_mined M_used M_partOf M_placeOf M_partSize M_ways M_with M_masks M_rests M_bits M_reach M_more M_reason M_big M_region) (fun u9 => ∃ M_partOf9, u9 = (mW M_thrown M_w M_h M_cells M_shape M_isBoard M_isBlank M_lives M_moves M_parts M_numbers M_grade M_reasons M_total M_near M_degree M_mine M_state M_history M_oldLives M_safe M_mined M_used M_partOf9 M_placeOf M_partSize M_ways M_with M_masks M_rests M_bits M_reach M_more M_reason M_big M_region) ∧ post M_partOf9) := by
  refine mV_of (lv0 := [(0, .ref (ad 0)), (1, .int (iI x1))]) (by decide) (Nat.le_of_ble_eq_true rfl) rfl ?_
  intro p e s m args below meth c Q A C ret
  replace C : Cx p ({ frames := 3, cells := 0, slots := 0, locals := 180 } : Room) m c 0 0 cX12_joinAround 7 s args RX12 K A := C
  unfold P_X12_joinAround at h
  refine wa_sipush C (z := 1000) dX12_joinAround_0 (by decide) ?_
  refine wa_iload_n C 1 rfl dX12_joinAround_3 rfl ?_
  refine wa_iadd C dX12_joinAround_4 ?_
  obtain ⟨r_1, h⟩ := h
  refine wa_nmi (fun x2_2 ex2_2 => ?_)
  replace h := h x2_2 ex2_2
  have rx2_2 : inR x2_2 := by rw [ex2_2]; exact r_1
  refine wa_istore_n C dX12_joinAround_5 rfl (by decide) rfl ?_
  refine wa_iconst C (z := 0) dX12_joinAround_6 rfl ?_
  refine wa_istore_n C dX12_joinAround_7 rfl (by decide) rfl ?_
  obtain ⟨Inv_3, ⟨n_4, h0Inv_3⟩, hInv_3⟩ := h
  have k_7 : ∀ (n_5 : Nat) (x3_8 : Int) (M_partOf_9 : Int → Int), inR x3_8 → Inv_3 n_5 x3_8 M_partOf_9 → WA p l e ({ frames := 3, cells := 0, slots := 0, locals := 180 } : Room) s m args below meth c 0 0 Q K ad 7 A 8 [(0, .ref (ad 0)), (1, .int (iI x1)), (2, .int (iI x2_2)), (3, .int (iI x3_8))] [] (mW M_thrown M_w M_h M_cells M_shape M_isBoard M_isBlank M_lives M_moves M_parts M_numbers M_grade M_reasons M_total M_near M_degree M_mine M_state M_history M_oldLives M_safe M_mined M_used M_partOf_9 M_placeOf M_partSize M_ways M_with M_masks M_rests M_bits M_reach M_more M_reason M_big M_region) := by
    intro n_5
    induction n_5 using Nat.strongRecOn with
    | ind n_5 ih_6 =>
      intro x3_8 M_partOf_9 rx3_8 h
      replace h := hInv_3 n_5 x3_8 M_partOf_9 rx3_8 h
      refine wa_iload_n C 3 rfl dX12_joinAround_8 rfl ?_
      refine wa_aload_n C 0 rfl dX12_joinAround_9 rfl ?_
      refine wa_getR C 0 8 mW_0 rfl rfl (by decide) okX12 gw_1240 dX12_joinAround_10 ?_
      refine wa_iload_n C 1 rfl dX12_joinAround_13 rfl ?_
      obtain ⟨t_10, h⟩ := h
      refine wa_iald C 2 mW_2 dX12_joinAround_14 t_10.1 t_10.2 (fun v_11 ev_11 rv_11 => ?_)
      replace h := h v_11 ev_11 rv_11
      refine wa_icmp_ge C (tgt := 116) rx3_8 rv_11 dX12_joinAround_15 (by decide) (fun c_12 => ?_) (fun c_12 => ?_)
      · replace h := h.1 c_12
        exact ret dX12_joinAround_116 ⟨_, rfl, h⟩
      · replace h := h.2 c_12
        refine wa_aload_n C 0 rfl dX12_joinAround_18 rfl ?_
        refine wa_getR C 0 7 mW_0 rfl rfl (by decide) okX12 gw_1239 dX12_joinAround_19 ?_
        refine wa_bipush C (z := 8) dX12_joinAround_22 (by decide) ?_
        refine wa_iload_n C 1 rfl dX12_joinAround_24 rfl ?_
        refine wa_imul C dX12_joinAround_25 ?_
        refine wa_iload_n C 3 rfl dX12_joinAround_26 rfl ?_
        refine wa_iadd C dX12_joinAround_27 ?_
        obtain ⟨t_13, h⟩ := h
        refine wa_iald C 1 mW_1 dX12_joinAround_28 t_13.1 t_13.2 (fun v_14 ev_14 rv_14 => ?_)
        replace h := h v_14 ev_14 rv_14
        refine wa_istore C dX12_joinAround_29 (by decide) rfl ?_
        refine wa_aload_n C 1 rfl dX12_joinAround_31 rfl ?_
        refine wa_iload C 0 rfl dX12_joinAround_32 ?_
        refine wa_callVi C (k := 0) (As := [.int (iI v_14)]) (rest := []) (c_X12_isUnknown l K ad v_14 rv_14 _ h) gw_1411 gw_1408 mW_0 rfl gw_1410 gs_63 gw_12 q_X12_isUnknown rfl rfl rfl ⟨by decide, by decide⟩ rfl (Nat.le_of_ble_eq_true rfl) dX12_joinAround_34 (fun c_15 u9 rc_15 hp => ?_)
        obtain ⟨bc_15, rfl, h⟩ := hp
        replace h := h bc_15
        obtain ⟨J_16, h, hJ_16⟩ := h
        have k_17 : ∀ (M_partOf_18 : Int → Int), J_16 M_partOf_18 → WA p l e ({ frames := 3, cells := 0, slots := 0, locals := 180 } : Room) s m args below meth c 0 0 Q K ad 7 A 110 [(0, .ref (ad 0)), (1, .int (iI x1)), (2, .int (iI x2_2)), (3, .int (iI x3_8))] [] (mW M_thrown M_w M_h M_cells M_shape M_isBoard M_isBlank M_lives M_moves M_parts M_numbers M_grade M_reasons M_total M_near M_degree M_mine M_state M_history M_oldLives M_safe M_mined M_used M_partOf_18 M_placeOf M_partSize M_ways M_with M_masks M_rests M_bits M_reach M_more M_reason M_big M_region) := by
          intro M_partOf_18 h
          replace h := hJ_16 M_partOf_18 h
          obtain ⟨r_19, h⟩ := h
          refine wa_iinc C (lv' := fun w9 => [(3, .int (iI w9)), (0, .ref (ad 0)), (1, .int (iI x1)), (2, .int (iI x2_2))]) 3 rfl dX12_joinAround_110 (by decide) (fun _ => rfl) (fun x3_20 ex3_20 => ?_)
          replace h := h x3_20 ex3_20
          have rx3_20 : inR x3_20 := by rw [ex3_20]; exact r_19
          refine wa_goto C (tgt := 8) dX12_joinAround_113 (by decide) ?_
          obtain ⟨n_21, ln_21, h⟩ := h
          refine wa_sub C [1, 2, 3, 0] rfl ?_
          exact ih_6 n_21 ln_21 x3_20 M_partOf_18 rx3_20 h
        refine wa_if_eq C (tgt := 110) (inR_b bc_15) dX12_joinAround_37 (by decide) (fun c_22 => ?_) (fun c_22 => ?_)
        · replace h := h.1 c_22
          refine wa_sub C [1, 2, 3, 4] rfl ?_
          exact k_17 M_partOf_9 h
        · replace h := h.2 c_22
          refine wa_aload_n C 1 rfl dX12_joinAround_40 rfl ?_
          refine wa_getR C 0 18 mW_0 rfl rfl (by decide) okX12 gw_1250 dX12_joinAround_41 ?_
          refine wa_iload C 0 rfl dX12_joinAround_44 ?_
          obtain ⟨t_23, h⟩ := h
          refine wa_iald C 10 mW_10 dX12_joinAround_46 t_23.1 t_23.2 (fun v_24 ev_24 rv_24 => ?_)
          replace h := h v_24 ev_24 rv_24
          refine wa_istore C dX12_joinAround_47 (by decide) rfl ?_
          refine wa_aload_n C 2 rfl dX12_joinAround_49 rfl ?_
          refine wa_getR C 0 18 mW_0 rfl rfl (by decide) okX12 gw_1250 dX12_joinAround_50 ?_
          refine wa_iload C 1 rfl dX12_joinAround_53 ?_
          refine wa_iload_n C 4 rfl dX12_joinAround_55 rfl ?_
          obtain ⟨t_25, h⟩ := h
          refine wa_iast C (ws' := fun w9 => (mW M_thrown M_w M_h M_cells M_shape M_isBoard M_isBlank M_lives M_moves M_parts M_numbers M_grade M_reasons M_total M_near M_degree M_mine M_state M_history M_oldLives M_safe M_mined M_used w9 M_placeOf M_partSize M_ways M_with M_masks M_rests M_bits M_reach M_more M_reason M_big M_region)) 10 mW_10 dX12_joinAround_56 t_25.1 t_25.2 rx2_2 mWs_10 (fun M_partOf_26 eM_partOf_26 => ?_)
          replace h := h M_partOf_26 eM_partOf_26
          refine wa_iconst C (z := 0) dX12_joinAround_57 rfl ?_
          refine wa_istore C dX12_joinAround_58 (by decide) rfl ?_
          obtain ⟨Inv_27, ⟨n_28, h0Inv_27⟩, hInv_27⟩ := h
          have k_31 : ∀ (n_29 : Nat) (x6_32 : Int) (M_partOf_33 : Int → Int), inR x6_32 → Inv_27 n_29 x6_32 M_partOf_33 → WA p l e ({ frames := 3, cells := 0, slots := 0, locals := 180 } : Room) s m args below meth c 0 0 Q K ad 7 A 60 [(0, .ref (ad 0)), (1, .int (iI x1)), (2, .int (iI x2_2)), (3, .int (iI x3_8)), (5, .int (iI v_24)), (6, .int (iI x6_32))] [] (mW M_thrown M_w M_h M_cells M_shape M_isBoard M_isBlank M_lives M_moves M_parts M_numbers M_grade M_reasons M_total M_near M_degree M_mine M_state M_history M_oldLives M_safe M_mined M_used M_partOf_33 M_placeOf M_partSize M_ways M_with M_masks M_rests M_bits M_reach M_more M_reason M_big M_region) := by
            intro n_29
            induction n_29 using Nat.strongRecOn with
            | ind n_29 ih_30 =>
              intro x6_32 M_partOf_33 rx6_32 h
              replace h := hInv_27 n_29 x6_32 M_partOf_33 rx6_32 h
              refine wa_iload C 5 rfl dX12_joinAround_60 ?_
              refine wa_aload_n C 0 rfl dX12_joinAround_62 rfl ?_
              refine wa_getI C 0 3 mW_0 rfl rfl (by decide) okX12 gw_1235 dX12_joinAround_63 (fun r_34 => ?_)
              refine wa_icmp_ge C (tgt := 110) rx6_32 r_34 dX12_joinAround_66 (by decide) (fun c_35 => ?_) (fun c_35 => ?_)
              · replace h := h.1 c_35
                refine wa_sub C [0, 1, 2, 3] rfl ?_
                exact k_17 M_partOf_33 h
              · replace h := h.2 c_35
                refine wa_iload C 4 rfl dX12_joinAround_69 ?_
                refine wa_if_lt C (tgt := 110) rv_24 dX12_joinAround_71 (by decide) (fun c_36 => ?_) (fun c_36 => ?_)
                · replace h := h.1 c_36
                  refine wa_sub C [0, 1, 2, 3] rfl ?_
                  exact k_17 M_partOf_33 h
                · replace h := h.2 c_36
                  refine wa_aload_n C 0 rfl dX12_joinAround_74 rfl ?_
                  refine wa_getR C 0 18 mW_0 rfl rfl (by decide) okX12 gw_1250 dX12_joinAround_75 ?_
                  refine wa_iload C 5 rfl dX12_joinAround_78 ?_
                  refine wa_aload_n C 0 rfl dX12_joinAround_80 rfl ?_
                  refine wa_getR C 0 18 mW_0 rfl rfl (by decide) okX12 gw_1250 dX12_joinAround_81 ?_
                  refine wa_iload C 5 rfl dX12_joinAround_84 ?_
                  obtain ⟨t_37, h⟩ := h
                  refine wa_iald C 10 mW_10 dX12_joinAround_86 t_37.1 t_37.2 (fun v_38 ev_38 rv_38 => ?_)
                  replace h := h v_38 ev_38 rv_38
                  refine wa_iload C 4 rfl dX12_joinAround_87 ?_
                  obtain ⟨J_39, h, hJ_39⟩ := h
                  have k_40 : ∀ (z_41 : Int), inR z_41 → J_39 z_41 → WA p l e ({ frames := 3, cells := 0, slots := 0, locals := 180 } : Room) s m args below meth c 0 0 Q K ad 7 A 103 [(0, .ref (ad 0)), (1, .int (iI x1)), (2, .int (iI x2_2)), (3, .int (iI x3_8)), (5, .int (iI v_24)), (6, .int (iI x6_32))] [.int (iI z_41), .int (iI x6_32), .ref (ad 10)] (mW M_thrown M_w M_h M_cells M_shape M_isBoard M_isBlank M_lives M_moves M_parts M_numbers M_grade M_reasons M_total M_near M_degree M_mine M_state M_history M_oldLives M_safe M_mined M_used M_partOf_33 M_placeOf M_partSize M_ways M_with M_masks M_rests M_bits M_reach M_more M_reason M_big M_region) := by
                    intro z_41 rz_41 h
                    replace h := hJ_39 z_41 rz_41 h
                    obtain ⟨t_42, h⟩ := h
                    refine wa_iast C (ws' := fun w9 => (mW M_thrown M_w M_h M_cells M_shape M_isBoard M_isBlank M_lives M_moves M_parts M_numbers M_grade M_reasons M_total M_near M_degree M_mine M_state M_history M_oldLives M_safe M_mined M_used w9 M_placeOf M_partSize M_ways M_with M_masks M_rests M_bits M_reach M_more M_reason M_big M_region)) 10 mW_10 dX12_joinAround_103 t_42.1 t_42.2 rz_41 mWs_10 (fun M_partOf_43 eM_partOf_43 => ?_)
                    replace h := h M_partOf_43 eM_partOf_43
                    obtain ⟨r_44, h⟩ := h
                    refine wa_iinc C (lv' := fun w9 => [(6, .int (iI w9)), (0, .ref (ad 0)), (1, .int (iI x1)), (2, .int (iI x2_2)), (3, .int (iI x3_8)), (5, .int (iI v_24))]) 5 rfl dX12_joinAround_104 (by decide) (fun _ => rfl) (fun x6_45 ex6_45 => ?_)
                    replace h := h x6_45 ex6_45
                    have rx6_45 : inR x6_45 := by rw [ex6_45]; exact r_44
                    refine wa_goto C (tgt := 60) dX12_joinAround_107 (by decide) ?_
                    obtain ⟨n_46, ln_46, h⟩ := h
                    refine wa_sub C [1, 2, 3, 4, 5, 0] rfl ?_
                    exact ih_30 n_46 ln_46 x6_45 M_partOf_43 rx6_45 h
                  refine wa_icmp_ne C (tgt := 96) rv_38 rv_24 dX12_joinAround_89 (by decide) (fun c_47 => ?_) (fun c_47 => ?_)
                  · replace h := h.1 c_47
                    refine wa_aload_n C 0 rfl dX12_joinAround_96 rfl ?_
                    refine wa_getR C 0 18 mW_0 rfl rfl (by decide) okX12 gw_1250 dX12_joinAround_97 ?_
                    refine wa_iload C 5 rfl dX12_joinAround_100 ?_
                    obtain ⟨t_48, h⟩ := h
                    refine wa_iald C 10 mW_10 dX12_joinAround_102 t_48.1 t_48.2 (fun v_49 ev_49 rv_49 => ?_)
                    replace h := h v_49 ev_49 rv_49
                    refine wa_sub C [0, 1, 2, 3, 4, 5] rfl ?_
                    exact k_40 v_49 rv_49 h
                  · replace h := h.2 c_47
                    refine wa_iload_n C 2 rfl dX12_joinAround_92 rfl ?_
                    refine wa_goto C (tgt := 103) dX12_joinAround_93 (by decide) ?_
                    refine wa_sub C [0, 1, 2, 3, 4, 5] rfl ?_
                    exact k_40 x2_2 rx2_2 h
          refine wa_sub C [3, 4, 5, 6, 1, 0] rfl ?_
          exact k_31 n_28 0 M_partOf_26 (inR_k 0 rfl) h0Inv_27
  refine wa_sub C [2, 3, 1, 0] rfl ?_
  exact k_7 n_4 0 M_partOf (inR_k 0 rfl) h0Inv_3
def P_X12_divide (post : Int → (Int) → (Int → Int) → (Int → Int) → (Int → Int) → Prop) (M_cells : Int) (M_parts : Int) (M_near : Int → Int) (M_degree : Int → Int) (M_state : Int → Int) (M_used : Int → Int) (M_partOf : Int → Int) (M_placeOf : Int → Int) (M_partSize : Int → Int) : Prop :=
  ∃ Inv_1 : Nat → (Int) → (Int → Int) → Prop, (∃ n_2 : Nat, Inv_1 n_2 0 M_partOf) ∧ ∀ (n_3 : Nat) (x1_6 : Int) (M_partOf_7 : Int → Int), inR x1_6 → Inv_1 n_3 x1_6 M_partOf_7 → ((M_cells ≤ x1_6 → (∃ Inv_10 : Nat → (Int) → (Int → Int) → Prop, (∃ n_11 : Nat, Inv_10 n_11 0 M_partOf_7) ∧ ∀ (n_12 : Nat) (x1_15 : Int) (M_partOf_16 : Int → Int), inR x1_15 → Inv_10 n_12 x1_15 M_partOf_16 → ((M_cells ≤ x1_15 → (∃ Inv_19 : Nat → (Int) → (Int) → (Int) → (Int → Int) → (Int → Int) → (Int → Int) → Prop, (∃ n_20 : Nat, Inv_19 n_20 1 0 0 M_partOf_16 M_placeOf M_partSize) ∧ ∀ (n_21 : Nat) (x1_24 : Int) (x2_25 : Int) (M_parts_26 : Int) (M_partOf_27 : Int → Int) (M_placeOf_28 : Int → Int) (M_partSize_29 : Int → Int), inR x1_24 → inR x2_25 → Inv_19 n_21 x1_24 x2_25 M_parts_26 M_partOf_27 M_placeOf_28 M_partSize_29 → ((M_cells ≤ x2_25 → ((x1_24 = 0 ∨ x1_24 = 1) ∧ (post x1_24 M_parts_26 M_partOf_27 M_placeOf_28 M_partSize_29))) ∧ (¬ M_cells ≤ x2_25 → ((0 ≤ x2_25 ∧ x2_25 < 144) ∧ (∀ v_34 : Int, v_34 = M_partOf_27 x2_25 → inR v_34 → (∃ J_35 : (Int) → (Int) → (Int → Int) → (Int → Int) → (Int → Int) → Prop, ((v_34 < 1000 → (J_35 x1_24 M_parts_26 M_partOf_27 M_placeOf_28 M_partSize_29)) ∧ (¬ v_34 < 1000 → ((0 ≤ x2_25 ∧ x2_25 < 144) ∧ (∀ v_47 : Int, v_47 = M_partOf_27 x2_25 → inR v_47 → (∃ Inv_48 : Nat → (Int) → (Int) → (Int → Int) → (Int → Int) → Prop, (∃ n_49 : Nat, Inv_48 n_49 0 x2_25 M_partOf_27 M_placeOf_28) ∧ ∀ (n_50 : Nat) (x4_53 : Int) (x5_54 : Int) (M_partOf_55 : Int → Int) (M_placeOf_56 : Int → Int), inR x4_53 → inR x5_54 → Inv_48 n_50 x4_53 x5_54 M_partOf_55 M_placeOf_56 → ((M_cells ≤ x5_54 → (∃ J_60 : (Int → Int) → Prop, ((72 ≤ M_parts_26 → (J_60 M_partSize_29)) ∧ (¬ 72 ≤ M_parts_26 → ((0 ≤ M_parts_26 ∧ M_parts_26 < 72) ∧ (∀ M_partSize_78 : Int → Int, M_partSize_78 = upZ M_partSize_29 M_parts_26 x4_53 → (J_60 M_partSize_78))))) ∧ (∀ (M_partSize_62 : Int → Int), J_60 M_partSize_62 → (∃ J_63 : (Int) → Prop, (∃ J_69 : Prop, ((x1_24 = 0 → (J_69)) ∧ (¬ x1_24 = 0 → ((16 < x4_53 → (J_69)) ∧ (¬ 16 < x4_53 → ((72 ≤ M_parts_26 → (J_69)) ∧ (¬ 72 ≤ M_parts_26 → (J_63 1))))))) ∧ (J_69 → (J_63 0))) ∧ (∀ (z_65 : Int), inR z_65 → J_63 z_65 → (inR (M_parts_26 + 1) ∧ (∀ M_parts_68 : Int, M_parts_68 = (M_parts_26 + 1) → (J_35 z_65 M_parts_68 M_partOf_55 M_placeOf_56 M_partSize_62)))))))) ∧ (¬ M_cells ≤ x5_54 → ((0 ≤ x5_54 ∧ x5_54 < 144) ∧ (∀ v_80 : Int, v_80 = M_partOf_55 x5_54 → inR v_80 → (∃ J_81 : (Int) → (Int → Int) → (Int → Int) → Prop, ((¬ v_80 = v_47 → (J_81 x4_53 M_partOf_55 M_placeOf_56)) ∧ (v_80 = v_47 → ((0 ≤ x5_54 ∧ x5_54 < 144) ∧ (∀ M_partOf_92 : Int → Int, M_partOf_92 = upZ M_partOf_55 x5_54 M_parts_26 → ((0 ≤ x5_54 ∧ x5_54 < 144) ∧ (∀ M_placeOf_94 : Int → Int, M_placeOf_94 = upZ M_placeOf_56 x5_54 x4_53 → (inR (x4_53 + 1) ∧ (∀ x4_96 : Int, x4_96 = (x4_53 + 1) → (J_81 x4_96 M_partOf_92 M_placeOf_94))))))))) ∧ (∀ (x4_83 : Int) (M_partOf_84 : Int → Int) (M_placeOf_85 : Int → Int), inR x4_83 → J_81 x4_83 M_partOf_84 M_placeOf_85 → (inR (x5_54 + 1) ∧ (∀ x5_87 : Int, x5_87 = (x5_54 + 1) → (∃ n_88 : Nat, n_88 < n_50 ∧ Inv_48 n_88 x4_83 x5_87 M_partOf_84 M_placeOf_85)))))))))))))) ∧ (∀ (x1_37 : Int) (M_parts_38 : Int) (M_partOf_39 : Int → Int) (M_placeOf_40 : Int → Int) (M_partSize_41 : Int → Int), inR x1_37 → J_35 x1_37 M_parts_38 M_partOf_39 M_placeOf_40 M_partSize_41 → (inR (x2_25 + 1) ∧ (∀ x2_43 : Int, x2_43 = (x2_25 + 1) → (∃ n_44 : Nat, n_44 < n_21 ∧ Inv_19 n_44 x1_37 x2_43 M_parts_38 M_partOf_39 M_placeOf_40 M_partSize_41))))))))))) ∧ (¬ M_cells ≤ x1_15 → ((0 ≤ x1_15 ∧ x1_15 < 144) ∧ (∀ v_98 : Int, v_98 = M_used x1_15 → (v_98 = 0 ∨ v_98 = 1) → (∃ J_99 : (Int → Int) → Prop, ((v_98 = 0 → (J_99 M_partOf_16)) ∧ (¬ v_98 = 0 → (P_X12_joinAround (fun (M_partOf_106 : Int → Int) => (J_99 M_partOf_106)) M_cells M_near M_degree M_state M_partOf_16 x1_15))) ∧ (∀ (M_partOf_101 : Int → Int), J_99 M_partOf_101 → (inR (x1_15 + 1) ∧ (∀ x1_103 : Int, x1_103 = (x1_15 + 1) → (∃ n_104 : Nat, n_104 < n_12 ∧ Inv_10 n_104 x1_103 M_partOf_101))))))))))) ∧ (¬ M_cells ≤ x1_6 → ((0 ≤ x1_6 ∧ x1_6 < 144) ∧ (∀ M_partOf_108 : Int → Int, M_partOf_108 = upZ M_partOf_7 x1_6 (-1) → (inR (x1_6 + 1) ∧ (∀ x1_110 : Int, x1_110 = (x1_6 + 1) → (∃ n_111 : Nat, n_111 < n_3 ∧ Inv_1 n_111 x1_110 M_partOf_108)))))))
set_option maxRecDepth 100000 in
set_option maxHeartbeats 4000000 in
theorem c_X12_divide (l : Launch) (K : wK) (ad : Nat → Nat) {M_thrown : Int} {M_w : Int} {M_h : Int} {M_cells : Int} {M_shape : Int} {M_isBoard : Int} {M_isBlank : Int} {M_lives : Int} {M_moves : Int} {M_parts : Int} {M_numbers : Int} {M_grade : Int} {M_reasons : Int} {M_total : Int} {M_near : Int → Int} {M_degree : Int → Int} {M_mine : Int → Int} {M_state : Int → Int} {M_history : Int → Int64} {M_oldLives : Int → Int} {M_safe : Int → Int} {M_mined : Int → Int} {M_used : Int → Int} {M_partOf : Int → Int} {M_placeOf : Int → Int} {M_partSize : Int → Int} {M_ways : Int → Int} {M_with : Int → Int} {M_masks : Int → Int} {M_rests : Int → Int} {M_bits : Int → Int} {M_reach : Int → Int} {M_more : Int → Int} {M_reason : Int → Int} {M_big : Int → Int64} {M_region : Int → Int}   (post : Int → (Int) → (Int → Int) → (Int → Int) → (Int → Int) → Prop) (h : P_X12_divide post M_cells M_parts M_near M_degree M_state M_used M_partOf M_placeOf M_partSize) : mI l yX12_divide (Cond.code yX12_divide cX12_divide 6 (some .boolean) :: GT) ({ frames := 4, cells := 0, slots := 0, locals := 240 } : Room) [.ref (ad 0)] K ad (mW M_thrown M_w M_h M_cells M_shape M_isBoard M_isBlank M_lives M_moves M_parts M_numbers M_grade M_reasons M_total M_near M_degree M_mine M_state M_history M_oldLives M_safe M_mined M_used M_partOf M_placeOf M_partSize M_ways M_with M_masks M_rests M_bits M_reach M_more M_reason M_big M_region) (fun z9 u9 => (z9 = 0 ∨ z9 = 1) ∧ ∃ M_parts9 M_partOf9 M_placeOf9 M_partSize9, u9 = (mW M_thrown M_w M_h M_cells M_shape M_isBoard M_isBlank M_lives M_moves M_parts9 M_numbers M_grade M_reasons M_total M_near M_degree M_mine M_state M_history M_oldLives M_safe M_mined M_used M_partOf9 M_placeOf9 M_partSize9 M_ways M_with M_masks M_rests M_bits M_reach M_more M_reason M_big M_region) ∧ post z9 M_parts9 M_partOf9 M_placeOf9 M_partSize9) := by
  refine mZ_of (lv0 := [(0, .ref (ad 0))]) (by decide) (Nat.le_of_ble_eq_true rfl) rfl ?_
  intro p e s m args below meth c Q A C ret
  replace C : Cx p ({ frames := 4, cells := 0, slots := 0, locals := 240 } : Room) m c 0 0 cX12_divide 6 s args RX12 K A := C
  unfold P_X12_divide at h
  refine wa_iconst C (z := 0) dX12_divide_0 rfl ?_
  refine wa_istore_n C dX12_divide_1 rfl (by decide) rfl ?_
  obtain ⟨Inv_1, ⟨n_2, h0Inv_1⟩, hInv_1⟩ := h
  have k_5 : ∀ (n_3 : Nat) (x1_6 : Int) (M_partOf_7 : Int → Int), inR x1_6 → Inv_1 n_3 x1_6 M_partOf_7 → WA p l e ({ frames := 4, cells := 0, slots := 0, locals := 240 } : Room) s m args below meth c 0 0 Q K ad 6 A 2 [(0, .ref (ad 0)), (1, .int (iI x1_6))] [] (mW M_thrown M_w M_h M_cells M_shape M_isBoard M_isBlank M_lives M_moves M_parts M_numbers M_grade M_reasons M_total M_near M_degree M_mine M_state M_history M_oldLives M_safe M_mined M_used M_partOf_7 M_placeOf M_partSize M_ways M_with M_masks M_rests M_bits M_reach M_more M_reason M_big M_region) := by
    intro n_3
    induction n_3 using Nat.strongRecOn with
    | ind n_3 ih_4 =>
      intro x1_6 M_partOf_7 rx1_6 h
      replace h := hInv_1 n_3 x1_6 M_partOf_7 rx1_6 h
      refine wa_iload_n C 1 rfl dX12_divide_2 rfl ?_
      refine wa_aload_n C 0 rfl dX12_divide_3 rfl ?_
      refine wa_getI C 0 3 mW_0 rfl rfl (by decide) okX12 gw_1235 dX12_divide_4 (fun r_8 => ?_)
      refine wa_icmp_ge C (tgt := 23) rx1_6 r_8 dX12_divide_7 (by decide) (fun c_9 => ?_) (fun c_9 => ?_)
      · replace h := h.1 c_9
        refine wa_iconst C (z := 0) dX12_divide_23 rfl ?_
        refine wa_istore_n C dX12_divide_24 rfl (by decide) rfl ?_
        obtain ⟨Inv_10, ⟨n_11, h0Inv_10⟩, hInv_10⟩ := h
        have k_14 : ∀ (n_12 : Nat) (x1_15 : Int) (M_partOf_16 : Int → Int), inR x1_15 → Inv_10 n_12 x1_15 M_partOf_16 → WA p l e ({ frames := 4, cells := 0, slots := 0, locals := 240 } : Room) s m args below meth c 0 0 Q K ad 6 A 25 [(0, .ref (ad 0)), (1, .int (iI x1_15))] [] (mW M_thrown M_w M_h M_cells M_shape M_isBoard M_isBlank M_lives M_moves M_parts M_numbers M_grade M_reasons M_total M_near M_degree M_mine M_state M_history M_oldLives M_safe M_mined M_used M_partOf_16 M_placeOf M_partSize M_ways M_with M_masks M_rests M_bits M_reach M_more M_reason M_big M_region) := by
          intro n_12
          induction n_12 using Nat.strongRecOn with
          | ind n_12 ih_13 =>
            intro x1_15 M_partOf_16 rx1_15 h
            replace h := hInv_10 n_12 x1_15 M_partOf_16 rx1_15 h
            refine wa_iload_n C 1 rfl dX12_divide_25 rfl ?_
            refine wa_aload_n C 0 rfl dX12_divide_26 rfl ?_
            refine wa_getI C 0 3 mW_0 rfl rfl (by decide) okX12 gw_1235 dX12_divide_27 (fun r_17 => ?_)
            refine wa_icmp_ge C (tgt := 53) rx1_15 r_8 dX12_divide_30 (by decide) (fun c_18 => ?_) (fun c_18 => ?_)
            · replace h := h.1 c_18
              refine wa_aload_n C 0 rfl dX12_divide_53 rfl ?_
              refine wa_iconst C (z := 0) dX12_divide_54 rfl ?_
              refine wa_putI C (ws' := (mW M_thrown M_w M_h M_cells M_shape M_isBoard M_isBlank M_lives M_moves 0 M_numbers M_grade M_reasons M_total M_near M_degree M_mine M_state M_history M_oldLives M_safe M_mined M_used M_partOf_16 M_placeOf M_partSize M_ways M_with M_masks M_rests M_bits M_reach M_more M_reason M_big M_region)) 0 20 mW_0 rfl (by decide) okX12 gw_1252 rfl rfl (Nat.le_of_ble_eq_true rfl) (inR_k 0 rfl) (mWp_0_20 _) dX12_divide_55 ?_
              refine wa_iconst C (z := 1) dX12_divide_58 rfl ?_
              refine wa_istore_n C dX12_divide_59 rfl (by decide) rfl ?_
              refine wa_iconst C (z := 0) dX12_divide_60 rfl ?_
              refine wa_istore_n C dX12_divide_61 rfl (by decide) rfl ?_
              obtain ⟨Inv_19, ⟨n_20, h0Inv_19⟩, hInv_19⟩ := h
              have k_23 : ∀ (n_21 : Nat) (x1_24 : Int) (x2_25 : Int) (M_parts_26 : Int) (M_partOf_27 : Int → Int) (M_placeOf_28 : Int → Int) (M_partSize_29 : Int → Int), inR x1_24 → inR x2_25 → Inv_19 n_21 x1_24 x2_25 M_parts_26 M_partOf_27 M_placeOf_28 M_partSize_29 → WA p l e ({ frames := 4, cells := 0, slots := 0, locals := 240 } : Room) s m args below meth c 0 0 Q K ad 6 A 62 [(0, .ref (ad 0)), (1, .int (iI x1_24)), (2, .int (iI x2_25))] [] (mW M_thrown M_w M_h M_cells M_shape M_isBoard M_isBlank M_lives M_moves M_parts_26 M_numbers M_grade M_reasons M_total M_near M_degree M_mine M_state M_history M_oldLives M_safe M_mined M_used M_partOf_27 M_placeOf_28 M_partSize_29 M_ways M_with M_masks M_rests M_bits M_reach M_more M_reason M_big M_region) := by
                intro n_21
                induction n_21 using Nat.strongRecOn with
                | ind n_21 ih_22 =>
                  intro x1_24 x2_25 M_parts_26 M_partOf_27 M_placeOf_28 M_partSize_29 rx1_24 rx2_25 h
                  replace h := hInv_19 n_21 x1_24 x2_25 M_parts_26 M_partOf_27 M_placeOf_28 M_partSize_29 rx1_24 rx2_25 h
                  refine wa_iload_n C 2 rfl dX12_divide_62 rfl ?_
                  refine wa_aload_n C 0 rfl dX12_divide_63 rfl ?_
                  refine wa_getI C 0 3 mW_0 rfl rfl (by decide) okX12 gw_1235 dX12_divide_64 (fun r_30 => ?_)
                  refine wa_icmp_ge C (tgt := 206) rx2_25 r_8 dX12_divide_67 (by decide) (fun c_31 => ?_) (fun c_31 => ?_)
                  · replace h := h.1 c_31
                    refine wa_iload_n C 1 rfl dX12_divide_206 rfl ?_
                    obtain ⟨b_32, h⟩ := h
                    exact ret dX12_divide_207 b_32 ⟨b_32, _, _, _, _, rfl, h⟩
                  · replace h := h.2 c_31
                    refine wa_aload_n C 0 rfl dX12_divide_70 rfl ?_
                    refine wa_getR C 0 18 mW_0 rfl rfl (by decide) okX12 gw_1250 dX12_divide_71 ?_
                    refine wa_iload_n C 2 rfl dX12_divide_74 rfl ?_
                    obtain ⟨t_33, h⟩ := h
                    refine wa_iald C 10 mW_10 dX12_divide_75 t_33.1 t_33.2 (fun v_34 ev_34 rv_34 => ?_)
                    replace h := h v_34 ev_34 rv_34
                    refine wa_sipush C (z := 1000) dX12_divide_76 (by decide) ?_
                    obtain ⟨J_35, h, hJ_35⟩ := h
                    have k_36 : ∀ (x1_37 : Int) (M_parts_38 : Int) (M_partOf_39 : Int → Int) (M_placeOf_40 : Int → Int) (M_partSize_41 : Int → Int), inR x1_37 → J_35 x1_37 M_parts_38 M_partOf_39 M_placeOf_40 M_partSize_41 → WA p l e ({ frames := 4, cells := 0, slots := 0, locals := 240 } : Room) s m args below meth c 0 0 Q K ad 6 A 200 [(0, .ref (ad 0)), (1, .int (iI x1_37)), (2, .int (iI x2_25))] [] (mW M_thrown M_w M_h M_cells M_shape M_isBoard M_isBlank M_lives M_moves M_parts_38 M_numbers M_grade M_reasons M_total M_near M_degree M_mine M_state M_history M_oldLives M_safe M_mined M_used M_partOf_39 M_placeOf_40 M_partSize_41 M_ways M_with M_masks M_rests M_bits M_reach M_more M_reason M_big M_region) := by
                      intro x1_37 M_parts_38 M_partOf_39 M_placeOf_40 M_partSize_41 rx1_37 h
                      replace h := hJ_35 x1_37 M_parts_38 M_partOf_39 M_placeOf_40 M_partSize_41 rx1_37 h
                      obtain ⟨r_42, h⟩ := h
                      refine wa_iinc C (lv' := fun w9 => [(2, .int (iI w9)), (0, .ref (ad 0)), (1, .int (iI x1_37))]) 2 rfl dX12_divide_200 (by decide) (fun _ => rfl) (fun x2_43 ex2_43 => ?_)
                      replace h := h x2_43 ex2_43
                      have rx2_43 : inR x2_43 := by rw [ex2_43]; exact r_42
                      refine wa_goto C (tgt := 62) dX12_divide_203 (by decide) ?_
                      obtain ⟨n_44, ln_44, h⟩ := h
                      refine wa_sub C [1, 2, 0] rfl ?_
                      exact ih_22 n_44 ln_44 x1_37 x2_43 M_parts_38 M_partOf_39 M_placeOf_40 M_partSize_41 rx1_37 rx2_43 h
                    refine wa_icmp_lt C (tgt := 200) rv_34 (inR_k 1000 rfl) dX12_divide_79 (by decide) (fun c_45 => ?_) (fun c_45 => ?_)
                    · replace h := h.1 c_45
                      refine wa_sub C [0, 1, 2] rfl ?_
                      exact k_36 x1_24 M_parts_26 M_partOf_27 M_placeOf_28 M_partSize_29 rx1_24 h
                    · replace h := h.2 c_45
                      refine wa_aload_n C 0 rfl dX12_divide_82 rfl ?_
                      refine wa_getR C 0 18 mW_0 rfl rfl (by decide) okX12 gw_1250 dX12_divide_83 ?_
                      refine wa_iload_n C 2 rfl dX12_divide_86 rfl ?_
                      obtain ⟨t_46, h⟩ := h
                      refine wa_iald C 10 mW_10 dX12_divide_87 t_46.1 t_46.2 (fun v_47 ev_47 rv_47 => ?_)
                      replace h := h v_47 ev_47 rv_47
                      refine wa_istore_n C dX12_divide_88 rfl (by decide) rfl ?_
                      refine wa_iconst C (z := 0) dX12_divide_89 rfl ?_
                      refine wa_istore C dX12_divide_90 (by decide) rfl ?_
                      refine wa_iload_n C 4 rfl dX12_divide_92 rfl ?_
                      refine wa_istore C dX12_divide_93 (by decide) rfl ?_
                      obtain ⟨Inv_48, ⟨n_49, h0Inv_48⟩, hInv_48⟩ := h
                      have k_52 : ∀ (n_50 : Nat) (x4_53 : Int) (x5_54 : Int) (M_partOf_55 : Int → Int) (M_placeOf_56 : Int → Int), inR x4_53 → inR x5_54 → Inv_48 n_50 x4_53 x5_54 M_partOf_55 M_placeOf_56 → WA p l e ({ frames := 4, cells := 0, slots := 0, locals := 240 } : Room) s m args below meth c 0 0 Q K ad 6 A 95 [(0, .ref (ad 0)), (1, .int (iI x1_24)), (2, .int (iI x2_25)), (3, .int (iI v_47)), (4, .int (iI x4_53)), (5, .int (iI x5_54))] [] (mW M_thrown M_w M_h M_cells M_shape M_isBoard M_isBlank M_lives M_moves M_parts_26 M_numbers M_grade M_reasons M_total M_near M_degree M_mine M_state M_history M_oldLives M_safe M_mined M_used M_partOf_55 M_placeOf_56 M_partSize_29 M_ways M_with M_masks M_rests M_bits M_reach M_more M_reason M_big M_region) := by
                        intro n_50
                        induction n_50 using Nat.strongRecOn with
                        | ind n_50 ih_51 =>
                          intro x4_53 x5_54 M_partOf_55 M_placeOf_56 rx4_53 rx5_54 h
                          replace h := hInv_48 n_50 x4_53 x5_54 M_partOf_55 M_placeOf_56 rx4_53 rx5_54 h
                          refine wa_iload C 5 rfl dX12_divide_95 ?_
                          refine wa_aload_n C 0 rfl dX12_divide_97 rfl ?_
                          refine wa_getI C 0 3 mW_0 rfl rfl (by decide) okX12 gw_1235 dX12_divide_98 (fun r_57 => ?_)
                          refine wa_icmp_ge C (tgt := 144) rx5_54 r_8 dX12_divide_101 (by decide) (fun c_58 => ?_) (fun c_58 => ?_)
                          · replace h := h.1 c_58
                            refine wa_aload_n C 0 rfl dX12_divide_144 rfl ?_
                            refine wa_getI C 0 20 mW_0 rfl rfl (by decide) okX12 gw_1252 dX12_divide_145 (fun r_59 => ?_)
                            refine wa_bipush C (z := 72) dX12_divide_148 (by decide) ?_
                            obtain ⟨J_60, h, hJ_60⟩ := h
                            have k_61 : ∀ (M_partSize_62 : Int → Int), J_60 M_partSize_62 → WA p l e ({ frames := 4, cells := 0, slots := 0, locals := 240 } : Room) s m args below meth c 0 0 Q K ad 6 A 164 [(0, .ref (ad 0)), (1, .int (iI x1_24)), (2, .int (iI x2_25)), (4, .int (iI x4_53))] [] (mW M_thrown M_w M_h M_cells M_shape M_isBoard M_isBlank M_lives M_moves M_parts_26 M_numbers M_grade M_reasons M_total M_near M_degree M_mine M_state M_history M_oldLives M_safe M_mined M_used M_partOf_55 M_placeOf_56 M_partSize_62 M_ways M_with M_masks M_rests M_bits M_reach M_more M_reason M_big M_region) := by
                              intro M_partSize_62 h
                              replace h := hJ_60 M_partSize_62 h
                              refine wa_iload_n C 1 rfl dX12_divide_164 rfl ?_
                              obtain ⟨J_63, h, hJ_63⟩ := h
                              have k_64 : ∀ (z_65 : Int), inR z_65 → J_63 z_65 → WA p l e ({ frames := 4, cells := 0, slots := 0, locals := 240 } : Room) s m args below meth c 0 0 Q K ad 6 A 189 [(0, .ref (ad 0)), (2, .int (iI x2_25))] [.int (iI z_65)] (mW M_thrown M_w M_h M_cells M_shape M_isBoard M_isBlank M_lives M_moves M_parts_26 M_numbers M_grade M_reasons M_total M_near M_degree M_mine M_state M_history M_oldLives M_safe M_mined M_used M_partOf_55 M_placeOf_56 M_partSize_62 M_ways M_with M_masks M_rests M_bits M_reach M_more M_reason M_big M_region) := by
                                intro z_65 rz_65 h
                                replace h := hJ_63 z_65 rz_65 h
                                refine wa_istore_n C dX12_divide_189 rfl (by decide) rfl ?_
                                refine wa_aload_n C 1 rfl dX12_divide_190 rfl ?_
                                refine wa_dup C dX12_divide_191 rfl ?_
                                refine wa_getI C 0 20 mW_0 rfl rfl (by decide) okX12 gw_1252 dX12_divide_192 (fun r_66 => ?_)
                                refine wa_iconst C (z := 1) dX12_divide_195 rfl ?_
                                refine wa_iadd C dX12_divide_196 ?_
                                obtain ⟨r_67, h⟩ := h
                                refine wa_nmi (fun M_parts_68 eM_parts_68 => ?_)
                                replace h := h M_parts_68 eM_parts_68
                                have rM_parts_68 : inR M_parts_68 := by rw [eM_parts_68]; exact r_67
                                refine wa_putI C (ws' := (mW M_thrown M_w M_h M_cells M_shape M_isBoard M_isBlank M_lives M_moves M_parts_68 M_numbers M_grade M_reasons M_total M_near M_degree M_mine M_state M_history M_oldLives M_safe M_mined M_used M_partOf_55 M_placeOf_56 M_partSize_62 M_ways M_with M_masks M_rests M_bits M_reach M_more M_reason M_big M_region)) 0 20 mW_0 rfl (by decide) okX12 gw_1252 rfl rfl (Nat.le_of_ble_eq_true rfl) rM_parts_68 (mWp_0_20 _) dX12_divide_197 ?_
                                refine wa_sub C [1, 0, 2] rfl ?_
                                exact k_36 z_65 M_parts_68 M_partOf_55 M_placeOf_56 M_partSize_62 rz_65 h
                              obtain ⟨J_69, h, hJ_69⟩ := h
                              have k_70 : J_69 → WA p l e ({ frames := 4, cells := 0, slots := 0, locals := 240 } : Room) s m args below meth c 0 0 Q K ad 6 A 188 [(0, .ref (ad 0)), (2, .int (iI x2_25))] [] (mW M_thrown M_w M_h M_cells M_shape M_isBoard M_isBlank M_lives M_moves M_parts_26 M_numbers M_grade M_reasons M_total M_near M_degree M_mine M_state M_history M_oldLives M_safe M_mined M_used M_partOf_55 M_placeOf_56 M_partSize_62 M_ways M_with M_masks M_rests M_bits M_reach M_more M_reason M_big M_region) := by
                                intro h
                                replace h := hJ_69 h
                                refine wa_iconst C (z := 0) dX12_divide_188 rfl ?_
                                refine wa_sub C [0, 1] rfl ?_
                                exact k_64 0 (inR_k 0 rfl) h
                              refine wa_if_eq C (tgt := 188) rx1_24 dX12_divide_165 (by decide) (fun c_71 => ?_) (fun c_71 => ?_)
                              · replace h := h.1 c_71
                                refine wa_sub C [0, 2] rfl ?_
                                exact k_70 h
                              · replace h := h.2 c_71
                                refine wa_iload C 3 rfl dX12_divide_168 ?_
                                refine wa_bipush C (z := 16) dX12_divide_170 (by decide) ?_
                                refine wa_icmp_gt C (tgt := 188) rx4_53 (inR_k 16 rfl) dX12_divide_172 (by decide) (fun c_72 => ?_) (fun c_72 => ?_)
                                · replace h := h.1 c_72
                                  refine wa_sub C [0, 2] rfl ?_
                                  exact k_70 h
                                · replace h := h.2 c_72
                                  refine wa_aload_n C 0 rfl dX12_divide_175 rfl ?_
                                  refine wa_getI C 0 20 mW_0 rfl rfl (by decide) okX12 gw_1252 dX12_divide_176 (fun r_73 => ?_)
                                  refine wa_bipush C (z := 72) dX12_divide_179 (by decide) ?_
                                  refine wa_icmp_ge C (tgt := 188) r_59 (inR_k 72 rfl) dX12_divide_181 (by decide) (fun c_74 => ?_) (fun c_74 => ?_)
                                  · replace h := h.1 c_74
                                    refine wa_sub C [0, 2] rfl ?_
                                    exact k_70 h
                                  · replace h := h.2 c_74
                                    refine wa_iconst C (z := 1) dX12_divide_184 rfl ?_
                                    refine wa_goto C (tgt := 189) dX12_divide_185 (by decide) ?_
                                    refine wa_sub C [0, 2] rfl ?_
                                    exact k_64 1 (inR_k 1 rfl) h
                            refine wa_icmp_ge C (tgt := 164) r_59 (inR_k 72 rfl) dX12_divide_150 (by decide) (fun c_75 => ?_) (fun c_75 => ?_)
                            · replace h := h.1 c_75
                              refine wa_sub C [0, 1, 2, 4] rfl ?_
                              exact k_61 M_partSize_29 h
                            · replace h := h.2 c_75
                              refine wa_aload_n C 0 rfl dX12_divide_153 rfl ?_
                              refine wa_getR C 0 21 mW_0 rfl rfl (by decide) okX12 gw_1253 dX12_divide_154 ?_
                              refine wa_aload_n C 0 rfl dX12_divide_157 rfl ?_
                              refine wa_getI C 0 20 mW_0 rfl rfl (by decide) okX12 gw_1252 dX12_divide_158 (fun r_76 => ?_)
                              refine wa_iload C 4 rfl dX12_divide_161 ?_
                              obtain ⟨t_77, h⟩ := h
                              refine wa_iast C (ws' := fun w9 => (mW M_thrown M_w M_h M_cells M_shape M_isBoard M_isBlank M_lives M_moves M_parts_26 M_numbers M_grade M_reasons M_total M_near M_degree M_mine M_state M_history M_oldLives M_safe M_mined M_used M_partOf_55 M_placeOf_56 w9 M_ways M_with M_masks M_rests M_bits M_reach M_more M_reason M_big M_region)) 12 mW_12 dX12_divide_163 t_77.1 t_77.2 rx4_53 mWs_12 (fun M_partSize_78 eM_partSize_78 => ?_)
                              replace h := h M_partSize_78 eM_partSize_78
                              refine wa_sub C [0, 1, 2, 4] rfl ?_
                              exact k_61 M_partSize_78 h
                          · replace h := h.2 c_58
                            refine wa_aload_n C 0 rfl dX12_divide_104 rfl ?_
                            refine wa_getR C 0 18 mW_0 rfl rfl (by decide) okX12 gw_1250 dX12_divide_105 ?_
                            refine wa_iload C 5 rfl dX12_divide_108 ?_
                            obtain ⟨t_79, h⟩ := h
                            refine wa_iald C 10 mW_10 dX12_divide_110 t_79.1 t_79.2 (fun v_80 ev_80 rv_80 => ?_)
                            replace h := h v_80 ev_80 rv_80
                            refine wa_iload_n C 3 rfl dX12_divide_111 rfl ?_
                            obtain ⟨J_81, h, hJ_81⟩ := h
                            have k_82 : ∀ (x4_83 : Int) (M_partOf_84 : Int → Int) (M_placeOf_85 : Int → Int), inR x4_83 → J_81 x4_83 M_partOf_84 M_placeOf_85 → WA p l e ({ frames := 4, cells := 0, slots := 0, locals := 240 } : Room) s m args below meth c 0 0 Q K ad 6 A 138 [(0, .ref (ad 0)), (1, .int (iI x1_24)), (2, .int (iI x2_25)), (3, .int (iI v_47)), (4, .int (iI x4_83)), (5, .int (iI x5_54))] [] (mW M_thrown M_w M_h M_cells M_shape M_isBoard M_isBlank M_lives M_moves M_parts_26 M_numbers M_grade M_reasons M_total M_near M_degree M_mine M_state M_history M_oldLives M_safe M_mined M_used M_partOf_84 M_placeOf_85 M_partSize_29 M_ways M_with M_masks M_rests M_bits M_reach M_more M_reason M_big M_region) := by
                              intro x4_83 M_partOf_84 M_placeOf_85 rx4_83 h
                              replace h := hJ_81 x4_83 M_partOf_84 M_placeOf_85 rx4_83 h
                              obtain ⟨r_86, h⟩ := h
                              refine wa_iinc C (lv' := fun w9 => [(5, .int (iI w9)), (0, .ref (ad 0)), (1, .int (iI x1_24)), (2, .int (iI x2_25)), (3, .int (iI v_47)), (4, .int (iI x4_83))]) 5 rfl dX12_divide_138 (by decide) (fun _ => rfl) (fun x5_87 ex5_87 => ?_)
                              replace h := h x5_87 ex5_87
                              have rx5_87 : inR x5_87 := by rw [ex5_87]; exact r_86
                              refine wa_goto C (tgt := 95) dX12_divide_141 (by decide) ?_
                              obtain ⟨n_88, ln_88, h⟩ := h
                              refine wa_sub C [1, 2, 3, 4, 5, 0] rfl ?_
                              exact ih_51 n_88 ln_88 x4_83 x5_87 M_partOf_84 M_placeOf_85 rx4_83 rx5_87 h
                            refine wa_icmp_ne C (tgt := 138) rv_80 rv_47 dX12_divide_112 (by decide) (fun c_89 => ?_) (fun c_89 => ?_)
                            · replace h := h.1 c_89
                              refine wa_sub C [0, 1, 2, 3, 4, 5] rfl ?_
                              exact k_82 x4_53 M_partOf_55 M_placeOf_56 rx4_53 h
                            · replace h := h.2 c_89
                              refine wa_aload_n C 0 rfl dX12_divide_115 rfl ?_
                              refine wa_getR C 0 18 mW_0 rfl rfl (by decide) okX12 gw_1250 dX12_divide_116 ?_
                              refine wa_iload C 5 rfl dX12_divide_119 ?_
                              refine wa_aload_n C 0 rfl dX12_divide_121 rfl ?_
                              refine wa_getI C 0 20 mW_0 rfl rfl (by decide) okX12 gw_1252 dX12_divide_122 (fun r_90 => ?_)
                              obtain ⟨t_91, h⟩ := h
                              refine wa_iast C (ws' := fun w9 => (mW M_thrown M_w M_h M_cells M_shape M_isBoard M_isBlank M_lives M_moves M_parts_26 M_numbers M_grade M_reasons M_total M_near M_degree M_mine M_state M_history M_oldLives M_safe M_mined M_used w9 M_placeOf_56 M_partSize_29 M_ways M_with M_masks M_rests M_bits M_reach M_more M_reason M_big M_region)) 10 mW_10 dX12_divide_125 t_91.1 t_91.2 r_90 mWs_10 (fun M_partOf_92 eM_partOf_92 => ?_)
                              replace h := h M_partOf_92 eM_partOf_92
                              refine wa_aload_n C 0 rfl dX12_divide_126 rfl ?_
                              refine wa_getR C 0 19 mW_0 rfl rfl (by decide) okX12 gw_1251 dX12_divide_127 ?_
                              refine wa_iload C 5 rfl dX12_divide_130 ?_
                              refine wa_iload C 4 rfl dX12_divide_132 ?_
                              obtain ⟨t_93, h⟩ := h
                              refine wa_iast C (ws' := fun w9 => (mW M_thrown M_w M_h M_cells M_shape M_isBoard M_isBlank M_lives M_moves M_parts_26 M_numbers M_grade M_reasons M_total M_near M_degree M_mine M_state M_history M_oldLives M_safe M_mined M_used M_partOf_92 w9 M_partSize_29 M_ways M_with M_masks M_rests M_bits M_reach M_more M_reason M_big M_region)) 11 mW_11 dX12_divide_134 t_93.1 t_93.2 rx4_53 mWs_11 (fun M_placeOf_94 eM_placeOf_94 => ?_)
                              replace h := h M_placeOf_94 eM_placeOf_94
                              obtain ⟨r_95, h⟩ := h
                              refine wa_iinc C (lv' := fun w9 => [(4, .int (iI w9)), (0, .ref (ad 0)), (1, .int (iI x1_24)), (2, .int (iI x2_25)), (3, .int (iI v_47)), (5, .int (iI x5_54))]) 4 rfl dX12_divide_135 (by decide) (fun _ => rfl) (fun x4_96 ex4_96 => ?_)
                              replace h := h x4_96 ex4_96
                              have rx4_96 : inR x4_96 := by rw [ex4_96]; exact r_95
                              refine wa_sub C [1, 2, 3, 4, 0, 5] rfl ?_
                              exact k_82 x4_96 M_partOf_92 M_placeOf_94 rx4_96 h
                      refine wa_sub C [3, 4, 5, 2, 1, 0] rfl ?_
                      exact k_52 n_49 0 x2_25 M_partOf_27 M_placeOf_28 (inR_k 0 rfl) rx2_25 h0Inv_48
              refine wa_sub C [2, 1, 0] rfl ?_
              exact k_23 n_20 1 0 0 M_partOf_16 M_placeOf M_partSize (inR_k 1 rfl) (inR_k 0 rfl) h0Inv_19
            · replace h := h.2 c_18
              refine wa_aload_n C 0 rfl dX12_divide_33 rfl ?_
              refine wa_getR C 0 17 mW_0 rfl rfl (by decide) okX12 gw_1249 dX12_divide_34 ?_
              refine wa_iload_n C 1 rfl dX12_divide_37 rfl ?_
              obtain ⟨t_97, h⟩ := h
              refine wa_bald C 9 mW_9 dX12_divide_38 t_97.1 t_97.2 (fun v_98 ev_98 rv_98 => ?_)
              replace h := h v_98 ev_98 rv_98
              obtain ⟨J_99, h, hJ_99⟩ := h
              have k_100 : ∀ (M_partOf_101 : Int → Int), J_99 M_partOf_101 → WA p l e ({ frames := 4, cells := 0, slots := 0, locals := 240 } : Room) s m args below meth c 0 0 Q K ad 6 A 47 [(0, .ref (ad 0)), (1, .int (iI x1_15))] [] (mW M_thrown M_w M_h M_cells M_shape M_isBoard M_isBlank M_lives M_moves M_parts M_numbers M_grade M_reasons M_total M_near M_degree M_mine M_state M_history M_oldLives M_safe M_mined M_used M_partOf_101 M_placeOf M_partSize M_ways M_with M_masks M_rests M_bits M_reach M_more M_reason M_big M_region) := by
                intro M_partOf_101 h
                replace h := hJ_99 M_partOf_101 h
                obtain ⟨r_102, h⟩ := h
                refine wa_iinc C (lv' := fun w9 => [(1, .int (iI w9)), (0, .ref (ad 0))]) 1 rfl dX12_divide_47 (by decide) (fun _ => rfl) (fun x1_103 ex1_103 => ?_)
                replace h := h x1_103 ex1_103
                have rx1_103 : inR x1_103 := by rw [ex1_103]; exact r_102
                refine wa_goto C (tgt := 25) dX12_divide_50 (by decide) ?_
                obtain ⟨n_104, ln_104, h⟩ := h
                refine wa_sub C [1, 0] rfl ?_
                exact ih_13 n_104 ln_104 x1_103 M_partOf_101 rx1_103 h
              refine wa_if_eq C (tgt := 47) (inR_b rv_98) dX12_divide_39 (by decide) (fun c_105 => ?_) (fun c_105 => ?_)
              · replace h := h.1 c_105
                refine wa_sub C [0, 1] rfl ?_
                exact k_100 M_partOf_16 h
              · replace h := h.2 c_105
                refine wa_aload_n C 0 rfl dX12_divide_42 rfl ?_
                refine wa_iload_n C 1 rfl dX12_divide_43 rfl ?_
                refine wa_callVv C (k := 0) (As := [.int (iI x1_15)]) (rest := []) (c_X12_joinAround l K ad x1_15 rx1_15 _ h) gw_1475 gw_1472 mW_0 rfl gw_1474 gs_79 gw_12 q_X12_joinAround rfl rfl rfl ⟨by decide, by decide⟩ rfl (Nat.le_of_ble_eq_true rfl) dX12_divide_44 (fun u9 hp => ?_)
                obtain ⟨M_partOf_106, rfl, h⟩ := hp
                refine wa_sub C [0, 1] rfl ?_
                exact k_100 M_partOf_106 h
        refine wa_sub C [1, 0] rfl ?_
        exact k_14 n_11 0 M_partOf_7 (inR_k 0 rfl) h0Inv_10
      · replace h := h.2 c_9
        refine wa_aload_n C 0 rfl dX12_divide_10 rfl ?_
        refine wa_getR C 0 18 mW_0 rfl rfl (by decide) okX12 gw_1250 dX12_divide_11 ?_
        refine wa_iload_n C 1 rfl dX12_divide_14 rfl ?_
        refine wa_iconst C (z := -1) dX12_divide_15 rfl ?_
        obtain ⟨t_107, h⟩ := h
        refine wa_iast C (ws' := fun w9 => (mW M_thrown M_w M_h M_cells M_shape M_isBoard M_isBlank M_lives M_moves M_parts M_numbers M_grade M_reasons M_total M_near M_degree M_mine M_state M_history M_oldLives M_safe M_mined M_used w9 M_placeOf M_partSize M_ways M_with M_masks M_rests M_bits M_reach M_more M_reason M_big M_region)) 10 mW_10 dX12_divide_16 t_107.1 t_107.2 (inR_k (-1) rfl) mWs_10 (fun M_partOf_108 eM_partOf_108 => ?_)
        replace h := h M_partOf_108 eM_partOf_108
        obtain ⟨r_109, h⟩ := h
        refine wa_iinc C (lv' := fun w9 => [(1, .int (iI w9)), (0, .ref (ad 0))]) 1 rfl dX12_divide_17 (by decide) (fun _ => rfl) (fun x1_110 ex1_110 => ?_)
        replace h := h x1_110 ex1_110
        have rx1_110 : inR x1_110 := by rw [ex1_110]; exact r_109
        refine wa_goto C (tgt := 2) dX12_divide_20 (by decide) ?_
        obtain ⟨n_111, ln_111, h⟩ := h
        refine wa_sub C [1, 0] rfl ?_
        exact ih_4 n_111 ln_111 x1_110 M_partOf_108 rx1_110 h
  refine wa_sub C [1, 0] rfl ?_
  exact k_5 n_2 0 M_partOf (inR_k 0 rfl) h0Inv_1
def P_X12_gather (post : (Int) → (Int → Int) → (Int → Int) → Prop) (M_cells : Int) (M_numbers : Int) (M_near : Int → Int) (M_degree : Int → Int) (M_mine : Int → Int) (M_state : Int → Int) (M_used : Int → Int) (M_partOf : Int → Int) (M_placeOf : Int → Int) (M_masks : Int → Int) (M_rests : Int → Int) (x1 : Int) : Prop :=
  ∃ Inv_1 : Nat → (Int) → (Int) → (Int → Int) → (Int → Int) → Prop, (∃ n_2 : Nat, Inv_1 n_2 0 0 M_masks M_rests) ∧ ∀ (n_3 : Nat) (x2_6 : Int) (M_numbers_7 : Int) (M_masks_8 : Int → Int) (M_rests_9 : Int → Int), inR x2_6 → Inv_1 n_3 x2_6 M_numbers_7 M_masks_8 M_rests_9 → ((M_cells ≤ x2_6 → (post M_numbers_7 M_masks_8 M_rests_9)) ∧ (¬ M_cells ≤ x2_6 → (∃ Inv_12 : Nat → (Int) → (Int) → Prop, (∃ n_13 : Nat, Inv_12 n_13 0 0) ∧ ∀ (n_14 : Nat) (x3_17 : Int) (x4_18 : Int), inR x3_17 → inR x4_18 → Inv_12 n_14 x3_17 x4_18 → ((0 ≤ x2_6 ∧ x2_6 < 144) ∧ (∀ v_20 : Int, v_20 = M_degree x2_6 → inR v_20 → (∃ J_21 : Prop, ((v_20 ≤ x4_18 → (J_21)) ∧ (¬ v_20 ≤ x4_18 → ((0 ≤ x2_6 ∧ x2_6 < 144) ∧ (∀ v_44 : Int, v_44 = M_used x2_6 → (v_44 = 0 ∨ v_44 = 1) → ((v_44 = 0 → (J_21)) ∧ (¬ v_44 = 0 → ((0 ≤ ((8 * x2_6) + x4_18) ∧ ((8 * x2_6) + x4_18) < 1152) ∧ (∀ v_47 : Int, v_47 = M_near ((8 * x2_6) + x4_18) → inR v_47 → (P_X12_isUnknown (fun (c_48 : Int) => (c_48 = 0 ∨ c_48 = 1) → (∃ J_49 : (Int) → Prop, ((c_48 = 0 → (J_49 x3_17)) ∧ (¬ c_48 = 0 → ((0 ≤ v_47 ∧ v_47 < 144) ∧ (∀ v_57 : Int, v_57 = M_partOf v_47 → inR v_57 → ((¬ v_57 = x1 → (J_49 x3_17)) ∧ (v_57 = x1 → ((0 ≤ v_47 ∧ v_47 < 144) ∧ (∀ v_60 : Int, v_60 = M_placeOf v_47 → inR v_60 → (∀ x3_61 : Int, x3_61 = (orI x3_17 (shlI 1 v_60)) → (J_49 x3_61)))))))))) ∧ (∀ (x3_51 : Int), inR x3_51 → J_49 x3_51 → (inR (x4_18 + 1) ∧ (∀ x4_53 : Int, x4_53 = (x4_18 + 1) → (∃ n_54 : Nat, n_54 < n_14 ∧ Inv_12 n_54 x3_51 x4_53)))))) M_state v_47))))))))) ∧ (J_21 → (∃ J_23 : (Int) → (Int → Int) → (Int → Int) → Prop, ((x3_17 ≤ 0 → (J_23 M_numbers_7 M_masks_8 M_rests_9)) ∧ (¬ x3_17 ≤ 0 → ((0 ≤ M_numbers_7 ∧ M_numbers_7 < 144) ∧ (∀ M_masks_34 : Int → Int, M_masks_34 = upZ M_masks_8 M_numbers_7 x3_17 → (P_X12_restOf (fun (c_36 : Int) => inR c_36 → ((0 ≤ M_numbers_7 ∧ M_numbers_7 < 144) ∧ (∀ M_rests_38 : Int → Int, M_rests_38 = upZ M_rests_9 M_numbers_7 c_36 → (inR (M_numbers_7 + 1) ∧ (∀ M_numbers_41 : Int, M_numbers_41 = (M_numbers_7 + 1) → (J_23 M_numbers_41 M_masks_34 M_rests_38)))))) M_near M_degree M_mine M_state x2_6))))) ∧ (∀ (M_numbers_25 : Int) (M_masks_26 : Int → Int) (M_rests_27 : Int → Int), J_23 M_numbers_25 M_masks_26 M_rests_27 → (inR (x2_6 + 1) ∧ (∀ x2_29 : Int, x2_29 = (x2_6 + 1) → (∃ n_30 : Nat, n_30 < n_3 ∧ Inv_1 n_30 x2_29 M_numbers_25 M_masks_26 M_rests_27))))))))))))
set_option maxRecDepth 100000 in
set_option maxHeartbeats 4000000 in
theorem c_X12_gather (l : Launch) (K : wK) (ad : Nat → Nat) {M_thrown : Int} {M_w : Int} {M_h : Int} {M_cells : Int} {M_shape : Int} {M_isBoard : Int} {M_isBlank : Int} {M_lives : Int} {M_moves : Int} {M_parts : Int} {M_numbers : Int} {M_grade : Int} {M_reasons : Int} {M_total : Int} {M_near : Int → Int} {M_degree : Int → Int} {M_mine : Int → Int} {M_state : Int → Int} {M_history : Int → Int64} {M_oldLives : Int → Int} {M_safe : Int → Int} {M_mined : Int → Int} {M_used : Int → Int} {M_partOf : Int → Int} {M_placeOf : Int → Int} {M_partSize : Int → Int} {M_ways : Int → Int} {M_with : Int → Int} {M_masks : Int → Int} {M_rests : Int → Int} {M_bits : Int → Int} {M_reach : Int → Int} {M_more : Int → Int} {M_reason : Int → Int} {M_big : Int → Int64} {M_region : Int → Int} (x1 : Int) (rx1 : inR x1) (post : (Int) → (Int → Int) → (Int → Int) → Prop) (h : P_X12_gather post M_cells M_numbers M_near M_degree M_mine M_state M_used M_partOf M_placeOf M_masks M_rests x1) : mV l yX12_gather (Cond.code yX12_gather cX12_gather 6 none :: GT) ({ frames := 4, cells := 0, slots := 0, locals := 240 } : Room) [.ref (ad 0), .int (iI x1)] K ad (mW M_thrown M_w M_h M_cells M_shape M_isBoard M_isBlank M_lives M_moves M_parts M_numbers M_grade M_reasons M_total M_near M_degree M_mine M_state M_history M_oldLives M_safe M_mined M_used M_partOf M_placeOf M_partSize M_ways M_with M_masks M_rests M_bits M_reach M_more M_reason M_big M_region) (fun u9 => ∃ M_numbers9 M_masks9 M_rests9, u9 = (mW M_thrown M_w M_h M_cells M_shape M_isBoard M_isBlank M_lives M_moves M_parts M_numbers9 M_grade M_reasons M_total M_near M_degree M_mine M_state M_history M_oldLives M_safe M_mined M_used M_partOf M_placeOf M_partSize M_ways M_with M_masks9 M_rests9 M_bits M_reach M_more M_reason M_big M_region) ∧ post M_numbers9 M_masks9 M_rests9) := by
  refine mV_of (lv0 := [(0, .ref (ad 0)), (1, .int (iI x1))]) (by decide) (Nat.le_of_ble_eq_true rfl) rfl ?_
  intro p e s m args below meth c Q A C ret
  replace C : Cx p ({ frames := 4, cells := 0, slots := 0, locals := 240 } : Room) m c 0 0 cX12_gather 6 s args RX12 K A := C
  unfold P_X12_gather at h
  refine wa_aload_n C 0 rfl dX12_gather_0 rfl ?_
  refine wa_iconst C (z := 0) dX12_gather_1 rfl ?_
  refine wa_putI C (ws' := (mW M_thrown M_w M_h M_cells M_shape M_isBoard M_isBlank M_lives M_moves M_parts 0 M_grade M_reasons M_total M_near M_degree M_mine M_state M_history M_oldLives M_safe M_mined M_used M_partOf M_placeOf M_partSize M_ways M_with M_masks M_rests M_bits M_reach M_more M_reason M_big M_region)) 0 24 mW_0 rfl (by decide) okX12 gw_1256 rfl rfl (Nat.le_of_ble_eq_true rfl) (inR_k 0 rfl) (mWp_0_24 _) dX12_gather_2 ?_
  refine wa_iconst C (z := 0) dX12_gather_5 rfl ?_
  refine wa_istore_n C dX12_gather_6 rfl (by decide) rfl ?_
  obtain ⟨Inv_1, ⟨n_2, h0Inv_1⟩, hInv_1⟩ := h
  have k_5 : ∀ (n_3 : Nat) (x2_6 : Int) (M_numbers_7 : Int) (M_masks_8 : Int → Int) (M_rests_9 : Int → Int), inR x2_6 → Inv_1 n_3 x2_6 M_numbers_7 M_masks_8 M_rests_9 → WA p l e ({ frames := 4, cells := 0, slots := 0, locals := 240 } : Room) s m args below meth c 0 0 Q K ad 6 A 7 [(0, .ref (ad 0)), (1, .int (iI x1)), (2, .int (iI x2_6))] [] (mW M_thrown M_w M_h M_cells M_shape M_isBoard M_isBlank M_lives M_moves M_parts M_numbers_7 M_grade M_reasons M_total M_near M_degree M_mine M_state M_history M_oldLives M_safe M_mined M_used M_partOf M_placeOf M_partSize M_ways M_with M_masks_8 M_rests_9 M_bits M_reach M_more M_reason M_big M_region) := by
    intro n_3
    induction n_3 using Nat.strongRecOn with
    | ind n_3 ih_4 =>
      intro x2_6 M_numbers_7 M_masks_8 M_rests_9 rx2_6 h
      replace h := hInv_1 n_3 x2_6 M_numbers_7 M_masks_8 M_rests_9 rx2_6 h
      refine wa_iload_n C 2 rfl dX12_gather_7 rfl ?_
      refine wa_aload_n C 0 rfl dX12_gather_8 rfl ?_
      refine wa_getI C 0 3 mW_0 rfl rfl (by decide) okX12 gw_1235 dX12_gather_9 (fun r_10 => ?_)
      refine wa_icmp_ge C (tgt := 136) rx2_6 r_10 dX12_gather_12 (by decide) (fun c_11 => ?_) (fun c_11 => ?_)
      · replace h := h.1 c_11
        exact ret dX12_gather_136 ⟨_, _, _, rfl, h⟩
      · replace h := h.2 c_11
        refine wa_iconst C (z := 0) dX12_gather_15 rfl ?_
        refine wa_istore_n C dX12_gather_16 rfl (by decide) rfl ?_
        refine wa_iconst C (z := 0) dX12_gather_17 rfl ?_
        refine wa_istore C dX12_gather_18 (by decide) rfl ?_
        obtain ⟨Inv_12, ⟨n_13, h0Inv_12⟩, hInv_12⟩ := h
        have k_16 : ∀ (n_14 : Nat) (x3_17 : Int) (x4_18 : Int), inR x3_17 → inR x4_18 → Inv_12 n_14 x3_17 x4_18 → WA p l e ({ frames := 4, cells := 0, slots := 0, locals := 240 } : Room) s m args below meth c 0 0 Q K ad 6 A 20 [(0, .ref (ad 0)), (1, .int (iI x1)), (2, .int (iI x2_6)), (3, .int (iI x3_17)), (4, .int (iI x4_18))] [] (mW M_thrown M_w M_h M_cells M_shape M_isBoard M_isBlank M_lives M_moves M_parts M_numbers_7 M_grade M_reasons M_total M_near M_degree M_mine M_state M_history M_oldLives M_safe M_mined M_used M_partOf M_placeOf M_partSize M_ways M_with M_masks_8 M_rests_9 M_bits M_reach M_more M_reason M_big M_region) := by
          intro n_14
          induction n_14 using Nat.strongRecOn with
          | ind n_14 ih_15 =>
            intro x3_17 x4_18 rx3_17 rx4_18 h
            replace h := hInv_12 n_14 x3_17 x4_18 rx3_17 rx4_18 h
            refine wa_iload C 4 rfl dX12_gather_20 ?_
            refine wa_aload_n C 0 rfl dX12_gather_22 rfl ?_
            refine wa_getR C 0 8 mW_0 rfl rfl (by decide) okX12 gw_1240 dX12_gather_23 ?_
            refine wa_iload_n C 2 rfl dX12_gather_26 rfl ?_
            obtain ⟨t_19, h⟩ := h
            refine wa_iald C 2 mW_2 dX12_gather_27 t_19.1 t_19.2 (fun v_20 ev_20 rv_20 => ?_)
            replace h := h v_20 ev_20 rv_20
            obtain ⟨J_21, h, hJ_21⟩ := h
            have k_22 : J_21 → WA p l e ({ frames := 4, cells := 0, slots := 0, locals := 240 } : Room) s m args below meth c 0 0 Q K ad 6 A 92 [(0, .ref (ad 0)), (1, .int (iI x1)), (2, .int (iI x2_6)), (3, .int (iI x3_17))] [] (mW M_thrown M_w M_h M_cells M_shape M_isBoard M_isBlank M_lives M_moves M_parts M_numbers_7 M_grade M_reasons M_total M_near M_degree M_mine M_state M_history M_oldLives M_safe M_mined M_used M_partOf M_placeOf M_partSize M_ways M_with M_masks_8 M_rests_9 M_bits M_reach M_more M_reason M_big M_region) := by
              intro h
              replace h := hJ_21 h
              refine wa_iload_n C 3 rfl dX12_gather_92 rfl ?_
              obtain ⟨J_23, h, hJ_23⟩ := h
              have k_24 : ∀ (M_numbers_25 : Int) (M_masks_26 : Int → Int) (M_rests_27 : Int → Int), J_23 M_numbers_25 M_masks_26 M_rests_27 → WA p l e ({ frames := 4, cells := 0, slots := 0, locals := 240 } : Room) s m args below meth c 0 0 Q K ad 6 A 130 [(0, .ref (ad 0)), (1, .int (iI x1)), (2, .int (iI x2_6))] [] (mW M_thrown M_w M_h M_cells M_shape M_isBoard M_isBlank M_lives M_moves M_parts M_numbers_25 M_grade M_reasons M_total M_near M_degree M_mine M_state M_history M_oldLives M_safe M_mined M_used M_partOf M_placeOf M_partSize M_ways M_with M_masks_26 M_rests_27 M_bits M_reach M_more M_reason M_big M_region) := by
                intro M_numbers_25 M_masks_26 M_rests_27 h
                replace h := hJ_23 M_numbers_25 M_masks_26 M_rests_27 h
                obtain ⟨r_28, h⟩ := h
                refine wa_iinc C (lv' := fun w9 => [(2, .int (iI w9)), (0, .ref (ad 0)), (1, .int (iI x1))]) 2 rfl dX12_gather_130 (by decide) (fun _ => rfl) (fun x2_29 ex2_29 => ?_)
                replace h := h x2_29 ex2_29
                have rx2_29 : inR x2_29 := by rw [ex2_29]; exact r_28
                refine wa_goto C (tgt := 7) dX12_gather_133 (by decide) ?_
                obtain ⟨n_30, ln_30, h⟩ := h
                refine wa_sub C [1, 2, 0] rfl ?_
                exact ih_4 n_30 ln_30 x2_29 M_numbers_25 M_masks_26 M_rests_27 rx2_29 h
              refine wa_if_le C (tgt := 130) rx3_17 dX12_gather_93 (by decide) (fun c_31 => ?_) (fun c_31 => ?_)
              · replace h := h.1 c_31
                refine wa_sub C [0, 1, 2] rfl ?_
                exact k_24 M_numbers_7 M_masks_8 M_rests_9 h
              · replace h := h.2 c_31
                refine wa_aload_n C 0 rfl dX12_gather_96 rfl ?_
                refine wa_getR C 0 25 mW_0 rfl rfl (by decide) okX12 gw_1257 dX12_gather_97 ?_
                refine wa_aload_n C 0 rfl dX12_gather_100 rfl ?_
                refine wa_getI C 0 24 mW_0 rfl rfl (by decide) okX12 gw_1256 dX12_gather_101 (fun r_32 => ?_)
                refine wa_iload_n C 3 rfl dX12_gather_104 rfl ?_
                obtain ⟨t_33, h⟩ := h
                refine wa_iast C (ws' := fun w9 => (mW M_thrown M_w M_h M_cells M_shape M_isBoard M_isBlank M_lives M_moves M_parts M_numbers_7 M_grade M_reasons M_total M_near M_degree M_mine M_state M_history M_oldLives M_safe M_mined M_used M_partOf M_placeOf M_partSize M_ways M_with w9 M_rests_9 M_bits M_reach M_more M_reason M_big M_region)) 15 mW_15 dX12_gather_105 t_33.1 t_33.2 rx3_17 mWs_15 (fun M_masks_34 eM_masks_34 => ?_)
                replace h := h M_masks_34 eM_masks_34
                refine wa_aload_n C 0 rfl dX12_gather_106 rfl ?_
                refine wa_getR C 0 26 mW_0 rfl rfl (by decide) okX12 gw_1258 dX12_gather_107 ?_
                refine wa_aload_n C 0 rfl dX12_gather_110 rfl ?_
                refine wa_getI C 0 24 mW_0 rfl rfl (by decide) okX12 gw_1256 dX12_gather_111 (fun r_35 => ?_)
                refine wa_aload_n C 0 rfl dX12_gather_114 rfl ?_
                refine wa_iload_n C 2 rfl dX12_gather_115 rfl ?_
                refine wa_callVi C (k := 0) (As := [.int (iI x2_6)]) (rest := [.int (iI M_numbers_7), .ref (ad 16)]) (c_X12_restOf l K ad x2_6 rx2_6 _ h) gw_1431 gw_1428 mW_0 rfl gw_1430 gs_68 gw_12 q_X12_restOf rfl rfl rfl ⟨by decide, by decide⟩ rfl (Nat.le_of_ble_eq_true rfl) dX12_gather_116 (fun c_36 u9 rc_36 hp => ?_)
                obtain ⟨rfl, h⟩ := hp
                replace h := h rc_36
                obtain ⟨t_37, h⟩ := h
                refine wa_iast C (ws' := fun w9 => (mW M_thrown M_w M_h M_cells M_shape M_isBoard M_isBlank M_lives M_moves M_parts M_numbers_7 M_grade M_reasons M_total M_near M_degree M_mine M_state M_history M_oldLives M_safe M_mined M_used M_partOf M_placeOf M_partSize M_ways M_with M_masks_34 w9 M_bits M_reach M_more M_reason M_big M_region)) 16 mW_16 dX12_gather_119 t_37.1 t_37.2 rc_36 mWs_16 (fun M_rests_38 eM_rests_38 => ?_)
                replace h := h M_rests_38 eM_rests_38
                refine wa_aload_n C 0 rfl dX12_gather_120 rfl ?_
                refine wa_dup C dX12_gather_121 rfl ?_
                refine wa_getI C 0 24 mW_0 rfl rfl (by decide) okX12 gw_1256 dX12_gather_122 (fun r_39 => ?_)
                refine wa_iconst C (z := 1) dX12_gather_125 rfl ?_
                refine wa_iadd C dX12_gather_126 ?_
                obtain ⟨r_40, h⟩ := h
                refine wa_nmi (fun M_numbers_41 eM_numbers_41 => ?_)
                replace h := h M_numbers_41 eM_numbers_41
                have rM_numbers_41 : inR M_numbers_41 := by rw [eM_numbers_41]; exact r_40
                refine wa_putI C (ws' := (mW M_thrown M_w M_h M_cells M_shape M_isBoard M_isBlank M_lives M_moves M_parts M_numbers_41 M_grade M_reasons M_total M_near M_degree M_mine M_state M_history M_oldLives M_safe M_mined M_used M_partOf M_placeOf M_partSize M_ways M_with M_masks_34 M_rests_38 M_bits M_reach M_more M_reason M_big M_region)) 0 24 mW_0 rfl (by decide) okX12 gw_1256 rfl rfl (Nat.le_of_ble_eq_true rfl) rM_numbers_41 (mWp_0_24 _) dX12_gather_127 ?_
                refine wa_sub C [0, 1, 2] rfl ?_
                exact k_24 M_numbers_41 M_masks_34 M_rests_38 h
            refine wa_icmp_ge C (tgt := 92) rx4_18 rv_20 dX12_gather_28 (by decide) (fun c_42 => ?_) (fun c_42 => ?_)
            · replace h := h.1 c_42
              refine wa_sub C [0, 1, 2, 3] rfl ?_
              exact k_22 h
            · replace h := h.2 c_42
              refine wa_aload_n C 0 rfl dX12_gather_31 rfl ?_
              refine wa_getR C 0 17 mW_0 rfl rfl (by decide) okX12 gw_1249 dX12_gather_32 ?_
              refine wa_iload_n C 2 rfl dX12_gather_35 rfl ?_
              obtain ⟨t_43, h⟩ := h
              refine wa_bald C 9 mW_9 dX12_gather_36 t_43.1 t_43.2 (fun v_44 ev_44 rv_44 => ?_)
              replace h := h v_44 ev_44 rv_44
              refine wa_if_eq C (tgt := 92) (inR_b rv_44) dX12_gather_37 (by decide) (fun c_45 => ?_) (fun c_45 => ?_)
              · replace h := h.1 c_45
                refine wa_sub C [0, 1, 2, 3] rfl ?_
                exact k_22 h
              · replace h := h.2 c_45
                refine wa_aload_n C 0 rfl dX12_gather_40 rfl ?_
                refine wa_getR C 0 7 mW_0 rfl rfl (by decide) okX12 gw_1239 dX12_gather_41 ?_
                refine wa_bipush C (z := 8) dX12_gather_44 (by decide) ?_
                refine wa_iload_n C 2 rfl dX12_gather_46 rfl ?_
                refine wa_imul C dX12_gather_47 ?_
                refine wa_iload C 4 rfl dX12_gather_48 ?_
                refine wa_iadd C dX12_gather_50 ?_
                obtain ⟨t_46, h⟩ := h
                refine wa_iald C 1 mW_1 dX12_gather_51 t_46.1 t_46.2 (fun v_47 ev_47 rv_47 => ?_)
                replace h := h v_47 ev_47 rv_47
                refine wa_istore C dX12_gather_52 (by decide) rfl ?_
                refine wa_aload_n C 1 rfl dX12_gather_54 rfl ?_
                refine wa_iload C 0 rfl dX12_gather_55 ?_
                refine wa_callVi C (k := 0) (As := [.int (iI v_47)]) (rest := []) (c_X12_isUnknown l K ad v_47 rv_47 _ h) gw_1411 gw_1408 mW_0 rfl gw_1410 gs_63 gw_12 q_X12_isUnknown rfl rfl rfl ⟨by decide, by decide⟩ rfl (Nat.le_of_ble_eq_true rfl) dX12_gather_57 (fun c_48 u9 rc_48 hp => ?_)
                obtain ⟨bc_48, rfl, h⟩ := hp
                replace h := h bc_48
                obtain ⟨J_49, h, hJ_49⟩ := h
                have k_50 : ∀ (x3_51 : Int), inR x3_51 → J_49 x3_51 → WA p l e ({ frames := 4, cells := 0, slots := 0, locals := 240 } : Room) s m args below meth c 0 0 Q K ad 6 A 86 [(0, .ref (ad 0)), (1, .int (iI x1)), (2, .int (iI x2_6)), (3, .int (iI x3_51)), (4, .int (iI x4_18))] [] (mW M_thrown M_w M_h M_cells M_shape M_isBoard M_isBlank M_lives M_moves M_parts M_numbers_7 M_grade M_reasons M_total M_near M_degree M_mine M_state M_history M_oldLives M_safe M_mined M_used M_partOf M_placeOf M_partSize M_ways M_with M_masks_8 M_rests_9 M_bits M_reach M_more M_reason M_big M_region) := by
                  intro x3_51 rx3_51 h
                  replace h := hJ_49 x3_51 rx3_51 h
                  obtain ⟨r_52, h⟩ := h
                  refine wa_iinc C (lv' := fun w9 => [(4, .int (iI w9)), (0, .ref (ad 0)), (1, .int (iI x1)), (2, .int (iI x2_6)), (3, .int (iI x3_51))]) 4 rfl dX12_gather_86 (by decide) (fun _ => rfl) (fun x4_53 ex4_53 => ?_)
                  replace h := h x4_53 ex4_53
                  have rx4_53 : inR x4_53 := by rw [ex4_53]; exact r_52
                  refine wa_goto C (tgt := 20) dX12_gather_89 (by decide) ?_
                  obtain ⟨n_54, ln_54, h⟩ := h
                  refine wa_sub C [1, 2, 3, 4, 0] rfl ?_
                  exact ih_15 n_54 ln_54 x3_51 x4_53 rx3_51 rx4_53 h
                refine wa_if_eq C (tgt := 86) (inR_b bc_48) dX12_gather_60 (by decide) (fun c_55 => ?_) (fun c_55 => ?_)
                · replace h := h.1 c_55
                  refine wa_sub C [1, 2, 3, 4, 5] rfl ?_
                  exact k_50 x3_17 rx3_17 h
                · replace h := h.2 c_55
                  refine wa_aload_n C 1 rfl dX12_gather_63 rfl ?_
                  refine wa_getR C 0 18 mW_0 rfl rfl (by decide) okX12 gw_1250 dX12_gather_64 ?_
                  refine wa_iload C 0 rfl dX12_gather_67 ?_
                  obtain ⟨t_56, h⟩ := h
                  refine wa_iald C 10 mW_10 dX12_gather_69 t_56.1 t_56.2 (fun v_57 ev_57 rv_57 => ?_)
                  replace h := h v_57 ev_57 rv_57
                  refine wa_iload_n C 2 rfl dX12_gather_70 rfl ?_
                  refine wa_icmp_ne C (tgt := 86) rv_57 rx1 dX12_gather_71 (by decide) (fun c_58 => ?_) (fun c_58 => ?_)
                  · replace h := h.1 c_58
                    refine wa_sub C [1, 2, 3, 4, 5] rfl ?_
                    exact k_50 x3_17 rx3_17 h
                  · replace h := h.2 c_58
                    refine wa_iload_n C 4 rfl dX12_gather_74 rfl ?_
                    refine wa_iconst C (z := 1) dX12_gather_75 rfl ?_
                    refine wa_aload_n C 1 rfl dX12_gather_76 rfl ?_
                    refine wa_getR C 0 19 mW_0 rfl rfl (by decide) okX12 gw_1251 dX12_gather_77 ?_
                    refine wa_iload C 0 rfl dX12_gather_80 ?_
                    obtain ⟨t_59, h⟩ := h
                    refine wa_iald C 11 mW_11 dX12_gather_82 t_59.1 t_59.2 (fun v_60 ev_60 rv_60 => ?_)
                    replace h := h v_60 ev_60 rv_60
                    refine wa_ishl C dX12_gather_83 ?_
                    refine wa_ior C dX12_gather_84 ?_
                    refine wa_nmi (fun x3_61 ex3_61 => ?_)
                    replace h := h x3_61 ex3_61
                    have rx3_61 : inR x3_61 := by rw [ex3_61]; exact (orI_r _ _)
                    refine wa_istore_n C dX12_gather_85 rfl (by decide) rfl ?_
                    refine wa_sub C [2, 3, 4, 0, 5] rfl ?_
                    exact k_50 x3_61 rx3_61 h
        refine wa_sub C [2, 3, 4, 1, 0] rfl ?_
        exact k_16 n_13 0 0 (inR_k 0 rfl) (inR_k 0 rfl) h0Inv_12
  refine wa_sub C [1, 2, 0] rfl ?_
  exact k_5 n_2 0 0 M_masks M_rests (inR_k 0 rfl) h0Inv_1
def P_X12_isRight (post : Int → Prop) (M_numbers : Int) (M_masks : Int → Int) (M_rests : Int → Int) (M_bits : Int → Int) (x1 : Int) : Prop :=
  ∃ Inv_1 : Nat → (Int) → (Int) → Prop, (∃ n_2 : Nat, Inv_1 n_2 1 0) ∧ ∀ (n_3 : Nat) (x2_6 : Int) (x3_7 : Int), inR x2_6 → inR x3_7 → Inv_1 n_3 x2_6 x3_7 → ((M_numbers ≤ x3_7 → ((x2_6 = 0 ∨ x2_6 = 1) ∧ (post x2_6))) ∧ (¬ M_numbers ≤ x3_7 → ((x2_6 = 0 → ((x2_6 = 0 ∨ x2_6 = 1) ∧ (post x2_6))) ∧ (¬ x2_6 = 0 → ((0 ≤ x3_7 ∧ x3_7 < 144) ∧ (∀ v_14 : Int, v_14 = M_masks x3_7 → inR v_14 → ((0 ≤ (andI x1 v_14) ∧ (andI x1 v_14) < 65536) ∧ (∀ v_16 : Int, v_16 = M_bits (andI x1 v_14) → inR v_16 → ((0 ≤ x3_7 ∧ x3_7 < 144) ∧ (∀ v_18 : Int, v_18 = M_rests x3_7 → inR v_18 → (∃ J_19 : (Int) → Prop, ((¬ v_16 = v_18 → (J_19 0)) ∧ (v_16 = v_18 → (J_19 1))) ∧ (∀ (z_21 : Int), inR z_21 → J_19 z_21 → (inR (x3_7 + 1) ∧ (∀ x3_23 : Int, x3_23 = (x3_7 + 1) → (∃ n_24 : Nat, n_24 < n_3 ∧ Inv_1 n_24 z_21 x3_23)))))))))))))))
set_option maxRecDepth 100000 in
set_option maxHeartbeats 4000000 in
theorem c_X12_isRight (l : Launch) (K : wK) (ad : Nat → Nat) {M_thrown : Int} {M_w : Int} {M_h : Int} {M_cells : Int} {M_shape : Int} {M_isBoard : Int} {M_isBlank : Int} {M_lives : Int} {M_moves : Int} {M_parts : Int} {M_numbers : Int} {M_grade : Int} {M_reasons : Int} {M_total : Int} {M_near : Int → Int} {M_degree : Int → Int} {M_mine : Int → Int} {M_state : Int → Int} {M_history : Int → Int64} {M_oldLives : Int → Int} {M_safe : Int → Int} {M_mined : Int → Int} {M_used : Int → Int} {M_partOf : Int → Int} {M_placeOf : Int → Int} {M_partSize : Int → Int} {M_ways : Int → Int} {M_with : Int → Int} {M_masks : Int → Int} {M_rests : Int → Int} {M_bits : Int → Int} {M_reach : Int → Int} {M_more : Int → Int} {M_reason : Int → Int} {M_big : Int → Int64} {M_region : Int → Int} (x1 : Int) (rx1 : inR x1) (post : Int → Prop) (h : P_X12_isRight post M_numbers M_masks M_rests M_bits x1) : mI l yX12_isRight (Cond.code yX12_isRight cX12_isRight 4 (some .boolean) :: GT) ({ frames := 2, cells := 0, slots := 0, locals := 120 } : Room) [.ref (ad 0), .int (iI x1)] K ad (mW M_thrown M_w M_h M_cells M_shape M_isBoard M_isBlank M_lives M_moves M_parts M_numbers M_grade M_reasons M_total M_near M_degree M_mine M_state M_history M_oldLives M_safe M_mined M_used M_partOf M_placeOf M_partSize M_ways M_with M_masks M_rests M_bits M_reach M_more M_reason M_big M_region) (fun z9 u9 => (z9 = 0 ∨ z9 = 1) ∧ u9 = (mW M_thrown M_w M_h M_cells M_shape M_isBoard M_isBlank M_lives M_moves M_parts M_numbers M_grade M_reasons M_total M_near M_degree M_mine M_state M_history M_oldLives M_safe M_mined M_used M_partOf M_placeOf M_partSize M_ways M_with M_masks M_rests M_bits M_reach M_more M_reason M_big M_region) ∧ post z9) := by
  refine mZ_of (lv0 := [(0, .ref (ad 0)), (1, .int (iI x1))]) (by decide) (Nat.le_of_ble_eq_true rfl) rfl ?_
  intro p e s m args below meth c Q A C ret
  replace C : Cx p ({ frames := 2, cells := 0, slots := 0, locals := 120 } : Room) m c 0 0 cX12_isRight 4 s args RX12 K A := C
  unfold P_X12_isRight at h
  refine wa_iconst C (z := 1) dX12_isRight_0 rfl ?_
  refine wa_istore_n C dX12_isRight_1 rfl (by decide) rfl ?_
  refine wa_iconst C (z := 0) dX12_isRight_2 rfl ?_
  refine wa_istore_n C dX12_isRight_3 rfl (by decide) rfl ?_
  obtain ⟨Inv_1, ⟨n_2, h0Inv_1⟩, hInv_1⟩ := h
  have k_5 : ∀ (n_3 : Nat) (x2_6 : Int) (x3_7 : Int), inR x2_6 → inR x3_7 → Inv_1 n_3 x2_6 x3_7 → WA p l e ({ frames := 2, cells := 0, slots := 0, locals := 120 } : Room) s m args below meth c 0 0 Q K ad 4 A 4 [(0, .ref (ad 0)), (1, .int (iI x1)), (2, .int (iI x2_6)), (3, .int (iI x3_7))] [] (mW M_thrown M_w M_h M_cells M_shape M_isBoard M_isBlank M_lives M_moves M_parts M_numbers M_grade M_reasons M_total M_near M_degree M_mine M_state M_history M_oldLives M_safe M_mined M_used M_partOf M_placeOf M_partSize M_ways M_with M_masks M_rests M_bits M_reach M_more M_reason M_big M_region) := by
    intro n_3
    induction n_3 using Nat.strongRecOn with
    | ind n_3 ih_4 =>
      intro x2_6 x3_7 rx2_6 rx3_7 h
      replace h := hInv_1 n_3 x2_6 x3_7 rx2_6 rx3_7 h
      refine wa_iload_n C 3 rfl dX12_isRight_4 rfl ?_
      refine wa_aload_n C 0 rfl dX12_isRight_5 rfl ?_
      refine wa_getI C 0 24 mW_0 rfl rfl (by decide) okX12 gw_1256 dX12_isRight_6 (fun r_8 => ?_)
      refine wa_icmp_ge C (tgt := 50) rx3_7 r_8 dX12_isRight_9 (by decide) (fun c_9 => ?_) (fun c_9 => ?_)
      · replace h := h.1 c_9
        refine wa_iload_n C 2 rfl dX12_isRight_50 rfl ?_
        obtain ⟨b_10, h⟩ := h
        exact ret dX12_isRight_51 b_10 ⟨b_10, rfl, h⟩
      · replace h := h.2 c_9
        refine wa_iload_n C 2 rfl dX12_isRight_12 rfl ?_
        refine wa_if_eq C (tgt := 50) rx2_6 dX12_isRight_13 (by decide) (fun c_11 => ?_) (fun c_11 => ?_)
        · replace h := h.1 c_11
          refine wa_iload_n C 2 rfl dX12_isRight_50 rfl ?_
          obtain ⟨b_12, h⟩ := h
          exact ret dX12_isRight_51 b_12 ⟨b_12, rfl, h⟩
        · replace h := h.2 c_11
          refine wa_aload_n C 0 rfl dX12_isRight_16 rfl ?_
          refine wa_getR C 0 27 mW_0 rfl rfl (by decide) okX12 gw_1259 dX12_isRight_17 ?_
          refine wa_iload_n C 1 rfl dX12_isRight_20 rfl ?_
          refine wa_aload_n C 0 rfl dX12_isRight_21 rfl ?_
          refine wa_getR C 0 25 mW_0 rfl rfl (by decide) okX12 gw_1257 dX12_isRight_22 ?_
          refine wa_iload_n C 3 rfl dX12_isRight_25 rfl ?_
          obtain ⟨t_13, h⟩ := h
          refine wa_iald C 15 mW_15 dX12_isRight_26 t_13.1 t_13.2 (fun v_14 ev_14 rv_14 => ?_)
          replace h := h v_14 ev_14 rv_14
          refine wa_iand C dX12_isRight_27 ?_
          obtain ⟨t_15, h⟩ := h
          refine wa_iald C 17 mW_17 dX12_isRight_28 t_15.1 t_15.2 (fun v_16 ev_16 rv_16 => ?_)
          replace h := h v_16 ev_16 rv_16
          refine wa_aload_n C 0 rfl dX12_isRight_29 rfl ?_
          refine wa_getR C 0 26 mW_0 rfl rfl (by decide) okX12 gw_1258 dX12_isRight_30 ?_
          refine wa_iload_n C 3 rfl dX12_isRight_33 rfl ?_
          obtain ⟨t_17, h⟩ := h
          refine wa_iald C 16 mW_16 dX12_isRight_34 t_17.1 t_17.2 (fun v_18 ev_18 rv_18 => ?_)
          replace h := h v_18 ev_18 rv_18
          obtain ⟨J_19, h, hJ_19⟩ := h
          have k_20 : ∀ (z_21 : Int), inR z_21 → J_19 z_21 → WA p l e ({ frames := 2, cells := 0, slots := 0, locals := 120 } : Room) s m args below meth c 0 0 Q K ad 4 A 43 [(0, .ref (ad 0)), (1, .int (iI x1)), (3, .int (iI x3_7))] [.int (iI z_21)] (mW M_thrown M_w M_h M_cells M_shape M_isBoard M_isBlank M_lives M_moves M_parts M_numbers M_grade M_reasons M_total M_near M_degree M_mine M_state M_history M_oldLives M_safe M_mined M_used M_partOf M_placeOf M_partSize M_ways M_with M_masks M_rests M_bits M_reach M_more M_reason M_big M_region) := by
            intro z_21 rz_21 h
            replace h := hJ_19 z_21 rz_21 h
            refine wa_istore_n C dX12_isRight_43 rfl (by decide) rfl ?_
            obtain ⟨r_22, h⟩ := h
            refine wa_iinc C (lv' := fun w9 => [(3, .int (iI w9)), (2, .int (iI z_21)), (0, .ref (ad 0)), (1, .int (iI x1))]) 3 rfl dX12_isRight_44 (by decide) (fun _ => rfl) (fun x3_23 ex3_23 => ?_)
            replace h := h x3_23 ex3_23
            have rx3_23 : inR x3_23 := by rw [ex3_23]; exact r_22
            refine wa_goto C (tgt := 4) dX12_isRight_47 (by decide) ?_
            obtain ⟨n_24, ln_24, h⟩ := h
            refine wa_sub C [2, 3, 1, 0] rfl ?_
            exact ih_4 n_24 ln_24 z_21 x3_23 rz_21 rx3_23 h
          refine wa_icmp_ne C (tgt := 42) rv_16 rv_18 dX12_isRight_35 (by decide) (fun c_25 => ?_) (fun c_25 => ?_)
          · replace h := h.1 c_25
            refine wa_iconst C (z := 0) dX12_isRight_42 rfl ?_
            refine wa_sub C [0, 1, 3] rfl ?_
            exact k_20 0 (inR_k 0 rfl) h
          · replace h := h.2 c_25
            refine wa_iconst C (z := 1) dX12_isRight_38 rfl ?_
            refine wa_goto C (tgt := 43) dX12_isRight_39 (by decide) ?_
            refine wa_sub C [0, 1, 3] rfl ?_
            exact k_20 1 (inR_k 1 rfl) h
  refine wa_sub C [2, 3, 1, 0] rfl ?_
  exact k_5 n_2 1 0 (inR_k 1 rfl) (inR_k 0 rfl) h0Inv_1
def P_X12_countPart (post : (Int) → (Int → Int) → (Int → Int) → (Int → Int) → (Int → Int) → Prop) (M_cells : Int) (M_numbers : Int) (M_near : Int → Int) (M_degree : Int → Int) (M_mine : Int → Int) (M_state : Int → Int) (M_used : Int → Int) (M_partOf : Int → Int) (M_placeOf : Int → Int) (M_partSize : Int → Int) (M_ways : Int → Int) (M_with : Int → Int) (M_masks : Int → Int) (M_rests : Int → Int) (M_bits : Int → Int) (x1 : Int) : Prop :=
  P_X12_gather (fun (M_numbers_1 : Int) (M_masks_2 : Int → Int) (M_rests_3 : Int → Int) => ((0 ≤ x1 ∧ x1 < 72) ∧ (∀ v_5 : Int, v_5 = M_partSize x1 → inR v_5 → (∃ Inv_6 : Nat → (Int) → (Int → Int) → Prop, (∃ n_7 : Nat, Inv_6 n_7 0 M_ways) ∧ ∀ (n_8 : Nat) (x3_11 : Int) (M_ways_12 : Int → Int), inR x3_11 → Inv_6 n_8 x3_11 M_ways_12 → ((17 ≤ x3_11 → (∃ Inv_14 : Nat → (Int) → (Int → Int) → Prop, (∃ n_15 : Nat, Inv_14 n_15 0 M_with) ∧ ∀ (n_16 : Nat) (x3_19 : Int) (M_with_20 : Int → Int), inR x3_19 → Inv_14 n_16 x3_19 M_with_20 → (inR (17 * v_5) ∧ (((17 * v_5) ≤ x3_19 → (∃ Inv_23 : Nat → (Int) → (Int → Int) → (Int → Int) → Prop, (∃ n_24 : Nat, Inv_23 n_24 0 M_ways_12 M_with_20) ∧ ∀ (n_25 : Nat) (x3_28 : Int) (M_ways_29 : Int → Int) (M_with_30 : Int → Int), inR x3_28 → Inv_23 n_25 x3_28 M_ways_29 M_with_30 → (((shlI 1 v_5) ≤ x3_28 → (post M_numbers_1 M_ways_29 M_with_30 M_masks_2 M_rests_3)) ∧ (¬ (shlI 1 v_5) ≤ x3_28 → (P_X12_isRight (fun (c_32 : Int) => (c_32 = 0 ∨ c_32 = 1) → (∃ J_33 : (Int → Int) → (Int → Int) → Prop, ((c_32 = 0 → (J_33 M_ways_29 M_with_30)) ∧ (¬ c_32 = 0 → ((0 ≤ x3_28 ∧ x3_28 < 65536) ∧ (∀ v_42 : Int, v_42 = M_bits x3_28 → inR v_42 → ((0 ≤ ((17 * x1) + v_42) ∧ ((17 * x1) + v_42) < 1224) ∧ (∀ v_44 : Int, v_44 = M_ways_29 ((17 * x1) + v_42) → inR v_44 → ((0 ≤ ((17 * x1) + v_42) ∧ ((17 * x1) + v_42) < 1224) ∧ (inR (v_44 + 1) ∧ (∀ M_ways_47 : Int → Int, M_ways_47 = upZ M_ways_29 ((17 * x1) + v_42) (v_44 + 1) → (∃ Inv_48 : Nat → (Int) → (Int → Int) → Prop, (∃ n_49 : Nat, Inv_48 n_49 0 M_with_30) ∧ ∀ (n_50 : Nat) (x5_53 : Int) (M_with_54 : Int → Int), inR x5_53 → Inv_48 n_50 x5_53 M_with_54 → ((v_5 ≤ x5_53 → (J_33 M_ways_47 M_with_54)) ∧ (¬ v_5 ≤ x5_53 → ((0 ≤ (((272 * x1) + (17 * x5_53)) + v_42) ∧ (((272 * x1) + (17 * x5_53)) + v_42) < 19584) ∧ (∀ v_57 : Int, v_57 = M_with_54 (((272 * x1) + (17 * x5_53)) + v_42) → inR v_57 → ((0 ≤ (((272 * x1) + (17 * x5_53)) + v_42) ∧ (((272 * x1) + (17 * x5_53)) + v_42) < 19584) ∧ (inR (v_57 + (andI (shrI x3_28 x5_53) 1)) ∧ (∀ M_with_60 : Int → Int, M_with_60 = upZ M_with_54 (((272 * x1) + (17 * x5_53)) + v_42) (v_57 + (andI (shrI x3_28 x5_53) 1)) → (inR (x5_53 + 1) ∧ (∀ x5_62 : Int, x5_62 = (x5_53 + 1) → (∃ n_63 : Nat, n_63 < n_50 ∧ Inv_48 n_63 x5_62 M_with_60)))))))))))))))))))) ∧ (∀ (M_ways_35 : Int → Int) (M_with_36 : Int → Int), J_33 M_ways_35 M_with_36 → (inR (x3_28 + 1) ∧ (∀ x3_38 : Int, x3_38 = (x3_28 + 1) → (∃ n_39 : Nat, n_39 < n_25 ∧ Inv_23 n_39 x3_38 M_ways_35 M_with_36)))))) M_numbers_1 M_masks_2 M_rests_3 M_bits x3_28))))) ∧ (¬ (17 * v_5) ≤ x3_19 → ((0 ≤ ((272 * x1) + x3_19) ∧ ((272 * x1) + x3_19) < 19584) ∧ (∀ M_with_65 : Int → Int, M_with_65 = upZ M_with_20 ((272 * x1) + x3_19) 0 → (inR (x3_19 + 1) ∧ (∀ x3_67 : Int, x3_67 = (x3_19 + 1) → (∃ n_68 : Nat, n_68 < n_16 ∧ Inv_14 n_68 x3_67 M_with_65)))))))))) ∧ (¬ 17 ≤ x3_11 → ((0 ≤ ((17 * x1) + x3_11) ∧ ((17 * x1) + x3_11) < 1224) ∧ (∀ M_ways_70 : Int → Int, M_ways_70 = upZ M_ways_12 ((17 * x1) + x3_11) 0 → (inR (x3_11 + 1) ∧ (∀ x3_72 : Int, x3_72 = (x3_11 + 1) → (∃ n_73 : Nat, n_73 < n_8 ∧ Inv_6 n_73 x3_72 M_ways_70))))))))))) M_cells M_numbers M_near M_degree M_mine M_state M_used M_partOf M_placeOf M_masks M_rests x1
set_option maxRecDepth 100000 in
set_option maxHeartbeats 4000000 in
theorem c_X12_countPart (l : Launch) (K : wK) (ad : Nat → Nat) {M_thrown : Int} {M_w : Int} {M_h : Int} {M_cells : Int} {M_shape : Int} {M_isBoard : Int} {M_isBlank : Int} {M_lives : Int} {M_moves : Int} {M_parts : Int} {M_numbers : Int} {M_grade : Int} {M_reasons : Int} {M_total : Int} {M_near : Int → Int} {M_degree : Int → Int} {M_mine : Int → Int} {M_state : Int → Int} {M_history : Int → Int64} {M_oldLives : Int → Int} {M_safe : Int → Int} {M_mined : Int → Int} {M_used : Int → Int} {M_partOf : Int → Int} {M_placeOf : Int → Int} {M_partSize : Int → Int} {M_ways : Int → Int} {M_with : Int → Int} {M_masks : Int → Int} {M_rests : Int → Int} {M_bits : Int → Int} {M_reach : Int → Int} {M_more : Int → Int} {M_reason : Int → Int} {M_big : Int → Int64} {M_region : Int → Int} (x1 : Int) (rx1 : inR x1) (post : (Int) → (Int → Int) → (Int → Int) → (Int → Int) → (Int → Int) → Prop) (h : P_X12_countPart post M_cells M_numbers M_near M_degree M_mine M_state M_used M_partOf M_placeOf M_partSize M_ways M_with M_masks M_rests M_bits x1) : mV l yX12_countPart (Cond.code yX12_countPart cX12_countPart 6 none :: GT) ({ frames := 5, cells := 0, slots := 0, locals := 300 } : Room) [.ref (ad 0), .int (iI x1)] K ad (mW M_thrown M_w M_h M_cells M_shape M_isBoard M_isBlank M_lives M_moves M_parts M_numbers M_grade M_reasons M_total M_near M_degree M_mine M_state M_history M_oldLives M_safe M_mined M_used M_partOf M_placeOf M_partSize M_ways M_with M_masks M_rests M_bits M_reach M_more M_reason M_big M_region) (fun u9 => ∃ M_numbers9 M_ways9 M_with9 M_masks9 M_rests9, u9 = (mW M_thrown M_w M_h M_cells M_shape M_isBoard M_isBlank M_lives M_moves M_parts M_numbers9 M_grade M_reasons M_total M_near M_degree M_mine M_state M_history M_oldLives M_safe M_mined M_used M_partOf M_placeOf M_partSize M_ways9 M_with9 M_masks9 M_rests9 M_bits M_reach M_more M_reason M_big M_region) ∧ post M_numbers9 M_ways9 M_with9 M_masks9 M_rests9) := by
  refine mV_of (lv0 := [(0, .ref (ad 0)), (1, .int (iI x1))]) (by decide) (Nat.le_of_ble_eq_true rfl) rfl ?_
  intro p e s m args below meth c Q A C ret
  replace C : Cx p ({ frames := 5, cells := 0, slots := 0, locals := 300 } : Room) m c 0 0 cX12_countPart 6 s args RX12 K A := C
  unfold P_X12_countPart at h
  refine wa_aload_n C 0 rfl dX12_countPart_0 rfl ?_
  refine wa_iload_n C 1 rfl dX12_countPart_1 rfl ?_
  refine wa_callVv C (k := 0) (As := [.int (iI x1)]) (rest := []) (c_X12_gather l K ad x1 rx1 _ h) gw_1483 gw_1480 mW_0 rfl gw_1482 gs_81 gw_12 q_X12_gather rfl rfl rfl ⟨by decide, by decide⟩ rfl (Nat.le_of_ble_eq_true rfl) dX12_countPart_2 (fun u9 hp => ?_)
  obtain ⟨M_numbers_1, M_masks_2, M_rests_3, rfl, h⟩ := hp
  refine wa_aload_n C 0 rfl dX12_countPart_5 rfl ?_
  refine wa_getR C 0 21 mW_0 rfl rfl (by decide) okX12 gw_1253 dX12_countPart_6 ?_
  refine wa_iload_n C 1 rfl dX12_countPart_9 rfl ?_
  obtain ⟨t_4, h⟩ := h
  refine wa_iald C 12 mW_12 dX12_countPart_10 t_4.1 t_4.2 (fun v_5 ev_5 rv_5 => ?_)
  replace h := h v_5 ev_5 rv_5
  refine wa_istore_n C dX12_countPart_11 rfl (by decide) rfl ?_
  refine wa_iconst C (z := 0) dX12_countPart_12 rfl ?_
  refine wa_istore_n C dX12_countPart_13 rfl (by decide) rfl ?_
  obtain ⟨Inv_6, ⟨n_7, h0Inv_6⟩, hInv_6⟩ := h
  have k_10 : ∀ (n_8 : Nat) (x3_11 : Int) (M_ways_12 : Int → Int), inR x3_11 → Inv_6 n_8 x3_11 M_ways_12 → WA p l e ({ frames := 5, cells := 0, slots := 0, locals := 300 } : Room) s m args below meth c 0 0 Q K ad 6 A 14 [(0, .ref (ad 0)), (1, .int (iI x1)), (2, .int (iI v_5)), (3, .int (iI x3_11))] [] (mW M_thrown M_w M_h M_cells M_shape M_isBoard M_isBlank M_lives M_moves M_parts M_numbers_1 M_grade M_reasons M_total M_near M_degree M_mine M_state M_history M_oldLives M_safe M_mined M_used M_partOf M_placeOf M_partSize M_ways_12 M_with M_masks_2 M_rests_3 M_bits M_reach M_more M_reason M_big M_region) := by
    intro n_8
    induction n_8 using Nat.strongRecOn with
    | ind n_8 ih_9 =>
      intro x3_11 M_ways_12 rx3_11 h
      replace h := hInv_6 n_8 x3_11 M_ways_12 rx3_11 h
      refine wa_iload_n C 3 rfl dX12_countPart_14 rfl ?_
      refine wa_bipush C (z := 17) dX12_countPart_15 (by decide) ?_
      refine wa_icmp_ge C (tgt := 38) rx3_11 (inR_k 17 rfl) dX12_countPart_17 (by decide) (fun c_13 => ?_) (fun c_13 => ?_)
      · replace h := h.1 c_13
        refine wa_iconst C (z := 0) dX12_countPart_38 rfl ?_
        refine wa_istore_n C dX12_countPart_39 rfl (by decide) rfl ?_
        obtain ⟨Inv_14, ⟨n_15, h0Inv_14⟩, hInv_14⟩ := h
        have k_18 : ∀ (n_16 : Nat) (x3_19 : Int) (M_with_20 : Int → Int), inR x3_19 → Inv_14 n_16 x3_19 M_with_20 → WA p l e ({ frames := 5, cells := 0, slots := 0, locals := 300 } : Room) s m args below meth c 0 0 Q K ad 6 A 40 [(0, .ref (ad 0)), (1, .int (iI x1)), (2, .int (iI v_5)), (3, .int (iI x3_19))] [] (mW M_thrown M_w M_h M_cells M_shape M_isBoard M_isBlank M_lives M_moves M_parts M_numbers_1 M_grade M_reasons M_total M_near M_degree M_mine M_state M_history M_oldLives M_safe M_mined M_used M_partOf M_placeOf M_partSize M_ways_12 M_with_20 M_masks_2 M_rests_3 M_bits M_reach M_more M_reason M_big M_region) := by
          intro n_16
          induction n_16 using Nat.strongRecOn with
          | ind n_16 ih_17 =>
            intro x3_19 M_with_20 rx3_19 h
            replace h := hInv_14 n_16 x3_19 M_with_20 rx3_19 h
            refine wa_iload_n C 3 rfl dX12_countPart_40 rfl ?_
            refine wa_bipush C (z := 17) dX12_countPart_41 (by decide) ?_
            refine wa_iload_n C 2 rfl dX12_countPart_43 rfl ?_
            refine wa_imul C dX12_countPart_44 ?_
            obtain ⟨r_21, h⟩ := h
            refine wa_icmp_ge C (tgt := 67) rx3_19 r_21 dX12_countPart_45 (by decide) (fun c_22 => ?_) (fun c_22 => ?_)
            · replace h := h.1 c_22
              refine wa_iconst C (z := 0) dX12_countPart_67 rfl ?_
              refine wa_istore_n C dX12_countPart_68 rfl (by decide) rfl ?_
              obtain ⟨Inv_23, ⟨n_24, h0Inv_23⟩, hInv_23⟩ := h
              have k_27 : ∀ (n_25 : Nat) (x3_28 : Int) (M_ways_29 : Int → Int) (M_with_30 : Int → Int), inR x3_28 → Inv_23 n_25 x3_28 M_ways_29 M_with_30 → WA p l e ({ frames := 5, cells := 0, slots := 0, locals := 300 } : Room) s m args below meth c 0 0 Q K ad 6 A 69 [(0, .ref (ad 0)), (1, .int (iI x1)), (2, .int (iI v_5)), (3, .int (iI x3_28))] [] (mW M_thrown M_w M_h M_cells M_shape M_isBoard M_isBlank M_lives M_moves M_parts M_numbers_1 M_grade M_reasons M_total M_near M_degree M_mine M_state M_history M_oldLives M_safe M_mined M_used M_partOf M_placeOf M_partSize M_ways_29 M_with_30 M_masks_2 M_rests_3 M_bits M_reach M_more M_reason M_big M_region) := by
                intro n_25
                induction n_25 using Nat.strongRecOn with
                | ind n_25 ih_26 =>
                  intro x3_28 M_ways_29 M_with_30 rx3_28 h
                  replace h := hInv_23 n_25 x3_28 M_ways_29 M_with_30 rx3_28 h
                  refine wa_iload_n C 3 rfl dX12_countPart_69 rfl ?_
                  refine wa_iconst C (z := 1) dX12_countPart_70 rfl ?_
                  refine wa_iload_n C 2 rfl dX12_countPart_71 rfl ?_
                  refine wa_ishl C dX12_countPart_72 ?_
                  refine wa_icmp_ge C (tgt := 157) rx3_28 (shlI_r _ _) dX12_countPart_73 (by decide) (fun c_31 => ?_) (fun c_31 => ?_)
                  · replace h := h.1 c_31
                    exact ret dX12_countPart_157 ⟨_, _, _, _, _, rfl, h⟩
                  · replace h := h.2 c_31
                    refine wa_aload_n C 0 rfl dX12_countPart_76 rfl ?_
                    refine wa_iload_n C 3 rfl dX12_countPart_77 rfl ?_
                    refine wa_callVi C (k := 0) (As := [.int (iI x3_28)]) (rest := []) (c_X12_isRight l K ad x3_28 rx3_28 _ h) gw_1487 gw_1484 mW_0 rfl gw_1486 gs_82 gw_12 q_X12_isRight rfl rfl rfl ⟨by decide, by decide⟩ rfl (Nat.le_of_ble_eq_true rfl) dX12_countPart_78 (fun c_32 u9 rc_32 hp => ?_)
                    obtain ⟨bc_32, rfl, h⟩ := hp
                    replace h := h bc_32
                    obtain ⟨J_33, h, hJ_33⟩ := h
                    have k_34 : ∀ (M_ways_35 : Int → Int) (M_with_36 : Int → Int), J_33 M_ways_35 M_with_36 → WA p l e ({ frames := 5, cells := 0, slots := 0, locals := 300 } : Room) s m args below meth c 0 0 Q K ad 6 A 151 [(0, .ref (ad 0)), (1, .int (iI x1)), (2, .int (iI v_5)), (3, .int (iI x3_28))] [] (mW M_thrown M_w M_h M_cells M_shape M_isBoard M_isBlank M_lives M_moves M_parts M_numbers_1 M_grade M_reasons M_total M_near M_degree M_mine M_state M_history M_oldLives M_safe M_mined M_used M_partOf M_placeOf M_partSize M_ways_35 M_with_36 M_masks_2 M_rests_3 M_bits M_reach M_more M_reason M_big M_region) := by
                      intro M_ways_35 M_with_36 h
                      replace h := hJ_33 M_ways_35 M_with_36 h
                      obtain ⟨r_37, h⟩ := h
                      refine wa_iinc C (lv' := fun w9 => [(3, .int (iI w9)), (0, .ref (ad 0)), (1, .int (iI x1)), (2, .int (iI v_5))]) 3 rfl dX12_countPart_151 (by decide) (fun _ => rfl) (fun x3_38 ex3_38 => ?_)
                      replace h := h x3_38 ex3_38
                      have rx3_38 : inR x3_38 := by rw [ex3_38]; exact r_37
                      refine wa_goto C (tgt := 69) dX12_countPart_154 (by decide) ?_
                      obtain ⟨n_39, ln_39, h⟩ := h
                      refine wa_sub C [1, 2, 3, 0] rfl ?_
                      exact ih_26 n_39 ln_39 x3_38 M_ways_35 M_with_36 rx3_38 h
                    refine wa_if_eq C (tgt := 151) (inR_b bc_32) dX12_countPart_81 (by decide) (fun c_40 => ?_) (fun c_40 => ?_)
                    · replace h := h.1 c_40
                      refine wa_sub C [0, 1, 2, 3] rfl ?_
                      exact k_34 M_ways_29 M_with_30 h
                    · replace h := h.2 c_40
                      refine wa_aload_n C 0 rfl dX12_countPart_84 rfl ?_
                      refine wa_getR C 0 27 mW_0 rfl rfl (by decide) okX12 gw_1259 dX12_countPart_85 ?_
                      refine wa_iload_n C 3 rfl dX12_countPart_88 rfl ?_
                      obtain ⟨t_41, h⟩ := h
                      refine wa_iald C 17 mW_17 dX12_countPart_89 t_41.1 t_41.2 (fun v_42 ev_42 rv_42 => ?_)
                      replace h := h v_42 ev_42 rv_42
                      refine wa_istore C dX12_countPart_90 (by decide) rfl ?_
                      refine wa_aload_n C 1 rfl dX12_countPart_92 rfl ?_
                      refine wa_getR C 0 22 mW_0 rfl rfl (by decide) okX12 gw_1254 dX12_countPart_93 ?_
                      refine wa_bipush C (z := 17) dX12_countPart_96 (by decide) ?_
                      refine wa_iload_n C 2 rfl dX12_countPart_98 rfl ?_
                      refine wa_imul C dX12_countPart_99 ?_
                      refine wa_iload C 0 rfl dX12_countPart_100 ?_
                      refine wa_iadd C dX12_countPart_102 ?_
                      refine wa_dup2 C dX12_countPart_103 rfl rfl ?_
                      obtain ⟨t_43, h⟩ := h
                      refine wa_iald C 13 mW_13 dX12_countPart_104 t_43.1 t_43.2 (fun v_44 ev_44 rv_44 => ?_)
                      replace h := h v_44 ev_44 rv_44
                      refine wa_iconst C (z := 1) dX12_countPart_105 rfl ?_
                      refine wa_iadd C dX12_countPart_106 ?_
                      obtain ⟨t_45, h⟩ := h
                      obtain ⟨r_46, h⟩ := h
                      refine wa_iast C (ws' := fun w9 => (mW M_thrown M_w M_h M_cells M_shape M_isBoard M_isBlank M_lives M_moves M_parts M_numbers_1 M_grade M_reasons M_total M_near M_degree M_mine M_state M_history M_oldLives M_safe M_mined M_used M_partOf M_placeOf M_partSize w9 M_with_30 M_masks_2 M_rests_3 M_bits M_reach M_more M_reason M_big M_region)) 13 mW_13 dX12_countPart_107 t_45.1 t_45.2 r_46 mWs_13 (fun M_ways_47 eM_ways_47 => ?_)
                      replace h := h M_ways_47 eM_ways_47
                      refine wa_iconst C (z := 0) dX12_countPart_108 rfl ?_
                      refine wa_istore C dX12_countPart_109 (by decide) rfl ?_
                      obtain ⟨Inv_48, ⟨n_49, h0Inv_48⟩, hInv_48⟩ := h
                      have k_52 : ∀ (n_50 : Nat) (x5_53 : Int) (M_with_54 : Int → Int), inR x5_53 → Inv_48 n_50 x5_53 M_with_54 → WA p l e ({ frames := 5, cells := 0, slots := 0, locals := 300 } : Room) s m args below meth c 0 0 Q K ad 6 A 111 [(0, .ref (ad 0)), (1, .int (iI x1)), (2, .int (iI v_5)), (3, .int (iI x3_28)), (4, .int (iI v_42)), (5, .int (iI x5_53))] [] (mW M_thrown M_w M_h M_cells M_shape M_isBoard M_isBlank M_lives M_moves M_parts M_numbers_1 M_grade M_reasons M_total M_near M_degree M_mine M_state M_history M_oldLives M_safe M_mined M_used M_partOf M_placeOf M_partSize M_ways_47 M_with_54 M_masks_2 M_rests_3 M_bits M_reach M_more M_reason M_big M_region) := by
                        intro n_50
                        induction n_50 using Nat.strongRecOn with
                        | ind n_50 ih_51 =>
                          intro x5_53 M_with_54 rx5_53 h
                          replace h := hInv_48 n_50 x5_53 M_with_54 rx5_53 h
                          refine wa_iload C 5 rfl dX12_countPart_111 ?_
                          refine wa_iload_n C 2 rfl dX12_countPart_113 rfl ?_
                          refine wa_icmp_ge C (tgt := 151) rx5_53 rv_5 dX12_countPart_114 (by decide) (fun c_55 => ?_) (fun c_55 => ?_)
                          · replace h := h.1 c_55
                            refine wa_sub C [0, 1, 2, 3] rfl ?_
                            exact k_34 M_ways_47 M_with_54 h
                          · replace h := h.2 c_55
                            refine wa_aload_n C 0 rfl dX12_countPart_117 rfl ?_
                            refine wa_getR C 0 23 mW_0 rfl rfl (by decide) okX12 gw_1255 dX12_countPart_118 ?_
                            refine wa_sipush C (z := 272) dX12_countPart_121 (by decide) ?_
                            refine wa_iload_n C 1 rfl dX12_countPart_124 rfl ?_
                            refine wa_imul C dX12_countPart_125 ?_
                            refine wa_bipush C (z := 17) dX12_countPart_126 (by decide) ?_
                            refine wa_iload C 5 rfl dX12_countPart_128 ?_
                            refine wa_imul C dX12_countPart_130 ?_
                            refine wa_iadd C dX12_countPart_131 ?_
                            refine wa_iload C 4 rfl dX12_countPart_132 ?_
                            refine wa_iadd C dX12_countPart_134 ?_
                            refine wa_dup2 C dX12_countPart_135 rfl rfl ?_
                            obtain ⟨t_56, h⟩ := h
                            refine wa_iald C 14 mW_14 dX12_countPart_136 t_56.1 t_56.2 (fun v_57 ev_57 rv_57 => ?_)
                            replace h := h v_57 ev_57 rv_57
                            refine wa_iload_n C 3 rfl dX12_countPart_137 rfl ?_
                            refine wa_iload C 5 rfl dX12_countPart_138 ?_
                            refine wa_ishr C dX12_countPart_140 ?_
                            refine wa_iconst C (z := 1) dX12_countPart_141 rfl ?_
                            refine wa_iand C dX12_countPart_142 ?_
                            refine wa_iadd C dX12_countPart_143 ?_
                            obtain ⟨t_58, h⟩ := h
                            obtain ⟨r_59, h⟩ := h
                            refine wa_iast C (ws' := fun w9 => (mW M_thrown M_w M_h M_cells M_shape M_isBoard M_isBlank M_lives M_moves M_parts M_numbers_1 M_grade M_reasons M_total M_near M_degree M_mine M_state M_history M_oldLives M_safe M_mined M_used M_partOf M_placeOf M_partSize M_ways_47 w9 M_masks_2 M_rests_3 M_bits M_reach M_more M_reason M_big M_region)) 14 mW_14 dX12_countPart_144 t_58.1 t_58.2 r_59 mWs_14 (fun M_with_60 eM_with_60 => ?_)
                            replace h := h M_with_60 eM_with_60
                            obtain ⟨r_61, h⟩ := h
                            refine wa_iinc C (lv' := fun w9 => [(5, .int (iI w9)), (0, .ref (ad 0)), (1, .int (iI x1)), (2, .int (iI v_5)), (3, .int (iI x3_28)), (4, .int (iI v_42))]) 5 rfl dX12_countPart_145 (by decide) (fun _ => rfl) (fun x5_62 ex5_62 => ?_)
                            replace h := h x5_62 ex5_62
                            have rx5_62 : inR x5_62 := by rw [ex5_62]; exact r_61
                            refine wa_goto C (tgt := 111) dX12_countPart_148 (by decide) ?_
                            obtain ⟨n_63, ln_63, h⟩ := h
                            refine wa_sub C [1, 2, 3, 4, 5, 0] rfl ?_
                            exact ih_51 n_63 ln_63 x5_62 M_with_60 rx5_62 h
                      refine wa_sub C [2, 3, 4, 5, 1, 0] rfl ?_
                      exact k_52 n_49 0 M_with_30 (inR_k 0 rfl) h0Inv_48
              refine wa_sub C [1, 2, 3, 0] rfl ?_
              exact k_27 n_24 0 M_ways_12 M_with_20 (inR_k 0 rfl) h0Inv_23
            · replace h := h.2 c_22
              refine wa_aload_n C 0 rfl dX12_countPart_48 rfl ?_
              refine wa_getR C 0 23 mW_0 rfl rfl (by decide) okX12 gw_1255 dX12_countPart_49 ?_
              refine wa_sipush C (z := 272) dX12_countPart_52 (by decide) ?_
              refine wa_iload_n C 1 rfl dX12_countPart_55 rfl ?_
              refine wa_imul C dX12_countPart_56 ?_
              refine wa_iload_n C 3 rfl dX12_countPart_57 rfl ?_
              refine wa_iadd C dX12_countPart_58 ?_
              refine wa_iconst C (z := 0) dX12_countPart_59 rfl ?_
              obtain ⟨t_64, h⟩ := h
              refine wa_iast C (ws' := fun w9 => (mW M_thrown M_w M_h M_cells M_shape M_isBoard M_isBlank M_lives M_moves M_parts M_numbers_1 M_grade M_reasons M_total M_near M_degree M_mine M_state M_history M_oldLives M_safe M_mined M_used M_partOf M_placeOf M_partSize M_ways_12 w9 M_masks_2 M_rests_3 M_bits M_reach M_more M_reason M_big M_region)) 14 mW_14 dX12_countPart_60 t_64.1 t_64.2 (inR_k 0 rfl) mWs_14 (fun M_with_65 eM_with_65 => ?_)
              replace h := h M_with_65 eM_with_65
              obtain ⟨r_66, h⟩ := h
              refine wa_iinc C (lv' := fun w9 => [(3, .int (iI w9)), (0, .ref (ad 0)), (1, .int (iI x1)), (2, .int (iI v_5))]) 3 rfl dX12_countPart_61 (by decide) (fun _ => rfl) (fun x3_67 ex3_67 => ?_)
              replace h := h x3_67 ex3_67
              have rx3_67 : inR x3_67 := by rw [ex3_67]; exact r_66
              refine wa_goto C (tgt := 40) dX12_countPart_64 (by decide) ?_
              obtain ⟨n_68, ln_68, h⟩ := h
              refine wa_sub C [1, 2, 3, 0] rfl ?_
              exact ih_17 n_68 ln_68 x3_67 M_with_65 rx3_67 h
        refine wa_sub C [1, 2, 3, 0] rfl ?_
        exact k_18 n_15 0 M_with (inR_k 0 rfl) h0Inv_14
      · replace h := h.2 c_13
        refine wa_aload_n C 0 rfl dX12_countPart_20 rfl ?_
        refine wa_getR C 0 22 mW_0 rfl rfl (by decide) okX12 gw_1254 dX12_countPart_21 ?_
        refine wa_bipush C (z := 17) dX12_countPart_24 (by decide) ?_
        refine wa_iload_n C 1 rfl dX12_countPart_26 rfl ?_
        refine wa_imul C dX12_countPart_27 ?_
        refine wa_iload_n C 3 rfl dX12_countPart_28 rfl ?_
        refine wa_iadd C dX12_countPart_29 ?_
        refine wa_iconst C (z := 0) dX12_countPart_30 rfl ?_
        obtain ⟨t_69, h⟩ := h
        refine wa_iast C (ws' := fun w9 => (mW M_thrown M_w M_h M_cells M_shape M_isBoard M_isBlank M_lives M_moves M_parts M_numbers_1 M_grade M_reasons M_total M_near M_degree M_mine M_state M_history M_oldLives M_safe M_mined M_used M_partOf M_placeOf M_partSize w9 M_with M_masks_2 M_rests_3 M_bits M_reach M_more M_reason M_big M_region)) 13 mW_13 dX12_countPart_31 t_69.1 t_69.2 (inR_k 0 rfl) mWs_13 (fun M_ways_70 eM_ways_70 => ?_)
        replace h := h M_ways_70 eM_ways_70
        obtain ⟨r_71, h⟩ := h
        refine wa_iinc C (lv' := fun w9 => [(3, .int (iI w9)), (0, .ref (ad 0)), (1, .int (iI x1)), (2, .int (iI v_5))]) 3 rfl dX12_countPart_32 (by decide) (fun _ => rfl) (fun x3_72 ex3_72 => ?_)
        replace h := h x3_72 ex3_72
        have rx3_72 : inR x3_72 := by rw [ex3_72]; exact r_71
        refine wa_goto C (tgt := 14) dX12_countPart_35 (by decide) ?_
        obtain ⟨n_73, ln_73, h⟩ := h
        refine wa_sub C [1, 2, 3, 0] rfl ?_
        exact ih_9 n_73 ln_73 x3_72 M_ways_70 rx3_72 h
  refine wa_sub C [2, 3, 1, 0] rfl ?_
  exact k_10 n_7 0 M_ways (inR_k 0 rfl) h0Inv_6
def P_X12_countParts (post : Int → (Int) → (Int) → (Int → Int) → (Int → Int) → (Int → Int) → (Int → Int) → (Int → Int) → (Int → Int) → (Int → Int) → Prop) (M_cells : Int) (M_parts : Int) (M_numbers : Int) (M_near : Int → Int) (M_degree : Int → Int) (M_mine : Int → Int) (M_state : Int → Int) (M_used : Int → Int) (M_partOf : Int → Int) (M_placeOf : Int → Int) (M_partSize : Int → Int) (M_ways : Int → Int) (M_with : Int → Int) (M_masks : Int → Int) (M_rests : Int → Int) (M_bits : Int → Int) : Prop :=
  P_X12_divide (fun (c_1 : Int) (M_parts_2 : Int) (M_partOf_3 : Int → Int) (M_placeOf_4 : Int → Int) (M_partSize_5 : Int → Int) => (c_1 = 0 ∨ c_1 = 1) → (∃ Inv_6 : Nat → (Int) → (Int) → (Int → Int) → (Int → Int) → (Int → Int) → (Int → Int) → Prop, (∃ n_7 : Nat, Inv_6 n_7 0 M_numbers M_ways M_with M_masks M_rests) ∧ ∀ (n_8 : Nat) (x2_11 : Int) (M_numbers_12 : Int) (M_ways_13 : Int → Int) (M_with_14 : Int → Int) (M_masks_15 : Int → Int) (M_rests_16 : Int → Int), inR x2_11 → Inv_6 n_8 x2_11 M_numbers_12 M_ways_13 M_with_14 M_masks_15 M_rests_16 → ((M_parts_2 ≤ x2_11 → (post c_1 M_parts_2 M_numbers_12 M_partOf_3 M_placeOf_4 M_partSize_5 M_ways_13 M_with_14 M_masks_15 M_rests_16)) ∧ (¬ M_parts_2 ≤ x2_11 → ((c_1 = 0 → (post c_1 M_parts_2 M_numbers_12 M_partOf_3 M_placeOf_4 M_partSize_5 M_ways_13 M_with_14 M_masks_15 M_rests_16)) ∧ (¬ c_1 = 0 → (P_X12_countPart (fun (M_numbers_20 : Int) (M_ways_21 : Int → Int) (M_with_22 : Int → Int) (M_masks_23 : Int → Int) (M_rests_24 : Int → Int) => (inR (x2_11 + 1) ∧ (∀ x2_26 : Int, x2_26 = (x2_11 + 1) → (∃ n_27 : Nat, n_27 < n_8 ∧ Inv_6 n_27 x2_26 M_numbers_20 M_ways_21 M_with_22 M_masks_23 M_rests_24)))) M_cells M_numbers_12 M_near M_degree M_mine M_state M_used M_partOf_3 M_placeOf_4 M_partSize_5 M_ways_13 M_with_14 M_masks_15 M_rests_16 M_bits x2_11))))))) M_cells M_parts M_near M_degree M_state M_used M_partOf M_placeOf M_partSize 
set_option maxRecDepth 100000 in
set_option maxHeartbeats 4000000 in
theorem c_X12_countParts (l : Launch) (K : wK) (ad : Nat → Nat) {M_thrown : Int} {M_w : Int} {M_h : Int} {M_cells : Int} {M_shape : Int} {M_isBoard : Int} {M_isBlank : Int} {M_lives : Int} {M_moves : Int} {M_parts : Int} {M_numbers : Int} {M_grade : Int} {M_reasons : Int} {M_total : Int} {M_near : Int → Int} {M_degree : Int → Int} {M_mine : Int → Int} {M_state : Int → Int} {M_history : Int → Int64} {M_oldLives : Int → Int} {M_safe : Int → Int} {M_mined : Int → Int} {M_used : Int → Int} {M_partOf : Int → Int} {M_placeOf : Int → Int} {M_partSize : Int → Int} {M_ways : Int → Int} {M_with : Int → Int} {M_masks : Int → Int} {M_rests : Int → Int} {M_bits : Int → Int} {M_reach : Int → Int} {M_more : Int → Int} {M_reason : Int → Int} {M_big : Int → Int64} {M_region : Int → Int}   (post : Int → (Int) → (Int) → (Int → Int) → (Int → Int) → (Int → Int) → (Int → Int) → (Int → Int) → (Int → Int) → (Int → Int) → Prop) (h : P_X12_countParts post M_cells M_parts M_numbers M_near M_degree M_mine M_state M_used M_partOf M_placeOf M_partSize M_ways M_with M_masks M_rests M_bits) : mI l yX12_countParts (Cond.code yX12_countParts cX12_countParts 3 (some .boolean) :: GT) ({ frames := 6, cells := 0, slots := 0, locals := 360 } : Room) [.ref (ad 0)] K ad (mW M_thrown M_w M_h M_cells M_shape M_isBoard M_isBlank M_lives M_moves M_parts M_numbers M_grade M_reasons M_total M_near M_degree M_mine M_state M_history M_oldLives M_safe M_mined M_used M_partOf M_placeOf M_partSize M_ways M_with M_masks M_rests M_bits M_reach M_more M_reason M_big M_region) (fun z9 u9 => (z9 = 0 ∨ z9 = 1) ∧ ∃ M_parts9 M_numbers9 M_partOf9 M_placeOf9 M_partSize9 M_ways9 M_with9 M_masks9 M_rests9, u9 = (mW M_thrown M_w M_h M_cells M_shape M_isBoard M_isBlank M_lives M_moves M_parts9 M_numbers9 M_grade M_reasons M_total M_near M_degree M_mine M_state M_history M_oldLives M_safe M_mined M_used M_partOf9 M_placeOf9 M_partSize9 M_ways9 M_with9 M_masks9 M_rests9 M_bits M_reach M_more M_reason M_big M_region) ∧ post z9 M_parts9 M_numbers9 M_partOf9 M_placeOf9 M_partSize9 M_ways9 M_with9 M_masks9 M_rests9) := by
  refine mZ_of (lv0 := [(0, .ref (ad 0))]) (by decide) (Nat.le_of_ble_eq_true rfl) rfl ?_
  intro p e s m args below meth c Q A C ret
  replace C : Cx p ({ frames := 6, cells := 0, slots := 0, locals := 360 } : Room) m c 0 0 cX12_countParts 3 s args RX12 K A := C
  unfold P_X12_countParts at h
  refine wa_aload_n C 0 rfl dX12_countParts_0 rfl ?_
  refine wa_callVi C (k := 0) (As := []) (rest := []) (c_X12_divide l K ad  _ h) gw_1471 gw_1468 mW_0 rfl gw_1470 gs_78 gw_12 q_X12_divide rfl rfl rfl ⟨by decide, by decide⟩ rfl (Nat.le_of_ble_eq_true rfl) dX12_countParts_1 (fun c_1 u9 rc_1 hp => ?_)
  obtain ⟨bc_1, M_parts_2, M_partOf_3, M_placeOf_4, M_partSize_5, rfl, h⟩ := hp
  replace h := h bc_1
  refine wa_istore_n C dX12_countParts_4 rfl (by decide) rfl ?_
  refine wa_iconst C (z := 0) dX12_countParts_5 rfl ?_
  refine wa_istore_n C dX12_countParts_6 rfl (by decide) rfl ?_
  obtain ⟨Inv_6, ⟨n_7, h0Inv_6⟩, hInv_6⟩ := h
  have k_10 : ∀ (n_8 : Nat) (x2_11 : Int) (M_numbers_12 : Int) (M_ways_13 : Int → Int) (M_with_14 : Int → Int) (M_masks_15 : Int → Int) (M_rests_16 : Int → Int), inR x2_11 → Inv_6 n_8 x2_11 M_numbers_12 M_ways_13 M_with_14 M_masks_15 M_rests_16 → WA p l e ({ frames := 6, cells := 0, slots := 0, locals := 360 } : Room) s m args below meth c 0 0 Q K ad 3 A 7 [(0, .ref (ad 0)), (1, .int (iI c_1)), (2, .int (iI x2_11))] [] (mW M_thrown M_w M_h M_cells M_shape M_isBoard M_isBlank M_lives M_moves M_parts_2 M_numbers_12 M_grade M_reasons M_total M_near M_degree M_mine M_state M_history M_oldLives M_safe M_mined M_used M_partOf_3 M_placeOf_4 M_partSize_5 M_ways_13 M_with_14 M_masks_15 M_rests_16 M_bits M_reach M_more M_reason M_big M_region) := by
    intro n_8
    induction n_8 using Nat.strongRecOn with
    | ind n_8 ih_9 =>
      intro x2_11 M_numbers_12 M_ways_13 M_with_14 M_masks_15 M_rests_16 rx2_11 h
      replace h := hInv_6 n_8 x2_11 M_numbers_12 M_ways_13 M_with_14 M_masks_15 M_rests_16 rx2_11 h
      refine wa_iload_n C 2 rfl dX12_countParts_7 rfl ?_
      refine wa_aload_n C 0 rfl dX12_countParts_8 rfl ?_
      refine wa_getI C 0 20 mW_0 rfl rfl (by decide) okX12 gw_1252 dX12_countParts_9 (fun r_17 => ?_)
      refine wa_icmp_ge C (tgt := 30) rx2_11 r_17 dX12_countParts_12 (by decide) (fun c_18 => ?_) (fun c_18 => ?_)
      · replace h := h.1 c_18
        refine wa_iload_n C 1 rfl dX12_countParts_30 rfl ?_
        exact ret dX12_countParts_31 bc_1 ⟨bc_1, _, _, _, _, _, _, _, _, _, rfl, h⟩
      · replace h := h.2 c_18
        refine wa_iload_n C 1 rfl dX12_countParts_15 rfl ?_
        refine wa_if_eq C (tgt := 30) (inR_b bc_1) dX12_countParts_16 (by decide) (fun c_19 => ?_) (fun c_19 => ?_)
        · replace h := h.1 c_19
          refine wa_iload_n C 1 rfl dX12_countParts_30 rfl ?_
          exact ret dX12_countParts_31 bc_1 ⟨bc_1, _, _, _, _, _, _, _, _, _, rfl, h⟩
        · replace h := h.2 c_19
          refine wa_aload_n C 0 rfl dX12_countParts_19 rfl ?_
          refine wa_iload_n C 2 rfl dX12_countParts_20 rfl ?_
          refine wa_callVv C (k := 0) (As := [.int (iI x2_11)]) (rest := []) (c_X12_countPart l K ad x2_11 rx2_11 _ h) gw_1479 gw_1476 mW_0 rfl gw_1478 gs_80 gw_12 q_X12_countPart rfl rfl rfl ⟨by decide, by decide⟩ rfl (Nat.le_of_ble_eq_true rfl) dX12_countParts_21 (fun u9 hp => ?_)
          obtain ⟨M_numbers_20, M_ways_21, M_with_22, M_masks_23, M_rests_24, rfl, h⟩ := hp
          obtain ⟨r_25, h⟩ := h
          refine wa_iinc C (lv' := fun w9 => [(2, .int (iI w9)), (0, .ref (ad 0)), (1, .int (iI c_1))]) 2 rfl dX12_countParts_24 (by decide) (fun _ => rfl) (fun x2_26 ex2_26 => ?_)
          replace h := h x2_26 ex2_26
          have rx2_26 : inR x2_26 := by rw [ex2_26]; exact r_25
          refine wa_goto C (tgt := 7) dX12_countParts_27 (by decide) ?_
          obtain ⟨n_27, ln_27, h⟩ := h
          refine wa_sub C [1, 2, 0] rfl ?_
          exact ih_9 n_27 ln_27 x2_26 M_numbers_20 M_ways_21 M_with_22 M_masks_23 M_rests_24 rx2_26 h
  refine wa_sub C [2, 1, 0] rfl ?_
  exact k_10 n_7 0 M_numbers M_ways M_with M_masks M_rests (inR_k 0 rfl) h0Inv_6
def P_X12_freeCells (post : Int → Prop) (M_cells : Int) (M_state : Int → Int) (M_partOf : Int → Int) : Prop :=
  ∃ Inv_1 : Nat → (Int) → (Int) → Prop, (∃ n_2 : Nat, Inv_1 n_2 0 0) ∧ ∀ (n_3 : Nat) (x1_6 : Int) (x2_7 : Int), inR x1_6 → inR x2_7 → Inv_1 n_3 x1_6 x2_7 → ((M_cells ≤ x2_7 → (post x1_6)) ∧ (¬ M_cells ≤ x2_7 → (P_X12_isUnknown (fun (c_10 : Int) => (c_10 = 0 ∨ c_10 = 1) → (∃ J_11 : (Int) → Prop, (∃ J_19 : Prop, ((c_10 = 0 → (J_19)) ∧ (¬ c_10 = 0 → ((0 ≤ x2_7 ∧ x2_7 < 144) ∧ (∀ v_23 : Int, v_23 = M_partOf x2_7 → inR v_23 → ((0 ≤ v_23 → (J_19)) ∧ (¬ 0 ≤ v_23 → (J_11 1))))))) ∧ (J_19 → (J_11 0))) ∧ (∀ (z_13 : Int), inR z_13 → J_11 z_13 → (inR (x1_6 + z_13) ∧ (∀ x1_15 : Int, x1_15 = (x1_6 + z_13) → (inR (x2_7 + 1) ∧ (∀ x2_17 : Int, x2_17 = (x2_7 + 1) → (∃ n_18 : Nat, n_18 < n_3 ∧ Inv_1 n_18 x1_15 x2_17)))))))) M_state x2_7)))
set_option maxRecDepth 100000 in
set_option maxHeartbeats 4000000 in
theorem c_X12_freeCells (l : Launch) (K : wK) (ad : Nat → Nat) {M_thrown : Int} {M_w : Int} {M_h : Int} {M_cells : Int} {M_shape : Int} {M_isBoard : Int} {M_isBlank : Int} {M_lives : Int} {M_moves : Int} {M_parts : Int} {M_numbers : Int} {M_grade : Int} {M_reasons : Int} {M_total : Int} {M_near : Int → Int} {M_degree : Int → Int} {M_mine : Int → Int} {M_state : Int → Int} {M_history : Int → Int64} {M_oldLives : Int → Int} {M_safe : Int → Int} {M_mined : Int → Int} {M_used : Int → Int} {M_partOf : Int → Int} {M_placeOf : Int → Int} {M_partSize : Int → Int} {M_ways : Int → Int} {M_with : Int → Int} {M_masks : Int → Int} {M_rests : Int → Int} {M_bits : Int → Int} {M_reach : Int → Int} {M_more : Int → Int} {M_reason : Int → Int} {M_big : Int → Int64} {M_region : Int → Int}   (post : Int → Prop) (h : P_X12_freeCells post M_cells M_state M_partOf) : mI l yX12_freeCells (Cond.code yX12_freeCells cX12_freeCells 3 (some .int) :: GT) ({ frames := 3, cells := 0, slots := 0, locals := 180 } : Room) [.ref (ad 0)] K ad (mW M_thrown M_w M_h M_cells M_shape M_isBoard M_isBlank M_lives M_moves M_parts M_numbers M_grade M_reasons M_total M_near M_degree M_mine M_state M_history M_oldLives M_safe M_mined M_used M_partOf M_placeOf M_partSize M_ways M_with M_masks M_rests M_bits M_reach M_more M_reason M_big M_region) (fun z9 u9 => u9 = (mW M_thrown M_w M_h M_cells M_shape M_isBoard M_isBlank M_lives M_moves M_parts M_numbers M_grade M_reasons M_total M_near M_degree M_mine M_state M_history M_oldLives M_safe M_mined M_used M_partOf M_placeOf M_partSize M_ways M_with M_masks M_rests M_bits M_reach M_more M_reason M_big M_region) ∧ post z9) := by
  refine mI_of (lv0 := [(0, .ref (ad 0))]) (by decide) (Nat.le_of_ble_eq_true rfl) rfl ?_
  intro p e s m args below meth c Q A C ret
  replace C : Cx p ({ frames := 3, cells := 0, slots := 0, locals := 180 } : Room) m c 0 0 cX12_freeCells 3 s args RX12 K A := C
  unfold P_X12_freeCells at h
  refine wa_iconst C (z := 0) dX12_freeCells_0 rfl ?_
  refine wa_istore_n C dX12_freeCells_1 rfl (by decide) rfl ?_
  refine wa_iconst C (z := 0) dX12_freeCells_2 rfl ?_
  refine wa_istore_n C dX12_freeCells_3 rfl (by decide) rfl ?_
  obtain ⟨Inv_1, ⟨n_2, h0Inv_1⟩, hInv_1⟩ := h
  have k_5 : ∀ (n_3 : Nat) (x1_6 : Int) (x2_7 : Int), inR x1_6 → inR x2_7 → Inv_1 n_3 x1_6 x2_7 → WA p l e ({ frames := 3, cells := 0, slots := 0, locals := 180 } : Room) s m args below meth c 0 0 Q K ad 3 A 4 [(0, .ref (ad 0)), (1, .int (iI x1_6)), (2, .int (iI x2_7))] [] (mW M_thrown M_w M_h M_cells M_shape M_isBoard M_isBlank M_lives M_moves M_parts M_numbers M_grade M_reasons M_total M_near M_degree M_mine M_state M_history M_oldLives M_safe M_mined M_used M_partOf M_placeOf M_partSize M_ways M_with M_masks M_rests M_bits M_reach M_more M_reason M_big M_region) := by
    intro n_3
    induction n_3 using Nat.strongRecOn with
    | ind n_3 ih_4 =>
      intro x1_6 x2_7 rx1_6 rx2_7 h
      replace h := hInv_1 n_3 x1_6 x2_7 rx1_6 rx2_7 h
      refine wa_iload_n C 2 rfl dX12_freeCells_4 rfl ?_
      refine wa_aload_n C 0 rfl dX12_freeCells_5 rfl ?_
      refine wa_getI C 0 3 mW_0 rfl rfl (by decide) okX12 gw_1235 dX12_freeCells_6 (fun r_8 => ?_)
      refine wa_icmp_ge C (tgt := 43) rx2_7 r_8 dX12_freeCells_9 (by decide) (fun c_9 => ?_) (fun c_9 => ?_)
      · replace h := h.1 c_9
        refine wa_iload_n C 1 rfl dX12_freeCells_43 rfl ?_
        exact ret dX12_freeCells_44 rx1_6 ⟨rfl, h⟩
      · replace h := h.2 c_9
        refine wa_iload_n C 1 rfl dX12_freeCells_12 rfl ?_
        refine wa_aload_n C 0 rfl dX12_freeCells_13 rfl ?_
        refine wa_iload_n C 2 rfl dX12_freeCells_14 rfl ?_
        refine wa_callVi C (k := 0) (As := [.int (iI x2_7)]) (rest := [.int (iI x1_6)]) (c_X12_isUnknown l K ad x2_7 rx2_7 _ h) gw_1411 gw_1408 mW_0 rfl gw_1410 gs_63 gw_12 q_X12_isUnknown rfl rfl rfl ⟨by decide, by decide⟩ rfl (Nat.le_of_ble_eq_true rfl) dX12_freeCells_15 (fun c_10 u9 rc_10 hp => ?_)
        obtain ⟨bc_10, rfl, h⟩ := hp
        replace h := h bc_10
        obtain ⟨J_11, h, hJ_11⟩ := h
        have k_12 : ∀ (z_13 : Int), inR z_13 → J_11 z_13 → WA p l e ({ frames := 3, cells := 0, slots := 0, locals := 180 } : Room) s m args below meth c 0 0 Q K ad 3 A 35 [(0, .ref (ad 0)), (2, .int (iI x2_7))] [.int (iI z_13), .int (iI x1_6)] (mW M_thrown M_w M_h M_cells M_shape M_isBoard M_isBlank M_lives M_moves M_parts M_numbers M_grade M_reasons M_total M_near M_degree M_mine M_state M_history M_oldLives M_safe M_mined M_used M_partOf M_placeOf M_partSize M_ways M_with M_masks M_rests M_bits M_reach M_more M_reason M_big M_region) := by
          intro z_13 rz_13 h
          replace h := hJ_11 z_13 rz_13 h
          refine wa_iadd C dX12_freeCells_35 ?_
          obtain ⟨r_14, h⟩ := h
          refine wa_nmi (fun x1_15 ex1_15 => ?_)
          replace h := h x1_15 ex1_15
          have rx1_15 : inR x1_15 := by rw [ex1_15]; exact r_14
          refine wa_istore_n C dX12_freeCells_36 rfl (by decide) rfl ?_
          obtain ⟨r_16, h⟩ := h
          refine wa_iinc C (lv' := fun w9 => [(2, .int (iI w9)), (1, .int (iI x1_15)), (0, .ref (ad 0))]) 2 rfl dX12_freeCells_37 (by decide) (fun _ => rfl) (fun x2_17 ex2_17 => ?_)
          replace h := h x2_17 ex2_17
          have rx2_17 : inR x2_17 := by rw [ex2_17]; exact r_16
          refine wa_goto C (tgt := 4) dX12_freeCells_40 (by decide) ?_
          obtain ⟨n_18, ln_18, h⟩ := h
          refine wa_sub C [2, 1, 0] rfl ?_
          exact ih_4 n_18 ln_18 x1_15 x2_17 rx1_15 rx2_17 h
        obtain ⟨J_19, h, hJ_19⟩ := h
        have k_20 : J_19 → WA p l e ({ frames := 3, cells := 0, slots := 0, locals := 180 } : Room) s m args below meth c 0 0 Q K ad 3 A 34 [(0, .ref (ad 0)), (2, .int (iI x2_7))] [.int (iI x1_6)] (mW M_thrown M_w M_h M_cells M_shape M_isBoard M_isBlank M_lives M_moves M_parts M_numbers M_grade M_reasons M_total M_near M_degree M_mine M_state M_history M_oldLives M_safe M_mined M_used M_partOf M_placeOf M_partSize M_ways M_with M_masks M_rests M_bits M_reach M_more M_reason M_big M_region) := by
          intro h
          replace h := hJ_19 h
          refine wa_iconst C (z := 0) dX12_freeCells_34 rfl ?_
          refine wa_sub C [0, 1] rfl ?_
          exact k_12 0 (inR_k 0 rfl) h
        refine wa_if_eq C (tgt := 34) (inR_b bc_10) dX12_freeCells_18 (by decide) (fun c_21 => ?_) (fun c_21 => ?_)
        · replace h := h.1 c_21
          refine wa_sub C [0, 2] rfl ?_
          exact k_20 h
        · replace h := h.2 c_21
          refine wa_aload_n C 0 rfl dX12_freeCells_21 rfl ?_
          refine wa_getR C 0 18 mW_0 rfl rfl (by decide) okX12 gw_1250 dX12_freeCells_22 ?_
          refine wa_iload_n C 2 rfl dX12_freeCells_25 rfl ?_
          obtain ⟨t_22, h⟩ := h
          refine wa_iald C 10 mW_10 dX12_freeCells_26 t_22.1 t_22.2 (fun v_23 ev_23 rv_23 => ?_)
          replace h := h v_23 ev_23 rv_23
          refine wa_if_ge C (tgt := 34) rv_23 dX12_freeCells_27 (by decide) (fun c_24 => ?_) (fun c_24 => ?_)
          · replace h := h.1 c_24
            refine wa_sub C [0, 2] rfl ?_
            exact k_20 h
          · replace h := h.2 c_24
            refine wa_iconst C (z := 1) dX12_freeCells_30 rfl ?_
            refine wa_goto C (tgt := 35) dX12_freeCells_31 (by decide) ?_
            refine wa_sub C [0, 2] rfl ?_
            exact k_12 1 (inR_k 1 rfl) h
  refine wa_sub C [2, 1, 0] rfl ?_
  exact k_5 n_2 0 0 (inR_k 0 rfl) (inR_k 0 rfl) h0Inv_1
def P_X12_findReach (post : (Int → Int) → (Int → Int) → Prop) (M_parts : Int) (M_partSize : Int → Int) (M_ways : Int → Int) (M_reach : Int → Int) (M_more : Int → Int) (x1 : Int) : Prop :=
  ∃ Inv_1 : Nat → (Int) → (Int → Int) → Prop, (∃ n_2 : Nat, Inv_1 n_2 0 M_reach) ∧ ∀ (n_3 : Nat) (x2_6 : Int) (M_reach_7 : Int → Int), inR x2_6 → Inv_1 n_3 x2_6 M_reach_7 → ((145 ≤ x2_6 → (∃ Inv_9 : Nat → (Int) → (Int → Int) → (Int → Int) → Prop, (∃ n_10 : Nat, Inv_9 n_10 0 M_reach_7 M_more) ∧ ∀ (n_11 : Nat) (x2_14 : Int) (M_reach_15 : Int → Int) (M_more_16 : Int → Int), inR x2_14 → Inv_9 n_11 x2_14 M_reach_15 M_more_16 → ((M_parts ≤ x2_14 → (post M_reach_15 M_more_16)) ∧ (¬ M_parts ≤ x2_14 → (∃ Inv_19 : Nat → (Int) → (Int → Int) → Prop, (∃ n_20 : Nat, Inv_19 n_20 0 M_more_16) ∧ ∀ (n_21 : Nat) (x3_24 : Int) (M_more_25 : Int → Int), inR x3_24 → Inv_19 n_21 x3_24 M_more_25 → ((145 ≤ x3_24 → (∃ Inv_27 : Nat → (Int) → (Int → Int) → Prop, (∃ n_28 : Nat, Inv_27 n_28 0 M_more_25) ∧ ∀ (n_29 : Nat) (x3_32 : Int) (M_more_33 : Int → Int), inR x3_32 → Inv_27 n_29 x3_32 M_more_33 → (∃ J_34 : Prop, ((145 ≤ x3_32 → (J_34)) ∧ (¬ 145 ≤ x3_32 → ((x2_14 = x1 → (J_34)) ∧ (¬ x2_14 = x1 → (∃ Inv_59 : Nat → (Int) → (Int → Int) → Prop, (∃ n_60 : Nat, Inv_59 n_60 0 M_more_33) ∧ ∀ (n_61 : Nat) (x4_64 : Int) (M_more_65 : Int → Int), inR x4_64 → Inv_59 n_61 x4_64 M_more_65 → ((0 ≤ x2_14 ∧ x2_14 < 72) ∧ (∀ v_67 : Int, v_67 = M_partSize x2_14 → inR v_67 → (∃ J_68 : Prop, ((v_67 < x4_64 → (J_68)) ∧ (¬ v_67 < x4_64 → (inR (x3_32 + x4_64) ∧ ((145 ≤ (x3_32 + x4_64) → (J_68)) ∧ (¬ 145 ≤ (x3_32 + x4_64) → ((0 ≤ (x3_32 + x4_64) ∧ (x3_32 + x4_64) < 145) ∧ (∀ v_77 : Int, v_77 = M_more_65 (x3_32 + x4_64) → (v_77 = 0 ∨ v_77 = 1) → (∃ J_78 : (Int) → Prop, (∃ J_87 : Prop, ((¬ v_77 = 0 → (J_87)) ∧ (v_77 = 0 → ((0 ≤ x3_32 ∧ x3_32 < 145) ∧ (∀ v_91 : Int, v_91 = M_reach_15 x3_32 → (v_91 = 0 ∨ v_91 = 1) → (∃ J_92 : Prop, ((v_91 = 0 → (J_92)) ∧ (¬ v_91 = 0 → ((0 ≤ ((17 * x2_14) + x4_64) ∧ ((17 * x2_14) + x4_64) < 1224) ∧ (∀ v_96 : Int, v_96 = M_ways ((17 * x2_14) + x4_64) → inR v_96 → ((v_96 ≤ 0 → (J_92)) ∧ (¬ v_96 ≤ 0 → (J_87))))))) ∧ (J_92 → (J_78 0))))))) ∧ (J_87 → (J_78 1))) ∧ (∀ (z_80 : Int), inR z_80 → J_78 z_80 → ((0 ≤ (x3_32 + x4_64) ∧ (x3_32 + x4_64) < 145) ∧ ((z_80 = 0 ∨ z_80 = 1) ∧ (∀ M_more_83 : Int → Int, M_more_83 = upZ M_more_65 (x3_32 + x4_64) z_80 → (inR (x4_64 + 1) ∧ (∀ x4_85 : Int, x4_85 = (x4_64 + 1) → (∃ n_86 : Nat, n_86 < n_61 ∧ Inv_59 n_86 x4_85 M_more_83))))))))))))))) ∧ (J_68 → (inR (x3_32 + 1) ∧ (∀ x3_71 : Int, x3_71 = (x3_32 + 1) → (∃ n_72 : Nat, n_72 < n_29 ∧ Inv_27 n_72 x3_71 M_more_65)))))))))))) ∧ (J_34 → (∃ Inv_36 : Nat → (Int) → (Int → Int) → Prop, (∃ n_37 : Nat, Inv_36 n_37 0 M_reach_15) ∧ ∀ (n_38 : Nat) (x3_41 : Int) (M_reach_42 : Int → Int), inR x3_41 → Inv_36 n_38 x3_41 M_reach_42 → (∃ J_43 : Prop, ((145 ≤ x3_41 → (J_43)) ∧ (¬ 145 ≤ x3_41 → ((x2_14 = x1 → (J_43)) ∧ (¬ x2_14 = x1 → ((0 ≤ x3_41 ∧ x3_41 < 145) ∧ (∀ v_51 : Int, v_51 = M_more_33 x3_41 → (v_51 = 0 ∨ v_51 = 1) → ((0 ≤ x3_41 ∧ x3_41 < 145) ∧ (∀ M_reach_53 : Int → Int, M_reach_53 = upZ M_reach_42 x3_41 v_51 → (inR (x3_41 + 1) ∧ (∀ x3_55 : Int, x3_55 = (x3_41 + 1) → (∃ n_56 : Nat, n_56 < n_38 ∧ Inv_36 n_56 x3_55 M_reach_53))))))))))) ∧ (J_43 → (inR (x2_14 + 1) ∧ (∀ x2_46 : Int, x2_46 = (x2_14 + 1) → (∃ n_47 : Nat, n_47 < n_11 ∧ Inv_9 n_47 x2_46 M_reach_42 M_more_33)))))))))) ∧ (¬ 145 ≤ x3_24 → ((0 ≤ x3_24 ∧ x3_24 < 145) ∧ (∀ M_more_99 : Int → Int, M_more_99 = upZ M_more_25 x3_24 0 → (inR (x3_24 + 1) ∧ (∀ x3_101 : Int, x3_101 = (x3_24 + 1) → (∃ n_102 : Nat, n_102 < n_21 ∧ Inv_19 n_102 x3_101 M_more_99)))))))))))) ∧ (¬ 145 ≤ x2_6 → (∃ J_103 : (Int) → Prop, ((¬ x2_6 = 0 → (J_103 0)) ∧ (x2_6 = 0 → (J_103 1))) ∧ (∀ (z_105 : Int), inR z_105 → J_103 z_105 → ((0 ≤ x2_6 ∧ x2_6 < 145) ∧ ((z_105 = 0 ∨ z_105 = 1) ∧ (∀ M_reach_108 : Int → Int, M_reach_108 = upZ M_reach_7 x2_6 z_105 → (inR (x2_6 + 1) ∧ (∀ x2_110 : Int, x2_110 = (x2_6 + 1) → (∃ n_111 : Nat, n_111 < n_3 ∧ Inv_1 n_111 x2_110 M_reach_108))))))))))
set_option maxRecDepth 100000 in
set_option maxHeartbeats 4000000 in
theorem c_X12_findReach (l : Launch) (K : wK) (ad : Nat → Nat) {M_thrown : Int} {M_w : Int} {M_h : Int} {M_cells : Int} {M_shape : Int} {M_isBoard : Int} {M_isBlank : Int} {M_lives : Int} {M_moves : Int} {M_parts : Int} {M_numbers : Int} {M_grade : Int} {M_reasons : Int} {M_total : Int} {M_near : Int → Int} {M_degree : Int → Int} {M_mine : Int → Int} {M_state : Int → Int} {M_history : Int → Int64} {M_oldLives : Int → Int} {M_safe : Int → Int} {M_mined : Int → Int} {M_used : Int → Int} {M_partOf : Int → Int} {M_placeOf : Int → Int} {M_partSize : Int → Int} {M_ways : Int → Int} {M_with : Int → Int} {M_masks : Int → Int} {M_rests : Int → Int} {M_bits : Int → Int} {M_reach : Int → Int} {M_more : Int → Int} {M_reason : Int → Int} {M_big : Int → Int64} {M_region : Int → Int} (x1 : Int) (rx1 : inR x1) (post : (Int → Int) → (Int → Int) → Prop) (h : P_X12_findReach post M_parts M_partSize M_ways M_reach M_more x1) : mV l yX12_findReach (Cond.code yX12_findReach cX12_findReach 5 none :: GT) ({ frames := 2, cells := 0, slots := 0, locals := 120 } : Room) [.ref (ad 0), .int (iI x1)] K ad (mW M_thrown M_w M_h M_cells M_shape M_isBoard M_isBlank M_lives M_moves M_parts M_numbers M_grade M_reasons M_total M_near M_degree M_mine M_state M_history M_oldLives M_safe M_mined M_used M_partOf M_placeOf M_partSize M_ways M_with M_masks M_rests M_bits M_reach M_more M_reason M_big M_region) (fun u9 => ∃ M_reach9 M_more9, u9 = (mW M_thrown M_w M_h M_cells M_shape M_isBoard M_isBlank M_lives M_moves M_parts M_numbers M_grade M_reasons M_total M_near M_degree M_mine M_state M_history M_oldLives M_safe M_mined M_used M_partOf M_placeOf M_partSize M_ways M_with M_masks M_rests M_bits M_reach9 M_more9 M_reason M_big M_region) ∧ post M_reach9 M_more9) := by
  refine mV_of (lv0 := [(0, .ref (ad 0)), (1, .int (iI x1))]) (by decide) (Nat.le_of_ble_eq_true rfl) rfl ?_
  intro p e s m args below meth c Q A C ret
  replace C : Cx p ({ frames := 2, cells := 0, slots := 0, locals := 120 } : Room) m c 0 0 cX12_findReach 5 s args RX12 K A := C
  unfold P_X12_findReach at h
  refine wa_iconst C (z := 0) dX12_findReach_0 rfl ?_
  refine wa_istore_n C dX12_findReach_1 rfl (by decide) rfl ?_
  obtain ⟨Inv_1, ⟨n_2, h0Inv_1⟩, hInv_1⟩ := h
  have k_5 : ∀ (n_3 : Nat) (x2_6 : Int) (M_reach_7 : Int → Int), inR x2_6 → Inv_1 n_3 x2_6 M_reach_7 → WA p l e ({ frames := 2, cells := 0, slots := 0, locals := 120 } : Room) s m args below meth c 0 0 Q K ad 5 A 2 [(0, .ref (ad 0)), (1, .int (iI x1)), (2, .int (iI x2_6))] [] (mW M_thrown M_w M_h M_cells M_shape M_isBoard M_isBlank M_lives M_moves M_parts M_numbers M_grade M_reasons M_total M_near M_degree M_mine M_state M_history M_oldLives M_safe M_mined M_used M_partOf M_placeOf M_partSize M_ways M_with M_masks M_rests M_bits M_reach_7 M_more M_reason M_big M_region) := by
    intro n_3
    induction n_3 using Nat.strongRecOn with
    | ind n_3 ih_4 =>
      intro x2_6 M_reach_7 rx2_6 h
      replace h := hInv_1 n_3 x2_6 M_reach_7 rx2_6 h
      refine wa_iload_n C 2 rfl dX12_findReach_2 rfl ?_
      refine wa_sipush C (z := 145) dX12_findReach_3 (by decide) ?_
      refine wa_icmp_ge C (tgt := 30) rx2_6 (inR_k 145 rfl) dX12_findReach_6 (by decide) (fun c_8 => ?_) (fun c_8 => ?_)
      · replace h := h.1 c_8
        refine wa_iconst C (z := 0) dX12_findReach_30 rfl ?_
        refine wa_istore_n C dX12_findReach_31 rfl (by decide) rfl ?_
        obtain ⟨Inv_9, ⟨n_10, h0Inv_9⟩, hInv_9⟩ := h
        have k_13 : ∀ (n_11 : Nat) (x2_14 : Int) (M_reach_15 : Int → Int) (M_more_16 : Int → Int), inR x2_14 → Inv_9 n_11 x2_14 M_reach_15 M_more_16 → WA p l e ({ frames := 2, cells := 0, slots := 0, locals := 120 } : Room) s m args below meth c 0 0 Q K ad 5 A 32 [(0, .ref (ad 0)), (1, .int (iI x1)), (2, .int (iI x2_14))] [] (mW M_thrown M_w M_h M_cells M_shape M_isBoard M_isBlank M_lives M_moves M_parts M_numbers M_grade M_reasons M_total M_near M_degree M_mine M_state M_history M_oldLives M_safe M_mined M_used M_partOf M_placeOf M_partSize M_ways M_with M_masks M_rests M_bits M_reach_15 M_more_16 M_reason M_big M_region) := by
          intro n_11
          induction n_11 using Nat.strongRecOn with
          | ind n_11 ih_12 =>
            intro x2_14 M_reach_15 M_more_16 rx2_14 h
            replace h := hInv_9 n_11 x2_14 M_reach_15 M_more_16 rx2_14 h
            refine wa_iload_n C 2 rfl dX12_findReach_32 rfl ?_
            refine wa_aload_n C 0 rfl dX12_findReach_33 rfl ?_
            refine wa_getI C 0 20 mW_0 rfl rfl (by decide) okX12 gw_1252 dX12_findReach_34 (fun r_17 => ?_)
            refine wa_icmp_ge C (tgt := 200) rx2_14 r_17 dX12_findReach_37 (by decide) (fun c_18 => ?_) (fun c_18 => ?_)
            · replace h := h.1 c_18
              exact ret dX12_findReach_200 ⟨_, _, rfl, h⟩
            · replace h := h.2 c_18
              refine wa_iconst C (z := 0) dX12_findReach_40 rfl ?_
              refine wa_istore_n C dX12_findReach_41 rfl (by decide) rfl ?_
              obtain ⟨Inv_19, ⟨n_20, h0Inv_19⟩, hInv_19⟩ := h
              have k_23 : ∀ (n_21 : Nat) (x3_24 : Int) (M_more_25 : Int → Int), inR x3_24 → Inv_19 n_21 x3_24 M_more_25 → WA p l e ({ frames := 2, cells := 0, slots := 0, locals := 120 } : Room) s m args below meth c 0 0 Q K ad 5 A 42 [(0, .ref (ad 0)), (1, .int (iI x1)), (2, .int (iI x2_14)), (3, .int (iI x3_24))] [] (mW M_thrown M_w M_h M_cells M_shape M_isBoard M_isBlank M_lives M_moves M_parts M_numbers M_grade M_reasons M_total M_near M_degree M_mine M_state M_history M_oldLives M_safe M_mined M_used M_partOf M_placeOf M_partSize M_ways M_with M_masks M_rests M_bits M_reach_15 M_more_25 M_reason M_big M_region) := by
                intro n_21
                induction n_21 using Nat.strongRecOn with
                | ind n_21 ih_22 =>
                  intro x3_24 M_more_25 rx3_24 h
                  replace h := hInv_19 n_21 x3_24 M_more_25 rx3_24 h
                  refine wa_iload_n C 3 rfl dX12_findReach_42 rfl ?_
                  refine wa_sipush C (z := 145) dX12_findReach_43 (by decide) ?_
                  refine wa_icmp_ge C (tgt := 62) rx3_24 (inR_k 145 rfl) dX12_findReach_46 (by decide) (fun c_26 => ?_) (fun c_26 => ?_)
                  · replace h := h.1 c_26
                    refine wa_iconst C (z := 0) dX12_findReach_62 rfl ?_
                    refine wa_istore_n C dX12_findReach_63 rfl (by decide) rfl ?_
                    obtain ⟨Inv_27, ⟨n_28, h0Inv_27⟩, hInv_27⟩ := h
                    have k_31 : ∀ (n_29 : Nat) (x3_32 : Int) (M_more_33 : Int → Int), inR x3_32 → Inv_27 n_29 x3_32 M_more_33 → WA p l e ({ frames := 2, cells := 0, slots := 0, locals := 120 } : Room) s m args below meth c 0 0 Q K ad 5 A 64 [(0, .ref (ad 0)), (1, .int (iI x1)), (2, .int (iI x2_14)), (3, .int (iI x3_32))] [] (mW M_thrown M_w M_h M_cells M_shape M_isBoard M_isBlank M_lives M_moves M_parts M_numbers M_grade M_reasons M_total M_near M_degree M_mine M_state M_history M_oldLives M_safe M_mined M_used M_partOf M_placeOf M_partSize M_ways M_with M_masks M_rests M_bits M_reach_15 M_more_33 M_reason M_big M_region) := by
                      intro n_29
                      induction n_29 using Nat.strongRecOn with
                      | ind n_29 ih_30 =>
                        intro x3_32 M_more_33 rx3_32 h
                        replace h := hInv_27 n_29 x3_32 M_more_33 rx3_32 h
                        refine wa_iload_n C 3 rfl dX12_findReach_64 rfl ?_
                        refine wa_sipush C (z := 145) dX12_findReach_65 (by decide) ?_
                        obtain ⟨J_34, h, hJ_34⟩ := h
                        have k_35 : J_34 → WA p l e ({ frames := 2, cells := 0, slots := 0, locals := 120 } : Room) s m args below meth c 0 0 Q K ad 5 A 162 [(0, .ref (ad 0)), (1, .int (iI x1)), (2, .int (iI x2_14))] [] (mW M_thrown M_w M_h M_cells M_shape M_isBoard M_isBlank M_lives M_moves M_parts M_numbers M_grade M_reasons M_total M_near M_degree M_mine M_state M_history M_oldLives M_safe M_mined M_used M_partOf M_placeOf M_partSize M_ways M_with M_masks M_rests M_bits M_reach_15 M_more_33 M_reason M_big M_region) := by
                          intro h
                          replace h := hJ_34 h
                          refine wa_iconst C (z := 0) dX12_findReach_162 rfl ?_
                          refine wa_istore_n C dX12_findReach_163 rfl (by decide) rfl ?_
                          obtain ⟨Inv_36, ⟨n_37, h0Inv_36⟩, hInv_36⟩ := h
                          have k_40 : ∀ (n_38 : Nat) (x3_41 : Int) (M_reach_42 : Int → Int), inR x3_41 → Inv_36 n_38 x3_41 M_reach_42 → WA p l e ({ frames := 2, cells := 0, slots := 0, locals := 120 } : Room) s m args below meth c 0 0 Q K ad 5 A 164 [(0, .ref (ad 0)), (1, .int (iI x1)), (2, .int (iI x2_14)), (3, .int (iI x3_41))] [] (mW M_thrown M_w M_h M_cells M_shape M_isBoard M_isBlank M_lives M_moves M_parts M_numbers M_grade M_reasons M_total M_near M_degree M_mine M_state M_history M_oldLives M_safe M_mined M_used M_partOf M_placeOf M_partSize M_ways M_with M_masks M_rests M_bits M_reach_42 M_more_33 M_reason M_big M_region) := by
                            intro n_38
                            induction n_38 using Nat.strongRecOn with
                            | ind n_38 ih_39 =>
                              intro x3_41 M_reach_42 rx3_41 h
                              replace h := hInv_36 n_38 x3_41 M_reach_42 rx3_41 h
                              refine wa_iload_n C 3 rfl dX12_findReach_164 rfl ?_
                              refine wa_sipush C (z := 145) dX12_findReach_165 (by decide) ?_
                              obtain ⟨J_43, h, hJ_43⟩ := h
                              have k_44 : J_43 → WA p l e ({ frames := 2, cells := 0, slots := 0, locals := 120 } : Room) s m args below meth c 0 0 Q K ad 5 A 194 [(0, .ref (ad 0)), (1, .int (iI x1)), (2, .int (iI x2_14))] [] (mW M_thrown M_w M_h M_cells M_shape M_isBoard M_isBlank M_lives M_moves M_parts M_numbers M_grade M_reasons M_total M_near M_degree M_mine M_state M_history M_oldLives M_safe M_mined M_used M_partOf M_placeOf M_partSize M_ways M_with M_masks M_rests M_bits M_reach_42 M_more_33 M_reason M_big M_region) := by
                                intro h
                                replace h := hJ_43 h
                                obtain ⟨r_45, h⟩ := h
                                refine wa_iinc C (lv' := fun w9 => [(2, .int (iI w9)), (0, .ref (ad 0)), (1, .int (iI x1))]) 2 rfl dX12_findReach_194 (by decide) (fun _ => rfl) (fun x2_46 ex2_46 => ?_)
                                replace h := h x2_46 ex2_46
                                have rx2_46 : inR x2_46 := by rw [ex2_46]; exact r_45
                                refine wa_goto C (tgt := 32) dX12_findReach_197 (by decide) ?_
                                obtain ⟨n_47, ln_47, h⟩ := h
                                refine wa_sub C [1, 2, 0] rfl ?_
                                exact ih_12 n_47 ln_47 x2_46 M_reach_42 M_more_33 rx2_46 h
                              refine wa_icmp_ge C (tgt := 194) rx3_41 (inR_k 145 rfl) dX12_findReach_168 (by decide) (fun c_48 => ?_) (fun c_48 => ?_)
                              · replace h := h.1 c_48
                                refine wa_sub C [0, 1, 2] rfl ?_
                                exact k_44 h
                              · replace h := h.2 c_48
                                refine wa_iload_n C 2 rfl dX12_findReach_171 rfl ?_
                                refine wa_iload_n C 1 rfl dX12_findReach_172 rfl ?_
                                refine wa_icmp_eq C (tgt := 194) rx2_14 rx1 dX12_findReach_173 (by decide) (fun c_49 => ?_) (fun c_49 => ?_)
                                · replace h := h.1 c_49
                                  refine wa_sub C [0, 1, 2] rfl ?_
                                  exact k_44 h
                                · replace h := h.2 c_49
                                  refine wa_aload_n C 0 rfl dX12_findReach_176 rfl ?_
                                  refine wa_getR C 0 28 mW_0 rfl rfl (by decide) okX12 gw_1260 dX12_findReach_177 ?_
                                  refine wa_iload_n C 3 rfl dX12_findReach_180 rfl ?_
                                  refine wa_aload_n C 0 rfl dX12_findReach_181 rfl ?_
                                  refine wa_getR C 0 29 mW_0 rfl rfl (by decide) okX12 gw_1261 dX12_findReach_182 ?_
                                  refine wa_iload_n C 3 rfl dX12_findReach_185 rfl ?_
                                  obtain ⟨t_50, h⟩ := h
                                  refine wa_bald C 19 mW_19 dX12_findReach_186 t_50.1 t_50.2 (fun v_51 ev_51 rv_51 => ?_)
                                  replace h := h v_51 ev_51 rv_51
                                  obtain ⟨t_52, h⟩ := h
                                  refine wa_bast C (ws' := fun w9 => (mW M_thrown M_w M_h M_cells M_shape M_isBoard M_isBlank M_lives M_moves M_parts M_numbers M_grade M_reasons M_total M_near M_degree M_mine M_state M_history M_oldLives M_safe M_mined M_used M_partOf M_placeOf M_partSize M_ways M_with M_masks M_rests M_bits w9 M_more_33 M_reason M_big M_region)) 18 mW_18 dX12_findReach_187 t_52.1 t_52.2 rv_51 mWs_18 (fun M_reach_53 eM_reach_53 => ?_)
                                  replace h := h M_reach_53 eM_reach_53
                                  obtain ⟨r_54, h⟩ := h
                                  refine wa_iinc C (lv' := fun w9 => [(3, .int (iI w9)), (0, .ref (ad 0)), (1, .int (iI x1)), (2, .int (iI x2_14))]) 3 rfl dX12_findReach_188 (by decide) (fun _ => rfl) (fun x3_55 ex3_55 => ?_)
                                  replace h := h x3_55 ex3_55
                                  have rx3_55 : inR x3_55 := by rw [ex3_55]; exact r_54
                                  refine wa_goto C (tgt := 164) dX12_findReach_191 (by decide) ?_
                                  obtain ⟨n_56, ln_56, h⟩ := h
                                  refine wa_sub C [1, 2, 3, 0] rfl ?_
                                  exact ih_39 n_56 ln_56 x3_55 M_reach_53 rx3_55 h
                          refine wa_sub C [1, 2, 3, 0] rfl ?_
                          exact k_40 n_37 0 M_reach_15 (inR_k 0 rfl) h0Inv_36
                        refine wa_icmp_ge C (tgt := 162) rx3_32 (inR_k 145 rfl) dX12_findReach_68 (by decide) (fun c_57 => ?_) (fun c_57 => ?_)
                        · replace h := h.1 c_57
                          refine wa_sub C [0, 1, 2] rfl ?_
                          exact k_35 h
                        · replace h := h.2 c_57
                          refine wa_iload_n C 2 rfl dX12_findReach_71 rfl ?_
                          refine wa_iload_n C 1 rfl dX12_findReach_72 rfl ?_
                          refine wa_icmp_eq C (tgt := 162) rx2_14 rx1 dX12_findReach_73 (by decide) (fun c_58 => ?_) (fun c_58 => ?_)
                          · replace h := h.1 c_58
                            refine wa_sub C [0, 1, 2] rfl ?_
                            exact k_35 h
                          · replace h := h.2 c_58
                            refine wa_iconst C (z := 0) dX12_findReach_76 rfl ?_
                            refine wa_istore C dX12_findReach_77 (by decide) rfl ?_
                            obtain ⟨Inv_59, ⟨n_60, h0Inv_59⟩, hInv_59⟩ := h
                            have k_63 : ∀ (n_61 : Nat) (x4_64 : Int) (M_more_65 : Int → Int), inR x4_64 → Inv_59 n_61 x4_64 M_more_65 → WA p l e ({ frames := 2, cells := 0, slots := 0, locals := 120 } : Room) s m args below meth c 0 0 Q K ad 5 A 79 [(0, .ref (ad 0)), (1, .int (iI x1)), (2, .int (iI x2_14)), (3, .int (iI x3_32)), (4, .int (iI x4_64))] [] (mW M_thrown M_w M_h M_cells M_shape M_isBoard M_isBlank M_lives M_moves M_parts M_numbers M_grade M_reasons M_total M_near M_degree M_mine M_state M_history M_oldLives M_safe M_mined M_used M_partOf M_placeOf M_partSize M_ways M_with M_masks M_rests M_bits M_reach_15 M_more_65 M_reason M_big M_region) := by
                              intro n_61
                              induction n_61 using Nat.strongRecOn with
                              | ind n_61 ih_62 =>
                                intro x4_64 M_more_65 rx4_64 h
                                replace h := hInv_59 n_61 x4_64 M_more_65 rx4_64 h
                                refine wa_iload C 4 rfl dX12_findReach_79 ?_
                                refine wa_aload_n C 0 rfl dX12_findReach_81 rfl ?_
                                refine wa_getR C 0 21 mW_0 rfl rfl (by decide) okX12 gw_1253 dX12_findReach_82 ?_
                                refine wa_iload_n C 2 rfl dX12_findReach_85 rfl ?_
                                obtain ⟨t_66, h⟩ := h
                                refine wa_iald C 12 mW_12 dX12_findReach_86 t_66.1 t_66.2 (fun v_67 ev_67 rv_67 => ?_)
                                replace h := h v_67 ev_67 rv_67
                                obtain ⟨J_68, h, hJ_68⟩ := h
                                have k_69 : J_68 → WA p l e ({ frames := 2, cells := 0, slots := 0, locals := 120 } : Room) s m args below meth c 0 0 Q K ad 5 A 156 [(0, .ref (ad 0)), (1, .int (iI x1)), (2, .int (iI x2_14)), (3, .int (iI x3_32))] [] (mW M_thrown M_w M_h M_cells M_shape M_isBoard M_isBlank M_lives M_moves M_parts M_numbers M_grade M_reasons M_total M_near M_degree M_mine M_state M_history M_oldLives M_safe M_mined M_used M_partOf M_placeOf M_partSize M_ways M_with M_masks M_rests M_bits M_reach_15 M_more_65 M_reason M_big M_region) := by
                                  intro h
                                  replace h := hJ_68 h
                                  obtain ⟨r_70, h⟩ := h
                                  refine wa_iinc C (lv' := fun w9 => [(3, .int (iI w9)), (0, .ref (ad 0)), (1, .int (iI x1)), (2, .int (iI x2_14))]) 3 rfl dX12_findReach_156 (by decide) (fun _ => rfl) (fun x3_71 ex3_71 => ?_)
                                  replace h := h x3_71 ex3_71
                                  have rx3_71 : inR x3_71 := by rw [ex3_71]; exact r_70
                                  refine wa_goto C (tgt := 64) dX12_findReach_159 (by decide) ?_
                                  obtain ⟨n_72, ln_72, h⟩ := h
                                  refine wa_sub C [1, 2, 3, 0] rfl ?_
                                  exact ih_30 n_72 ln_72 x3_71 M_more_65 rx3_71 h
                                refine wa_icmp_gt C (tgt := 156) rx4_64 rv_67 dX12_findReach_87 (by decide) (fun c_73 => ?_) (fun c_73 => ?_)
                                · replace h := h.1 c_73
                                  refine wa_sub C [0, 1, 2, 3] rfl ?_
                                  exact k_69 h
                                · replace h := h.2 c_73
                                  refine wa_iload_n C 3 rfl dX12_findReach_90 rfl ?_
                                  refine wa_iload C 4 rfl dX12_findReach_91 ?_
                                  refine wa_iadd C dX12_findReach_93 ?_
                                  refine wa_sipush C (z := 145) dX12_findReach_94 (by decide) ?_
                                  obtain ⟨r_74, h⟩ := h
                                  refine wa_icmp_ge C (tgt := 156) r_74 (inR_k 145 rfl) dX12_findReach_97 (by decide) (fun c_75 => ?_) (fun c_75 => ?_)
                                  · replace h := h.1 c_75
                                    refine wa_sub C [0, 1, 2, 3] rfl ?_
                                    exact k_69 h
                                  · replace h := h.2 c_75
                                    refine wa_aload_n C 0 rfl dX12_findReach_100 rfl ?_
                                    refine wa_getR C 0 29 mW_0 rfl rfl (by decide) okX12 gw_1261 dX12_findReach_101 ?_
                                    refine wa_iload_n C 3 rfl dX12_findReach_104 rfl ?_
                                    refine wa_iload C 4 rfl dX12_findReach_105 ?_
                                    refine wa_iadd C dX12_findReach_107 ?_
                                    refine wa_aload_n C 0 rfl dX12_findReach_108 rfl ?_
                                    refine wa_getR C 0 29 mW_0 rfl rfl (by decide) okX12 gw_1261 dX12_findReach_109 ?_
                                    refine wa_iload_n C 3 rfl dX12_findReach_112 rfl ?_
                                    refine wa_iload C 4 rfl dX12_findReach_113 ?_
                                    refine wa_iadd C dX12_findReach_115 ?_
                                    obtain ⟨t_76, h⟩ := h
                                    refine wa_bald C 19 mW_19 dX12_findReach_116 t_76.1 t_76.2 (fun v_77 ev_77 rv_77 => ?_)
                                    replace h := h v_77 ev_77 rv_77
                                    obtain ⟨J_78, h, hJ_78⟩ := h
                                    have k_79 : ∀ (z_80 : Int), inR z_80 → J_78 z_80 → WA p l e ({ frames := 2, cells := 0, slots := 0, locals := 120 } : Room) s m args below meth c 0 0 Q K ad 5 A 149 [(0, .ref (ad 0)), (1, .int (iI x1)), (2, .int (iI x2_14)), (3, .int (iI x3_32)), (4, .int (iI x4_64))] [.int (iI z_80), .int (iI (x3_32 + x4_64)), .ref (ad 19)] (mW M_thrown M_w M_h M_cells M_shape M_isBoard M_isBlank M_lives M_moves M_parts M_numbers M_grade M_reasons M_total M_near M_degree M_mine M_state M_history M_oldLives M_safe M_mined M_used M_partOf M_placeOf M_partSize M_ways M_with M_masks M_rests M_bits M_reach_15 M_more_65 M_reason M_big M_region) := by
                                      intro z_80 rz_80 h
                                      replace h := hJ_78 z_80 rz_80 h
                                      obtain ⟨t_81, h⟩ := h
                                      obtain ⟨b_82, h⟩ := h
                                      refine wa_bast C (ws' := fun w9 => (mW M_thrown M_w M_h M_cells M_shape M_isBoard M_isBlank M_lives M_moves M_parts M_numbers M_grade M_reasons M_total M_near M_degree M_mine M_state M_history M_oldLives M_safe M_mined M_used M_partOf M_placeOf M_partSize M_ways M_with M_masks M_rests M_bits M_reach_15 w9 M_reason M_big M_region)) 19 mW_19 dX12_findReach_149 t_81.1 t_81.2 b_82 mWs_19 (fun M_more_83 eM_more_83 => ?_)
                                      replace h := h M_more_83 eM_more_83
                                      obtain ⟨r_84, h⟩ := h
                                      refine wa_iinc C (lv' := fun w9 => [(4, .int (iI w9)), (0, .ref (ad 0)), (1, .int (iI x1)), (2, .int (iI x2_14)), (3, .int (iI x3_32))]) 4 rfl dX12_findReach_150 (by decide) (fun _ => rfl) (fun x4_85 ex4_85 => ?_)
                                      replace h := h x4_85 ex4_85
                                      have rx4_85 : inR x4_85 := by rw [ex4_85]; exact r_84
                                      refine wa_goto C (tgt := 79) dX12_findReach_153 (by decide) ?_
                                      obtain ⟨n_86, ln_86, h⟩ := h
                                      refine wa_sub C [1, 2, 3, 4, 0] rfl ?_
                                      exact ih_62 n_86 ln_86 x4_85 M_more_83 rx4_85 h
                                    obtain ⟨J_87, h, hJ_87⟩ := h
                                    have k_88 : J_87 → WA p l e ({ frames := 2, cells := 0, slots := 0, locals := 120 } : Room) s m args below meth c 0 0 Q K ad 5 A 144 [(0, .ref (ad 0)), (1, .int (iI x1)), (2, .int (iI x2_14)), (3, .int (iI x3_32)), (4, .int (iI x4_64))] [.int (iI (x3_32 + x4_64)), .ref (ad 19)] (mW M_thrown M_w M_h M_cells M_shape M_isBoard M_isBlank M_lives M_moves M_parts M_numbers M_grade M_reasons M_total M_near M_degree M_mine M_state M_history M_oldLives M_safe M_mined M_used M_partOf M_placeOf M_partSize M_ways M_with M_masks M_rests M_bits M_reach_15 M_more_65 M_reason M_big M_region) := by
                                      intro h
                                      replace h := hJ_87 h
                                      refine wa_iconst C (z := 1) dX12_findReach_144 rfl ?_
                                      refine wa_goto C (tgt := 149) dX12_findReach_145 (by decide) ?_
                                      refine wa_sub C [0, 1, 2, 3, 4] rfl ?_
                                      exact k_79 1 (inR_k 1 rfl) h
                                    refine wa_if_ne C (tgt := 144) (inR_b rv_77) dX12_findReach_117 (by decide) (fun c_89 => ?_) (fun c_89 => ?_)
                                    · replace h := h.1 c_89
                                      refine wa_sub C [0, 1, 2, 3, 4] rfl ?_
                                      exact k_88 h
                                    · replace h := h.2 c_89
                                      refine wa_aload_n C 0 rfl dX12_findReach_120 rfl ?_
                                      refine wa_getR C 0 28 mW_0 rfl rfl (by decide) okX12 gw_1260 dX12_findReach_121 ?_
                                      refine wa_iload_n C 3 rfl dX12_findReach_124 rfl ?_
                                      obtain ⟨t_90, h⟩ := h
                                      refine wa_bald C 18 mW_18 dX12_findReach_125 t_90.1 t_90.2 (fun v_91 ev_91 rv_91 => ?_)
                                      replace h := h v_91 ev_91 rv_91
                                      obtain ⟨J_92, h, hJ_92⟩ := h
                                      have k_93 : J_92 → WA p l e ({ frames := 2, cells := 0, slots := 0, locals := 120 } : Room) s m args below meth c 0 0 Q K ad 5 A 148 [(0, .ref (ad 0)), (1, .int (iI x1)), (2, .int (iI x2_14)), (3, .int (iI x3_32)), (4, .int (iI x4_64))] [.int (iI (x3_32 + x4_64)), .ref (ad 19)] (mW M_thrown M_w M_h M_cells M_shape M_isBoard M_isBlank M_lives M_moves M_parts M_numbers M_grade M_reasons M_total M_near M_degree M_mine M_state M_history M_oldLives M_safe M_mined M_used M_partOf M_placeOf M_partSize M_ways M_with M_masks M_rests M_bits M_reach_15 M_more_65 M_reason M_big M_region) := by
                                        intro h
                                        replace h := hJ_92 h
                                        refine wa_iconst C (z := 0) dX12_findReach_148 rfl ?_
                                        refine wa_sub C [0, 1, 2, 3, 4] rfl ?_
                                        exact k_79 0 (inR_k 0 rfl) h
                                      refine wa_if_eq C (tgt := 148) (inR_b rv_91) dX12_findReach_126 (by decide) (fun c_94 => ?_) (fun c_94 => ?_)
                                      · replace h := h.1 c_94
                                        refine wa_sub C [0, 1, 2, 3, 4] rfl ?_
                                        exact k_93 h
                                      · replace h := h.2 c_94
                                        refine wa_aload_n C 0 rfl dX12_findReach_129 rfl ?_
                                        refine wa_getR C 0 22 mW_0 rfl rfl (by decide) okX12 gw_1254 dX12_findReach_130 ?_
                                        refine wa_bipush C (z := 17) dX12_findReach_133 (by decide) ?_
                                        refine wa_iload_n C 2 rfl dX12_findReach_135 rfl ?_
                                        refine wa_imul C dX12_findReach_136 ?_
                                        refine wa_iload C 4 rfl dX12_findReach_137 ?_
                                        refine wa_iadd C dX12_findReach_139 ?_
                                        obtain ⟨t_95, h⟩ := h
                                        refine wa_iald C 13 mW_13 dX12_findReach_140 t_95.1 t_95.2 (fun v_96 ev_96 rv_96 => ?_)
                                        replace h := h v_96 ev_96 rv_96
                                        refine wa_if_le C (tgt := 148) rv_96 dX12_findReach_141 (by decide) (fun c_97 => ?_) (fun c_97 => ?_)
                                        · replace h := h.1 c_97
                                          refine wa_sub C [0, 1, 2, 3, 4] rfl ?_
                                          exact k_93 h
                                        · replace h := h.2 c_97
                                          refine wa_sub C [0, 1, 2, 3, 4] rfl ?_
                                          exact k_88 h
                            refine wa_sub C [1, 2, 3, 4, 0] rfl ?_
                            exact k_63 n_60 0 M_more_33 (inR_k 0 rfl) h0Inv_59
                    refine wa_sub C [1, 2, 3, 0] rfl ?_
                    exact k_31 n_28 0 M_more_25 (inR_k 0 rfl) h0Inv_27
                  · replace h := h.2 c_26
                    refine wa_aload_n C 0 rfl dX12_findReach_49 rfl ?_
                    refine wa_getR C 0 29 mW_0 rfl rfl (by decide) okX12 gw_1261 dX12_findReach_50 ?_
                    refine wa_iload_n C 3 rfl dX12_findReach_53 rfl ?_
                    refine wa_iconst C (z := 0) dX12_findReach_54 rfl ?_
                    obtain ⟨t_98, h⟩ := h
                    refine wa_bast C (ws' := fun w9 => (mW M_thrown M_w M_h M_cells M_shape M_isBoard M_isBlank M_lives M_moves M_parts M_numbers M_grade M_reasons M_total M_near M_degree M_mine M_state M_history M_oldLives M_safe M_mined M_used M_partOf M_placeOf M_partSize M_ways M_with M_masks M_rests M_bits M_reach_15 w9 M_reason M_big M_region)) 19 mW_19 dX12_findReach_55 t_98.1 t_98.2 (Or.inl rfl) mWs_19 (fun M_more_99 eM_more_99 => ?_)
                    replace h := h M_more_99 eM_more_99
                    obtain ⟨r_100, h⟩ := h
                    refine wa_iinc C (lv' := fun w9 => [(3, .int (iI w9)), (0, .ref (ad 0)), (1, .int (iI x1)), (2, .int (iI x2_14))]) 3 rfl dX12_findReach_56 (by decide) (fun _ => rfl) (fun x3_101 ex3_101 => ?_)
                    replace h := h x3_101 ex3_101
                    have rx3_101 : inR x3_101 := by rw [ex3_101]; exact r_100
                    refine wa_goto C (tgt := 42) dX12_findReach_59 (by decide) ?_
                    obtain ⟨n_102, ln_102, h⟩ := h
                    refine wa_sub C [1, 2, 3, 0] rfl ?_
                    exact ih_22 n_102 ln_102 x3_101 M_more_99 rx3_101 h
              refine wa_sub C [1, 2, 3, 0] rfl ?_
              exact k_23 n_20 0 M_more_16 (inR_k 0 rfl) h0Inv_19
        refine wa_sub C [1, 2, 0] rfl ?_
        exact k_13 n_10 0 M_reach_7 M_more (inR_k 0 rfl) h0Inv_9
      · replace h := h.2 c_8
        refine wa_aload_n C 0 rfl dX12_findReach_9 rfl ?_
        refine wa_getR C 0 28 mW_0 rfl rfl (by decide) okX12 gw_1260 dX12_findReach_10 ?_
        refine wa_iload_n C 2 rfl dX12_findReach_13 rfl ?_
        refine wa_iload_n C 2 rfl dX12_findReach_14 rfl ?_
        obtain ⟨J_103, h, hJ_103⟩ := h
        have k_104 : ∀ (z_105 : Int), inR z_105 → J_103 z_105 → WA p l e ({ frames := 2, cells := 0, slots := 0, locals := 120 } : Room) s m args below meth c 0 0 Q K ad 5 A 23 [(0, .ref (ad 0)), (1, .int (iI x1)), (2, .int (iI x2_6))] [.int (iI z_105), .int (iI x2_6), .ref (ad 18)] (mW M_thrown M_w M_h M_cells M_shape M_isBoard M_isBlank M_lives M_moves M_parts M_numbers M_grade M_reasons M_total M_near M_degree M_mine M_state M_history M_oldLives M_safe M_mined M_used M_partOf M_placeOf M_partSize M_ways M_with M_masks M_rests M_bits M_reach_7 M_more M_reason M_big M_region) := by
          intro z_105 rz_105 h
          replace h := hJ_103 z_105 rz_105 h
          obtain ⟨t_106, h⟩ := h
          obtain ⟨b_107, h⟩ := h
          refine wa_bast C (ws' := fun w9 => (mW M_thrown M_w M_h M_cells M_shape M_isBoard M_isBlank M_lives M_moves M_parts M_numbers M_grade M_reasons M_total M_near M_degree M_mine M_state M_history M_oldLives M_safe M_mined M_used M_partOf M_placeOf M_partSize M_ways M_with M_masks M_rests M_bits w9 M_more M_reason M_big M_region)) 18 mW_18 dX12_findReach_23 t_106.1 t_106.2 b_107 mWs_18 (fun M_reach_108 eM_reach_108 => ?_)
          replace h := h M_reach_108 eM_reach_108
          obtain ⟨r_109, h⟩ := h
          refine wa_iinc C (lv' := fun w9 => [(2, .int (iI w9)), (0, .ref (ad 0)), (1, .int (iI x1))]) 2 rfl dX12_findReach_24 (by decide) (fun _ => rfl) (fun x2_110 ex2_110 => ?_)
          replace h := h x2_110 ex2_110
          have rx2_110 : inR x2_110 := by rw [ex2_110]; exact r_109
          refine wa_goto C (tgt := 2) dX12_findReach_27 (by decide) ?_
          obtain ⟨n_111, ln_111, h⟩ := h
          refine wa_sub C [1, 2, 0] rfl ?_
          exact ih_4 n_111 ln_111 x2_110 M_reach_108 rx2_110 h
        refine wa_if_ne C (tgt := 22) rx2_6 dX12_findReach_15 (by decide) (fun c_112 => ?_) (fun c_112 => ?_)
        · replace h := h.1 c_112
          refine wa_iconst C (z := 0) dX12_findReach_22 rfl ?_
          refine wa_sub C [0, 1, 2] rfl ?_
          exact k_104 0 (inR_k 0 rfl) h
        · replace h := h.2 c_112
          refine wa_iconst C (z := 1) dX12_findReach_18 rfl ?_
          refine wa_goto C (tgt := 23) dX12_findReach_19 (by decide) ?_
          refine wa_sub C [0, 1, 2] rfl ?_
          exact k_104 1 (inR_k 1 rfl) h
  refine wa_sub C [1, 2, 0] rfl ?_
  exact k_5 n_2 0 M_reach (inR_k 0 rfl) h0Inv_1
def P_X12_fitsIn (post : Int → Prop) (M_reach : Int → Int) (x1 : Int) (x2 : Int) : Prop :=
  ∃ Inv_1 : Nat → (Int) → (Int) → Prop, (∃ n_2 : Nat, Inv_1 n_2 0 0) ∧ ∀ (n_3 : Nat) (x3_6 : Int) (x4_7 : Int), inR x3_6 → inR x4_7 → Inv_1 n_3 x3_6 x4_7 → ((145 ≤ x4_7 → ((x3_6 = 0 ∨ x3_6 = 1) ∧ (post x3_6))) ∧ (¬ 145 ≤ x4_7 → (∃ J_10 : (Int) → Prop, (∃ J_16 : Prop, ((¬ x3_6 = 0 → (J_16)) ∧ (x3_6 = 0 → ((0 ≤ x4_7 ∧ x4_7 < 145) ∧ (∀ v_20 : Int, v_20 = M_reach x4_7 → (v_20 = 0 ∨ v_20 = 1) → (∃ J_21 : Prop, ((v_20 = 0 → (J_21)) ∧ (¬ v_20 = 0 → (inR (x1 - x4_7) ∧ (P_X12_within (fun (c_25 : Int) => (c_25 = 0 ∨ c_25 = 1) → ((c_25 = 0 → (J_21)) ∧ (¬ c_25 = 0 → (J_16))))  (x1 - x4_7) 0 x2)))) ∧ (J_21 → (J_10 0))))))) ∧ (J_16 → (J_10 1))) ∧ (∀ (z_12 : Int), inR z_12 → J_10 z_12 → (inR (x4_7 + 1) ∧ (∀ x4_14 : Int, x4_14 = (x4_7 + 1) → (∃ n_15 : Nat, n_15 < n_3 ∧ Inv_1 n_15 z_12 x4_14)))))))
set_option maxRecDepth 100000 in
set_option maxHeartbeats 4000000 in
theorem c_X12_fitsIn (l : Launch) (K : wK) (ad : Nat → Nat) {M_thrown : Int} {M_w : Int} {M_h : Int} {M_cells : Int} {M_shape : Int} {M_isBoard : Int} {M_isBlank : Int} {M_lives : Int} {M_moves : Int} {M_parts : Int} {M_numbers : Int} {M_grade : Int} {M_reasons : Int} {M_total : Int} {M_near : Int → Int} {M_degree : Int → Int} {M_mine : Int → Int} {M_state : Int → Int} {M_history : Int → Int64} {M_oldLives : Int → Int} {M_safe : Int → Int} {M_mined : Int → Int} {M_used : Int → Int} {M_partOf : Int → Int} {M_placeOf : Int → Int} {M_partSize : Int → Int} {M_ways : Int → Int} {M_with : Int → Int} {M_masks : Int → Int} {M_rests : Int → Int} {M_bits : Int → Int} {M_reach : Int → Int} {M_more : Int → Int} {M_reason : Int → Int} {M_big : Int → Int64} {M_region : Int → Int} (x1 : Int) (x2 : Int) (rx1 : inR x1) (rx2 : inR x2) (post : Int → Prop) (h : P_X12_fitsIn post M_reach x1 x2) : mI l yX12_fitsIn (Cond.code yX12_fitsIn cX12_fitsIn 5 (some .boolean) :: GT) ({ frames := 3, cells := 0, slots := 0, locals := 180 } : Room) [.ref (ad 0), .int (iI x1), .int (iI x2)] K ad (mW M_thrown M_w M_h M_cells M_shape M_isBoard M_isBlank M_lives M_moves M_parts M_numbers M_grade M_reasons M_total M_near M_degree M_mine M_state M_history M_oldLives M_safe M_mined M_used M_partOf M_placeOf M_partSize M_ways M_with M_masks M_rests M_bits M_reach M_more M_reason M_big M_region) (fun z9 u9 => (z9 = 0 ∨ z9 = 1) ∧ u9 = (mW M_thrown M_w M_h M_cells M_shape M_isBoard M_isBlank M_lives M_moves M_parts M_numbers M_grade M_reasons M_total M_near M_degree M_mine M_state M_history M_oldLives M_safe M_mined M_used M_partOf M_placeOf M_partSize M_ways M_with M_masks M_rests M_bits M_reach M_more M_reason M_big M_region) ∧ post z9) := by
  refine mZ_of (lv0 := [(0, .ref (ad 0)), (1, .int (iI x1)), (2, .int (iI x2))]) (by decide) (Nat.le_of_ble_eq_true rfl) rfl ?_
  intro p e s m args below meth c Q A C ret
  replace C : Cx p ({ frames := 3, cells := 0, slots := 0, locals := 180 } : Room) m c 0 0 cX12_fitsIn 5 s args RX12 K A := C
  unfold P_X12_fitsIn at h
  refine wa_iconst C (z := 0) dX12_fitsIn_0 rfl ?_
  refine wa_istore_n C dX12_fitsIn_1 rfl (by decide) rfl ?_
  refine wa_iconst C (z := 0) dX12_fitsIn_2 rfl ?_
  refine wa_istore C dX12_fitsIn_3 (by decide) rfl ?_
  obtain ⟨Inv_1, ⟨n_2, h0Inv_1⟩, hInv_1⟩ := h
  have k_5 : ∀ (n_3 : Nat) (x3_6 : Int) (x4_7 : Int), inR x3_6 → inR x4_7 → Inv_1 n_3 x3_6 x4_7 → WA p l e ({ frames := 3, cells := 0, slots := 0, locals := 180 } : Room) s m args below meth c 0 0 Q K ad 5 A 5 [(0, .ref (ad 0)), (1, .int (iI x1)), (2, .int (iI x2)), (3, .int (iI x3_6)), (4, .int (iI x4_7))] [] (mW M_thrown M_w M_h M_cells M_shape M_isBoard M_isBlank M_lives M_moves M_parts M_numbers M_grade M_reasons M_total M_near M_degree M_mine M_state M_history M_oldLives M_safe M_mined M_used M_partOf M_placeOf M_partSize M_ways M_with M_masks M_rests M_bits M_reach M_more M_reason M_big M_region) := by
    intro n_3
    induction n_3 using Nat.strongRecOn with
    | ind n_3 ih_4 =>
      intro x3_6 x4_7 rx3_6 rx4_7 h
      replace h := hInv_1 n_3 x3_6 x4_7 rx3_6 rx4_7 h
      refine wa_iload C 4 rfl dX12_fitsIn_5 ?_
      refine wa_sipush C (z := 145) dX12_fitsIn_7 (by decide) ?_
      refine wa_icmp_ge C (tgt := 51) rx4_7 (inR_k 145 rfl) dX12_fitsIn_10 (by decide) (fun c_8 => ?_) (fun c_8 => ?_)
      · replace h := h.1 c_8
        refine wa_iload_n C 3 rfl dX12_fitsIn_51 rfl ?_
        obtain ⟨b_9, h⟩ := h
        exact ret dX12_fitsIn_52 b_9 ⟨b_9, rfl, h⟩
      · replace h := h.2 c_8
        refine wa_iload_n C 3 rfl dX12_fitsIn_13 rfl ?_
        obtain ⟨J_10, h, hJ_10⟩ := h
        have k_11 : ∀ (z_12 : Int), inR z_12 → J_10 z_12 → WA p l e ({ frames := 3, cells := 0, slots := 0, locals := 180 } : Room) s m args below meth c 0 0 Q K ad 5 A 44 [(0, .ref (ad 0)), (1, .int (iI x1)), (2, .int (iI x2)), (4, .int (iI x4_7))] [.int (iI z_12)] (mW M_thrown M_w M_h M_cells M_shape M_isBoard M_isBlank M_lives M_moves M_parts M_numbers M_grade M_reasons M_total M_near M_degree M_mine M_state M_history M_oldLives M_safe M_mined M_used M_partOf M_placeOf M_partSize M_ways M_with M_masks M_rests M_bits M_reach M_more M_reason M_big M_region) := by
          intro z_12 rz_12 h
          replace h := hJ_10 z_12 rz_12 h
          refine wa_istore_n C dX12_fitsIn_44 rfl (by decide) rfl ?_
          obtain ⟨r_13, h⟩ := h
          refine wa_iinc C (lv' := fun w9 => [(4, .int (iI w9)), (3, .int (iI z_12)), (0, .ref (ad 0)), (1, .int (iI x1)), (2, .int (iI x2))]) 4 rfl dX12_fitsIn_45 (by decide) (fun _ => rfl) (fun x4_14 ex4_14 => ?_)
          replace h := h x4_14 ex4_14
          have rx4_14 : inR x4_14 := by rw [ex4_14]; exact r_13
          refine wa_goto C (tgt := 5) dX12_fitsIn_48 (by decide) ?_
          obtain ⟨n_15, ln_15, h⟩ := h
          refine wa_sub C [2, 3, 4, 1, 0] rfl ?_
          exact ih_4 n_15 ln_15 z_12 x4_14 rz_12 rx4_14 h
        obtain ⟨J_16, h, hJ_16⟩ := h
        have k_17 : J_16 → WA p l e ({ frames := 3, cells := 0, slots := 0, locals := 180 } : Room) s m args below meth c 0 0 Q K ad 5 A 39 [(0, .ref (ad 0)), (1, .int (iI x1)), (2, .int (iI x2)), (4, .int (iI x4_7))] [] (mW M_thrown M_w M_h M_cells M_shape M_isBoard M_isBlank M_lives M_moves M_parts M_numbers M_grade M_reasons M_total M_near M_degree M_mine M_state M_history M_oldLives M_safe M_mined M_used M_partOf M_placeOf M_partSize M_ways M_with M_masks M_rests M_bits M_reach M_more M_reason M_big M_region) := by
          intro h
          replace h := hJ_16 h
          refine wa_iconst C (z := 1) dX12_fitsIn_39 rfl ?_
          refine wa_goto C (tgt := 44) dX12_fitsIn_40 (by decide) ?_
          refine wa_sub C [0, 1, 2, 3] rfl ?_
          exact k_11 1 (inR_k 1 rfl) h
        refine wa_if_ne C (tgt := 39) rx3_6 dX12_fitsIn_14 (by decide) (fun c_18 => ?_) (fun c_18 => ?_)
        · replace h := h.1 c_18
          refine wa_sub C [0, 1, 2, 4] rfl ?_
          exact k_17 h
        · replace h := h.2 c_18
          refine wa_aload_n C 0 rfl dX12_fitsIn_17 rfl ?_
          refine wa_getR C 0 28 mW_0 rfl rfl (by decide) okX12 gw_1260 dX12_fitsIn_18 ?_
          refine wa_iload C 4 rfl dX12_fitsIn_21 ?_
          obtain ⟨t_19, h⟩ := h
          refine wa_bald C 18 mW_18 dX12_fitsIn_23 t_19.1 t_19.2 (fun v_20 ev_20 rv_20 => ?_)
          replace h := h v_20 ev_20 rv_20
          obtain ⟨J_21, h, hJ_21⟩ := h
          have k_22 : J_21 → WA p l e ({ frames := 3, cells := 0, slots := 0, locals := 180 } : Room) s m args below meth c 0 0 Q K ad 5 A 43 [(0, .ref (ad 0)), (1, .int (iI x1)), (2, .int (iI x2)), (4, .int (iI x4_7))] [] (mW M_thrown M_w M_h M_cells M_shape M_isBoard M_isBlank M_lives M_moves M_parts M_numbers M_grade M_reasons M_total M_near M_degree M_mine M_state M_history M_oldLives M_safe M_mined M_used M_partOf M_placeOf M_partSize M_ways M_with M_masks M_rests M_bits M_reach M_more M_reason M_big M_region) := by
            intro h
            replace h := hJ_21 h
            refine wa_iconst C (z := 0) dX12_fitsIn_43 rfl ?_
            refine wa_sub C [0, 1, 2, 3] rfl ?_
            exact k_11 0 (inR_k 0 rfl) h
          refine wa_if_eq C (tgt := 43) (inR_b rv_20) dX12_fitsIn_24 (by decide) (fun c_23 => ?_) (fun c_23 => ?_)
          · replace h := h.1 c_23
            refine wa_sub C [0, 1, 2, 4] rfl ?_
            exact k_22 h
          · replace h := h.2 c_23
            refine wa_iload_n C 1 rfl dX12_fitsIn_27 rfl ?_
            refine wa_iload C 4 rfl dX12_fitsIn_28 ?_
            refine wa_isub C dX12_fitsIn_30 ?_
            refine wa_iconst C (z := 0) dX12_fitsIn_31 rfl ?_
            refine wa_iload_n C 2 rfl dX12_fitsIn_32 rfl ?_
            obtain ⟨r_24, h⟩ := h
            refine wa_callSi C (As := [.int (iI (x1 - x4_7)), .int (iI 0), .int (iI x2)]) (rest := []) (c_X12_within l K ad (x1 - x4_7) 0 x2 r_24 (inR_k 0 rfl) rx2 _ h) gw_1354 gw_1352 gw_1353 gw_12 q_X12_within rfl rfl rfl ⟨by decide, by decide⟩ rfl (Nat.le_of_ble_eq_true rfl) dX12_fitsIn_33 (fun c_25 u9 rc_25 hp => ?_)
            obtain ⟨bc_25, rfl, h⟩ := hp
            replace h := h bc_25
            refine wa_if_eq C (tgt := 43) (inR_b bc_25) dX12_fitsIn_36 (by decide) (fun c_26 => ?_) (fun c_26 => ?_)
            · replace h := h.1 c_26
              refine wa_sub C [0, 1, 2, 4] rfl ?_
              exact k_22 h
            · replace h := h.2 c_26
              refine wa_sub C [0, 1, 2, 4] rfl ?_
              exact k_17 h
  refine wa_sub C [2, 3, 4, 1, 0] rfl ?_
  exact k_5 n_2 0 0 (inR_k 0 rfl) (inR_k 0 rfl) h0Inv_1
def P_X12_hasWay (post : Int → Prop) (M_cells : Int) (M_mine : Int → Int) (M_state : Int → Int) (M_partOf : Int → Int) (M_placeOf : Int → Int) (M_partSize : Int → Int) (M_ways : Int → Int) (M_with : Int → Int) (M_reach : Int → Int) (x1 : Int) (x2 : Int) (x3 : Int) : Prop :=
  (0 ≤ x1 ∧ x1 < 144) ∧ (∀ v_2 : Int, v_2 = M_partOf x1 → inR v_2 → (P_X12_minesLeft (fun (c_3 : Int) => inR c_3 → ((0 ≤ v_2 → (∃ Inv_5 : Nat → (Int) → (Int) → Prop, (∃ n_6 : Nat, Inv_5 n_6 0 0) ∧ ∀ (n_7 : Nat) (x6_10 : Int) (x7_11 : Int), inR x6_10 → inR x7_11 → Inv_5 n_7 x6_10 x7_11 → ((0 ≤ v_2 ∧ v_2 < 72) ∧ (∀ v_13 : Int, v_13 = M_partSize v_2 → inR v_13 → ((v_13 < x7_11 → ((x6_10 = 0 ∨ x6_10 = 1) ∧ (post x6_10))) ∧ (¬ v_13 < x7_11 → ((0 ≤ x1 ∧ x1 < 144) ∧ (∀ v_17 : Int, v_17 = M_placeOf x1 → inR v_17 → ((0 ≤ (((272 * v_2) + (17 * v_17)) + x7_11) ∧ (((272 * v_2) + (17 * v_17)) + x7_11) < 19584) ∧ (∀ v_19 : Int, v_19 = M_with (((272 * v_2) + (17 * v_17)) + x7_11) → inR v_19 → (∃ J_20 : (Int) → Prop, ((x2 = 0 → ((0 ≤ ((17 * v_2) + x7_11) ∧ ((17 * v_2) + x7_11) < 1224) ∧ (∀ v_42 : Int, v_42 = M_ways ((17 * v_2) + x7_11) → inR v_42 → (inR (v_42 - v_19) ∧ (J_20 (v_42 - v_19)))))) ∧ (¬ x2 = 0 → (J_20 v_19))) ∧ (∀ (z_22 : Int), inR z_22 → J_20 z_22 → (∃ J_23 : (Int) → Prop, (∃ J_29 : Prop, ((¬ x6_10 = 0 → (J_29)) ∧ (x6_10 = 0 → (∃ J_32 : Prop, ((z_22 ≤ 0 → (J_32)) ∧ (¬ z_22 ≤ 0 → ((x3 = 0 → (J_29)) ∧ (¬ x3 = 0 → (P_X12_freeCells (fun (c_36 : Int) => inR c_36 → (inR (c_3 - x7_11) ∧ (P_X12_fitsIn (fun (c_38 : Int) => (c_38 = 0 ∨ c_38 = 1) → ((c_38 = 0 → (J_32)) ∧ (¬ c_38 = 0 → (J_29)))) M_reach (c_3 - x7_11) c_36))) M_cells M_state M_partOf ))))) ∧ (J_32 → (J_23 0))))) ∧ (J_29 → (J_23 1))) ∧ (∀ (z_25 : Int), inR z_25 → J_23 z_25 → (inR (x7_11 + 1) ∧ (∀ x7_27 : Int, x7_27 = (x7_11 + 1) → (∃ n_28 : Nat, n_28 < n_7 ∧ Inv_5 n_28 z_25 x7_27))))))))))))))))) ∧ (¬ 0 ≤ v_2 → (∃ J_44 : (Int) → Prop, (∃ J_48 : Prop, ((x3 = 0 → (J_48)) ∧ (¬ x3 = 0 → (∃ J_51 : (Int) → Prop, ((x2 = 0 → (J_51 c_3)) ∧ (¬ x2 = 0 → (inR (c_3 - 1) ∧ (J_51 (c_3 - 1))))) ∧ (∀ (z_53 : Int), inR z_53 → J_51 z_53 → (P_X12_freeCells (fun (c_54 : Int) => inR c_54 → (inR (c_54 - 1) ∧ (P_X12_fitsIn (fun (c_56 : Int) => (c_56 = 0 ∨ c_56 = 1) → ((c_56 = 0 → (J_44 0)) ∧ (¬ c_56 = 0 → (J_48)))) M_reach z_53 (c_54 - 1)))) M_cells M_state M_partOf ))))) ∧ (J_48 → (J_44 1))) ∧ (∀ (z_46 : Int), inR z_46 → J_44 z_46 → ((z_46 = 0 ∨ z_46 = 1) ∧ (post z_46))))))) M_cells M_mine M_state ))
set_option maxRecDepth 100000 in
set_option maxHeartbeats 4000000 in
theorem c_X12_hasWay (l : Launch) (K : wK) (ad : Nat → Nat) {M_thrown : Int} {M_w : Int} {M_h : Int} {M_cells : Int} {M_shape : Int} {M_isBoard : Int} {M_isBlank : Int} {M_lives : Int} {M_moves : Int} {M_parts : Int} {M_numbers : Int} {M_grade : Int} {M_reasons : Int} {M_total : Int} {M_near : Int → Int} {M_degree : Int → Int} {M_mine : Int → Int} {M_state : Int → Int} {M_history : Int → Int64} {M_oldLives : Int → Int} {M_safe : Int → Int} {M_mined : Int → Int} {M_used : Int → Int} {M_partOf : Int → Int} {M_placeOf : Int → Int} {M_partSize : Int → Int} {M_ways : Int → Int} {M_with : Int → Int} {M_masks : Int → Int} {M_rests : Int → Int} {M_bits : Int → Int} {M_reach : Int → Int} {M_more : Int → Int} {M_reason : Int → Int} {M_big : Int → Int64} {M_region : Int → Int} (x1 : Int) (x2 : Int) (x3 : Int) (rx1 : inR x1) (bx2 : x2 = 0 ∨ x2 = 1) (bx3 : x3 = 0 ∨ x3 = 1) (post : Int → Prop) (h : P_X12_hasWay post M_cells M_mine M_state M_partOf M_placeOf M_partSize M_ways M_with M_reach x1 x2 x3) : mI l yX12_hasWay (Cond.code yX12_hasWay cX12_hasWay 10 (some .boolean) :: GT) ({ frames := 4, cells := 0, slots := 0, locals := 240 } : Room) [.ref (ad 0), .int (iI x1), .int (iI x2), .int (iI x3)] K ad (mW M_thrown M_w M_h M_cells M_shape M_isBoard M_isBlank M_lives M_moves M_parts M_numbers M_grade M_reasons M_total M_near M_degree M_mine M_state M_history M_oldLives M_safe M_mined M_used M_partOf M_placeOf M_partSize M_ways M_with M_masks M_rests M_bits M_reach M_more M_reason M_big M_region) (fun z9 u9 => (z9 = 0 ∨ z9 = 1) ∧ u9 = (mW M_thrown M_w M_h M_cells M_shape M_isBoard M_isBlank M_lives M_moves M_parts M_numbers M_grade M_reasons M_total M_near M_degree M_mine M_state M_history M_oldLives M_safe M_mined M_used M_partOf M_placeOf M_partSize M_ways M_with M_masks M_rests M_bits M_reach M_more M_reason M_big M_region) ∧ post z9) := by
  refine mZ_of (lv0 := [(0, .ref (ad 0)), (1, .int (iI x1)), (2, .int (iI x2)), (3, .int (iI x3))]) (by decide) (Nat.le_of_ble_eq_true rfl) rfl ?_
  intro p e s m args below meth c Q A C ret
  replace C : Cx p ({ frames := 4, cells := 0, slots := 0, locals := 240 } : Room) m c 0 0 cX12_hasWay 10 s args RX12 K A := C
  unfold P_X12_hasWay at h
  refine wa_aload_n C 0 rfl dX12_hasWay_0 rfl ?_
  refine wa_getR C 0 18 mW_0 rfl rfl (by decide) okX12 gw_1250 dX12_hasWay_1 ?_
  refine wa_iload_n C 1 rfl dX12_hasWay_4 rfl ?_
  obtain ⟨t_1, h⟩ := h
  refine wa_iald C 10 mW_10 dX12_hasWay_5 t_1.1 t_1.2 (fun v_2 ev_2 rv_2 => ?_)
  replace h := h v_2 ev_2 rv_2
  refine wa_istore C dX12_hasWay_6 (by decide) rfl ?_
  refine wa_aload_n C 1 rfl dX12_hasWay_8 rfl ?_
  refine wa_callVi C (k := 0) (As := []) (rest := []) (c_X12_minesLeft l K ad  _ h) gw_1499 gw_1496 mW_0 rfl gw_1498 gs_85 gw_12 q_X12_minesLeft rfl rfl rfl ⟨by decide, by decide⟩ rfl (Nat.le_of_ble_eq_true rfl) dX12_hasWay_9 (fun c_3 u9 rc_3 hp => ?_)
  obtain ⟨rfl, h⟩ := hp
  replace h := h rc_3
  refine wa_istore C dX12_hasWay_12 (by decide) rfl ?_
  refine wa_iload C 1 rfl dX12_hasWay_14 ?_
  refine wa_if_ge C (tgt := 55) rv_2 dX12_hasWay_16 (by decide) (fun c_4 => ?_) (fun c_4 => ?_)
  · replace h := h.1 c_4
    refine wa_iconst C (z := 0) dX12_hasWay_55 rfl ?_
    refine wa_istore C dX12_hasWay_56 (by decide) rfl ?_
    refine wa_iconst C (z := 0) dX12_hasWay_58 rfl ?_
    refine wa_istore C dX12_hasWay_59 (by decide) rfl ?_
    obtain ⟨Inv_5, ⟨n_6, h0Inv_5⟩, hInv_5⟩ := h
    have k_9 : ∀ (n_7 : Nat) (x6_10 : Int) (x7_11 : Int), inR x6_10 → inR x7_11 → Inv_5 n_7 x6_10 x7_11 → WA p l e ({ frames := 4, cells := 0, slots := 0, locals := 240 } : Room) s m args below meth c 0 0 Q K ad 10 A 61 [(0, .ref (ad 0)), (1, .int (iI x1)), (2, .int (iI x2)), (3, .int (iI x3)), (4, .int (iI v_2)), (5, .int (iI c_3)), (6, .int (iI x6_10)), (7, .int (iI x7_11))] [] (mW M_thrown M_w M_h M_cells M_shape M_isBoard M_isBlank M_lives M_moves M_parts M_numbers M_grade M_reasons M_total M_near M_degree M_mine M_state M_history M_oldLives M_safe M_mined M_used M_partOf M_placeOf M_partSize M_ways M_with M_masks M_rests M_bits M_reach M_more M_reason M_big M_region) := by
      intro n_7
      induction n_7 using Nat.strongRecOn with
      | ind n_7 ih_8 =>
        intro x6_10 x7_11 rx6_10 rx7_11 h
        replace h := hInv_5 n_7 x6_10 x7_11 rx6_10 rx7_11 h
        refine wa_iload C 7 rfl dX12_hasWay_61 ?_
        refine wa_aload_n C 0 rfl dX12_hasWay_63 rfl ?_
        refine wa_getR C 0 21 mW_0 rfl rfl (by decide) okX12 gw_1253 dX12_hasWay_64 ?_
        refine wa_iload C 4 rfl dX12_hasWay_67 ?_
        obtain ⟨t_12, h⟩ := h
        refine wa_iald C 12 mW_12 dX12_hasWay_69 t_12.1 t_12.2 (fun v_13 ev_13 rv_13 => ?_)
        replace h := h v_13 ev_13 rv_13
        refine wa_icmp_gt C (tgt := 169) rx7_11 rv_13 dX12_hasWay_70 (by decide) (fun c_14 => ?_) (fun c_14 => ?_)
        · replace h := h.1 c_14
          refine wa_iload C 6 rfl dX12_hasWay_169 ?_
          obtain ⟨b_15, h⟩ := h
          exact ret dX12_hasWay_171 b_15 ⟨b_15, rfl, h⟩
        · replace h := h.2 c_14
          refine wa_aload_n C 0 rfl dX12_hasWay_73 rfl ?_
          refine wa_getR C 0 23 mW_0 rfl rfl (by decide) okX12 gw_1255 dX12_hasWay_74 ?_
          refine wa_sipush C (z := 272) dX12_hasWay_77 (by decide) ?_
          refine wa_iload C 4 rfl dX12_hasWay_80 ?_
          refine wa_imul C dX12_hasWay_82 ?_
          refine wa_bipush C (z := 17) dX12_hasWay_83 (by decide) ?_
          refine wa_aload_n C 0 rfl dX12_hasWay_85 rfl ?_
          refine wa_getR C 0 19 mW_0 rfl rfl (by decide) okX12 gw_1251 dX12_hasWay_86 ?_
          refine wa_iload_n C 1 rfl dX12_hasWay_89 rfl ?_
          obtain ⟨t_16, h⟩ := h
          refine wa_iald C 11 mW_11 dX12_hasWay_90 t_16.1 t_16.2 (fun v_17 ev_17 rv_17 => ?_)
          replace h := h v_17 ev_17 rv_17
          refine wa_imul C dX12_hasWay_91 ?_
          refine wa_iadd C dX12_hasWay_92 ?_
          refine wa_iload C 7 rfl dX12_hasWay_93 ?_
          refine wa_iadd C dX12_hasWay_95 ?_
          obtain ⟨t_18, h⟩ := h
          refine wa_iald C 14 mW_14 dX12_hasWay_96 t_18.1 t_18.2 (fun v_19 ev_19 rv_19 => ?_)
          replace h := h v_19 ev_19 rv_19
          refine wa_istore C dX12_hasWay_97 (by decide) rfl ?_
          refine wa_iload_n C 3 rfl dX12_hasWay_99 rfl ?_
          obtain ⟨J_20, h, hJ_20⟩ := h
          have k_21 : ∀ (z_22 : Int), inR z_22 → J_20 z_22 → WA p l e ({ frames := 4, cells := 0, slots := 0, locals := 240 } : Room) s m args below meth c 0 0 Q K ad 10 A 124 [(0, .ref (ad 0)), (1, .int (iI x1)), (2, .int (iI x2)), (3, .int (iI x3)), (4, .int (iI v_2)), (5, .int (iI c_3)), (6, .int (iI x6_10)), (7, .int (iI x7_11))] [.int (iI z_22)] (mW M_thrown M_w M_h M_cells M_shape M_isBoard M_isBlank M_lives M_moves M_parts M_numbers M_grade M_reasons M_total M_near M_degree M_mine M_state M_history M_oldLives M_safe M_mined M_used M_partOf M_placeOf M_partSize M_ways M_with M_masks M_rests M_bits M_reach M_more M_reason M_big M_region) := by
            intro z_22 rz_22 h
            replace h := hJ_20 z_22 rz_22 h
            refine wa_istore C dX12_hasWay_124 (by decide) rfl ?_
            refine wa_iload C 7 rfl dX12_hasWay_126 ?_
            obtain ⟨J_23, h, hJ_23⟩ := h
            have k_24 : ∀ (z_25 : Int), inR z_25 → J_23 z_25 → WA p l e ({ frames := 4, cells := 0, slots := 0, locals := 240 } : Room) s m args below meth c 0 0 Q K ad 10 A 161 [(0, .ref (ad 0)), (1, .int (iI x1)), (2, .int (iI x2)), (3, .int (iI x3)), (4, .int (iI v_2)), (5, .int (iI c_3)), (7, .int (iI x7_11))] [.int (iI z_25)] (mW M_thrown M_w M_h M_cells M_shape M_isBoard M_isBlank M_lives M_moves M_parts M_numbers M_grade M_reasons M_total M_near M_degree M_mine M_state M_history M_oldLives M_safe M_mined M_used M_partOf M_placeOf M_partSize M_ways M_with M_masks M_rests M_bits M_reach M_more M_reason M_big M_region) := by
              intro z_25 rz_25 h
              replace h := hJ_23 z_25 rz_25 h
              refine wa_istore C dX12_hasWay_161 (by decide) rfl ?_
              obtain ⟨r_26, h⟩ := h
              refine wa_iinc C (lv' := fun w9 => [(7, .int (iI w9)), (6, .int (iI z_25)), (0, .ref (ad 0)), (1, .int (iI x1)), (2, .int (iI x2)), (3, .int (iI x3)), (4, .int (iI v_2)), (5, .int (iI c_3))]) 7 rfl dX12_hasWay_163 (by decide) (fun _ => rfl) (fun x7_27 ex7_27 => ?_)
              replace h := h x7_27 ex7_27
              have rx7_27 : inR x7_27 := by rw [ex7_27]; exact r_26
              refine wa_goto C (tgt := 61) dX12_hasWay_166 (by decide) ?_
              obtain ⟨n_28, ln_28, h⟩ := h
              refine wa_sub C [2, 3, 4, 5, 6, 7, 1, 0] rfl ?_
              exact ih_8 n_28 ln_28 z_25 x7_27 rz_25 rx7_27 h
            obtain ⟨J_29, h, hJ_29⟩ := h
            have k_30 : J_29 → WA p l e ({ frames := 4, cells := 0, slots := 0, locals := 240 } : Room) s m args below meth c 0 0 Q K ad 10 A 156 [(0, .ref (ad 0)), (1, .int (iI x1)), (2, .int (iI x2)), (3, .int (iI x3)), (4, .int (iI v_2)), (5, .int (iI c_3)), (7, .int (iI x7_11))] [] (mW M_thrown M_w M_h M_cells M_shape M_isBoard M_isBlank M_lives M_moves M_parts M_numbers M_grade M_reasons M_total M_near M_degree M_mine M_state M_history M_oldLives M_safe M_mined M_used M_partOf M_placeOf M_partSize M_ways M_with M_masks M_rests M_bits M_reach M_more M_reason M_big M_region) := by
              intro h
              replace h := hJ_29 h
              refine wa_iconst C (z := 1) dX12_hasWay_156 rfl ?_
              refine wa_goto C (tgt := 161) dX12_hasWay_157 (by decide) ?_
              refine wa_sub C [0, 1, 2, 3, 4, 5, 6] rfl ?_
              exact k_24 1 (inR_k 1 rfl) h
            refine wa_if_ne C (tgt := 156) rx6_10 dX12_hasWay_128 (by decide) (fun c_31 => ?_) (fun c_31 => ?_)
            · replace h := h.1 c_31
              refine wa_sub C [1, 2, 3, 4, 5, 6, 8] rfl ?_
              exact k_30 h
            · replace h := h.2 c_31
              refine wa_iload C 0 rfl dX12_hasWay_131 ?_
              obtain ⟨J_32, h, hJ_32⟩ := h
              have k_33 : J_32 → WA p l e ({ frames := 4, cells := 0, slots := 0, locals := 240 } : Room) s m args below meth c 0 0 Q K ad 10 A 160 [(0, .ref (ad 0)), (1, .int (iI x1)), (2, .int (iI x2)), (3, .int (iI x3)), (4, .int (iI v_2)), (5, .int (iI c_3)), (7, .int (iI x7_11))] [] (mW M_thrown M_w M_h M_cells M_shape M_isBoard M_isBlank M_lives M_moves M_parts M_numbers M_grade M_reasons M_total M_near M_degree M_mine M_state M_history M_oldLives M_safe M_mined M_used M_partOf M_placeOf M_partSize M_ways M_with M_masks M_rests M_bits M_reach M_more M_reason M_big M_region) := by
                intro h
                replace h := hJ_32 h
                refine wa_iconst C (z := 0) dX12_hasWay_160 rfl ?_
                refine wa_sub C [0, 1, 2, 3, 4, 5, 6] rfl ?_
                exact k_24 0 (inR_k 0 rfl) h
              refine wa_if_le C (tgt := 160) rz_22 dX12_hasWay_133 (by decide) (fun c_34 => ?_) (fun c_34 => ?_)
              · replace h := h.1 c_34
                refine wa_sub C [1, 2, 3, 4, 5, 6, 8] rfl ?_
                exact k_33 h
              · replace h := h.2 c_34
                refine wa_iload_n C 4 rfl dX12_hasWay_136 rfl ?_
                refine wa_if_eq C (tgt := 156) (inR_b bx3) dX12_hasWay_137 (by decide) (fun c_35 => ?_) (fun c_35 => ?_)
                · replace h := h.1 c_35
                  refine wa_sub C [1, 2, 3, 4, 5, 6, 8] rfl ?_
                  exact k_30 h
                · replace h := h.2 c_35
                  refine wa_aload_n C 1 rfl dX12_hasWay_140 rfl ?_
                  refine wa_iload C 6 rfl dX12_hasWay_141 ?_
                  refine wa_iload C 8 rfl dX12_hasWay_143 ?_
                  refine wa_isub C dX12_hasWay_145 ?_
                  refine wa_aload_n C 1 rfl dX12_hasWay_146 rfl ?_
                  refine wa_callVi C (k := 0) (As := []) (rest := [.int (iI (c_3 - x7_11)), .ref (ad 0)]) (c_X12_freeCells l K ad  _ h) gw_1511 gw_1508 mW_0 rfl gw_1510 gs_88 gw_12 q_X12_freeCells rfl rfl rfl ⟨by decide, by decide⟩ rfl (Nat.le_of_ble_eq_true rfl) dX12_hasWay_147 (fun c_36 u9 rc_36 hp => ?_)
                  obtain ⟨rfl, h⟩ := hp
                  replace h := h rc_36
                  obtain ⟨r_37, h⟩ := h
                  refine wa_callVi C (k := 0) (As := [.int (iI (c_3 - x7_11)), .int (iI c_36)]) (rest := []) (c_X12_fitsIn l K ad (c_3 - x7_11) c_36 r_37 rc_36 _ h) gw_1515 gw_1512 mW_0 rfl gw_1514 gs_89 gw_12 q_X12_fitsIn rfl rfl rfl ⟨by decide, by decide⟩ rfl (Nat.le_of_ble_eq_true rfl) dX12_hasWay_150 (fun c_38 u9 rc_38 hp => ?_)
                  obtain ⟨bc_38, rfl, h⟩ := hp
                  replace h := h bc_38
                  refine wa_if_eq C (tgt := 160) (inR_b bc_38) dX12_hasWay_153 (by decide) (fun c_39 => ?_) (fun c_39 => ?_)
                  · replace h := h.1 c_39
                    refine wa_sub C [1, 2, 3, 4, 5, 6, 8] rfl ?_
                    exact k_33 h
                  · replace h := h.2 c_39
                    refine wa_sub C [1, 2, 3, 4, 5, 6, 8] rfl ?_
                    exact k_30 h
          refine wa_if_eq C (tgt := 108) (inR_b bx2) dX12_hasWay_100 (by decide) (fun c_40 => ?_) (fun c_40 => ?_)
          · replace h := h.1 c_40
            refine wa_aload_n C 1 rfl dX12_hasWay_108 rfl ?_
            refine wa_getR C 0 22 mW_0 rfl rfl (by decide) okX12 gw_1254 dX12_hasWay_109 ?_
            refine wa_bipush C (z := 17) dX12_hasWay_112 (by decide) ?_
            refine wa_iload C 5 rfl dX12_hasWay_114 ?_
            refine wa_imul C dX12_hasWay_116 ?_
            refine wa_iload C 8 rfl dX12_hasWay_117 ?_
            refine wa_iadd C dX12_hasWay_119 ?_
            obtain ⟨t_41, h⟩ := h
            refine wa_iald C 13 mW_13 dX12_hasWay_120 t_41.1 t_41.2 (fun v_42 ev_42 rv_42 => ?_)
            replace h := h v_42 ev_42 rv_42
            refine wa_iload C 0 rfl dX12_hasWay_121 ?_
            refine wa_isub C dX12_hasWay_123 ?_
            obtain ⟨r_43, h⟩ := h
            refine wa_sub C [1, 2, 3, 4, 5, 6, 7, 8] rfl ?_
            exact k_21 (v_42 - v_19) r_43 h
          · replace h := h.2 c_40
            refine wa_iload C 0 rfl dX12_hasWay_103 ?_
            refine wa_goto C (tgt := 124) dX12_hasWay_105 (by decide) ?_
            refine wa_sub C [1, 2, 3, 4, 5, 6, 7, 8] rfl ?_
            exact k_21 v_19 rv_19 h
    refine wa_sub C [4, 5, 6, 7, 3, 2, 1, 0] rfl ?_
    exact k_9 n_6 0 0 (inR_k 0 rfl) (inR_k 0 rfl) h0Inv_5
  · replace h := h.2 c_4
    refine wa_iload_n C 5 rfl dX12_hasWay_19 rfl ?_
    obtain ⟨J_44, h, hJ_44⟩ := h
    have k_45 : ∀ (z_46 : Int), inR z_46 → J_44 z_46 → WA p l e ({ frames := 4, cells := 0, slots := 0, locals := 240 } : Room) s m args below meth c 0 0 Q K ad 10 A 54 [] [.int (iI z_46)] (mW M_thrown M_w M_h M_cells M_shape M_isBoard M_isBlank M_lives M_moves M_parts M_numbers M_grade M_reasons M_total M_near M_degree M_mine M_state M_history M_oldLives M_safe M_mined M_used M_partOf M_placeOf M_partSize M_ways M_with M_masks M_rests M_bits M_reach M_more M_reason M_big M_region) := by
      intro z_46 rz_46 h
      replace h := hJ_44 z_46 rz_46 h
      obtain ⟨b_47, h⟩ := h
      exact ret dX12_hasWay_54 b_47 ⟨b_47, rfl, h⟩
    obtain ⟨J_48, h, hJ_48⟩ := h
    have k_49 : J_48 → WA p l e ({ frames := 4, cells := 0, slots := 0, locals := 240 } : Room) s m args below meth c 0 0 Q K ad 10 A 49 [] [] (mW M_thrown M_w M_h M_cells M_shape M_isBoard M_isBlank M_lives M_moves M_parts M_numbers M_grade M_reasons M_total M_near M_degree M_mine M_state M_history M_oldLives M_safe M_mined M_used M_partOf M_placeOf M_partSize M_ways M_with M_masks M_rests M_bits M_reach M_more M_reason M_big M_region) := by
      intro h
      replace h := hJ_48 h
      refine wa_iconst C (z := 1) dX12_hasWay_49 rfl ?_
      refine wa_goto C (tgt := 54) dX12_hasWay_50 (by decide) ?_
      refine wa_sub C [] rfl ?_
      exact k_45 1 (inR_k 1 rfl) h
    refine wa_if_eq C (tgt := 49) (inR_b bx3) dX12_hasWay_20 (by decide) (fun c_50 => ?_) (fun c_50 => ?_)
    · replace h := h.1 c_50
      refine wa_sub C [] rfl ?_
      exact k_49 h
    · replace h := h.2 c_50
      refine wa_aload_n C 2 rfl dX12_hasWay_23 rfl ?_
      refine wa_iload_n C 4 rfl dX12_hasWay_24 rfl ?_
      obtain ⟨J_51, h, hJ_51⟩ := h
      have k_52 : ∀ (z_53 : Int), inR z_53 → J_51 z_53 → WA p l e ({ frames := 4, cells := 0, slots := 0, locals := 240 } : Room) s m args below meth c 0 0 Q K ad 10 A 37 [(0, .ref (ad 0))] [.int (iI z_53), .ref (ad 0)] (mW M_thrown M_w M_h M_cells M_shape M_isBoard M_isBlank M_lives M_moves M_parts M_numbers M_grade M_reasons M_total M_near M_degree M_mine M_state M_history M_oldLives M_safe M_mined M_used M_partOf M_placeOf M_partSize M_ways M_with M_masks M_rests M_bits M_reach M_more M_reason M_big M_region) := by
        intro z_53 rz_53 h
        replace h := hJ_51 z_53 rz_53 h
        refine wa_aload_n C 0 rfl dX12_hasWay_37 rfl ?_
        refine wa_callVi C (k := 0) (As := []) (rest := [.int (iI z_53), .ref (ad 0)]) (c_X12_freeCells l K ad  _ h) gw_1511 gw_1508 mW_0 rfl gw_1510 gs_88 gw_12 q_X12_freeCells rfl rfl rfl ⟨by decide, by decide⟩ rfl (Nat.le_of_ble_eq_true rfl) dX12_hasWay_38 (fun c_54 u9 rc_54 hp => ?_)
        obtain ⟨rfl, h⟩ := hp
        replace h := h rc_54
        refine wa_iconst C (z := 1) dX12_hasWay_41 rfl ?_
        refine wa_isub C dX12_hasWay_42 ?_
        obtain ⟨r_55, h⟩ := h
        refine wa_callVi C (k := 0) (As := [.int (iI z_53), .int (iI (c_54 - 1))]) (rest := []) (c_X12_fitsIn l K ad z_53 (c_54 - 1) rz_53 r_55 _ h) gw_1515 gw_1512 mW_0 rfl gw_1514 gs_89 gw_12 q_X12_fitsIn rfl rfl rfl ⟨by decide, by decide⟩ rfl (Nat.le_of_ble_eq_true rfl) dX12_hasWay_43 (fun c_56 u9 rc_56 hp => ?_)
        obtain ⟨bc_56, rfl, h⟩ := hp
        replace h := h bc_56
        refine wa_if_eq C (tgt := 53) (inR_b bc_56) dX12_hasWay_46 (by decide) (fun c_57 => ?_) (fun c_57 => ?_)
        · replace h := h.1 c_57
          refine wa_iconst C (z := 0) dX12_hasWay_53 rfl ?_
          refine wa_sub C [] rfl ?_
          exact k_45 0 (inR_k 0 rfl) h
        · replace h := h.2 c_57
          refine wa_sub C [] rfl ?_
          exact k_49 h
      refine wa_if_eq C (tgt := 35) (inR_b bx2) dX12_hasWay_25 (by decide) (fun c_58 => ?_) (fun c_58 => ?_)
      · replace h := h.1 c_58
        refine wa_iload C 0 rfl dX12_hasWay_35 ?_
        refine wa_sub C [2] rfl ?_
        exact k_52 c_3 rc_3 h
      · replace h := h.2 c_58
        refine wa_iload C 0 rfl dX12_hasWay_28 ?_
        refine wa_iconst C (z := 1) dX12_hasWay_30 rfl ?_
        refine wa_isub C dX12_hasWay_31 ?_
        refine wa_goto C (tgt := 37) dX12_hasWay_32 (by decide) ?_
        obtain ⟨r_59, h⟩ := h
        refine wa_sub C [2] rfl ?_
        exact k_52 (c_3 - 1) r_59 h
def P_X12_isPossible (post : Int → (Int → Int) → (Int → Int) → Prop) (M_cells : Int) (M_parts : Int) (M_mine : Int → Int) (M_state : Int → Int) (M_partOf : Int → Int) (M_placeOf : Int → Int) (M_partSize : Int → Int) (M_ways : Int → Int) (M_with : Int → Int) (M_reach : Int → Int) (M_more : Int → Int) (x1 : Int) (x2 : Int) (x3 : Int) : Prop :=
  ∃ J_1 : (Int → Int) → (Int → Int) → Prop, ((x3 = 0 → (J_1 M_reach M_more)) ∧ (¬ x3 = 0 → ((0 ≤ x1 ∧ x1 < 144) ∧ (∀ v_8 : Int, v_8 = M_partOf x1 → inR v_8 → (P_X12_findReach (fun (M_reach_9 : Int → Int) (M_more_10 : Int → Int) => (J_1 M_reach_9 M_more_10)) M_parts M_partSize M_ways M_reach M_more v_8))))) ∧ (∀ (M_reach_3 : Int → Int) (M_more_4 : Int → Int), J_1 M_reach_3 M_more_4 → (P_X12_hasWay (fun (c_5 : Int) => (c_5 = 0 ∨ c_5 = 1) → (post c_5 M_reach_3 M_more_4)) M_cells M_mine M_state M_partOf M_placeOf M_partSize M_ways M_with M_reach_3 x1 x2 x3))
set_option maxRecDepth 100000 in
set_option maxHeartbeats 4000000 in
theorem c_X12_isPossible (l : Launch) (K : wK) (ad : Nat → Nat) {M_thrown : Int} {M_w : Int} {M_h : Int} {M_cells : Int} {M_shape : Int} {M_isBoard : Int} {M_isBlank : Int} {M_lives : Int} {M_moves : Int} {M_parts : Int} {M_numbers : Int} {M_grade : Int} {M_reasons : Int} {M_total : Int} {M_near : Int → Int} {M_degree : Int → Int} {M_mine : Int → Int} {M_state : Int → Int} {M_history : Int → Int64} {M_oldLives : Int → Int} {M_safe : Int → Int} {M_mined : Int → Int} {M_used : Int → Int} {M_partOf : Int → Int} {M_placeOf : Int → Int} {M_partSize : Int → Int} {M_ways : Int → Int} {M_with : Int → Int} {M_masks : Int → Int} {M_rests : Int → Int} {M_bits : Int → Int} {M_reach : Int → Int} {M_more : Int → Int} {M_reason : Int → Int} {M_big : Int → Int64} {M_region : Int → Int} (x1 : Int) (x2 : Int) (x3 : Int) (rx1 : inR x1) (bx2 : x2 = 0 ∨ x2 = 1) (bx3 : x3 = 0 ∨ x3 = 1) (post : Int → (Int → Int) → (Int → Int) → Prop) (h : P_X12_isPossible post M_cells M_parts M_mine M_state M_partOf M_placeOf M_partSize M_ways M_with M_reach M_more x1 x2 x3) : mI l yX12_isPossible (Cond.code yX12_isPossible cX12_isPossible 4 (some .boolean) :: GT) ({ frames := 5, cells := 0, slots := 0, locals := 300 } : Room) [.ref (ad 0), .int (iI x1), .int (iI x2), .int (iI x3)] K ad (mW M_thrown M_w M_h M_cells M_shape M_isBoard M_isBlank M_lives M_moves M_parts M_numbers M_grade M_reasons M_total M_near M_degree M_mine M_state M_history M_oldLives M_safe M_mined M_used M_partOf M_placeOf M_partSize M_ways M_with M_masks M_rests M_bits M_reach M_more M_reason M_big M_region) (fun z9 u9 => (z9 = 0 ∨ z9 = 1) ∧ ∃ M_reach9 M_more9, u9 = (mW M_thrown M_w M_h M_cells M_shape M_isBoard M_isBlank M_lives M_moves M_parts M_numbers M_grade M_reasons M_total M_near M_degree M_mine M_state M_history M_oldLives M_safe M_mined M_used M_partOf M_placeOf M_partSize M_ways M_with M_masks M_rests M_bits M_reach9 M_more9 M_reason M_big M_region) ∧ post z9 M_reach9 M_more9) := by
  refine mZ_of (lv0 := [(0, .ref (ad 0)), (1, .int (iI x1)), (2, .int (iI x2)), (3, .int (iI x3))]) (by decide) (Nat.le_of_ble_eq_true rfl) rfl ?_
  intro p e s m args below meth c Q A C ret
  replace C : Cx p ({ frames := 5, cells := 0, slots := 0, locals := 300 } : Room) m c 0 0 cX12_isPossible 4 s args RX12 K A := C
  unfold P_X12_isPossible at h
  refine wa_iload_n C 3 rfl dX12_isPossible_0 rfl ?_
  obtain ⟨J_1, h, hJ_1⟩ := h
  have k_2 : ∀ (M_reach_3 : Int → Int) (M_more_4 : Int → Int), J_1 M_reach_3 M_more_4 → WA p l e ({ frames := 5, cells := 0, slots := 0, locals := 300 } : Room) s m args below meth c 0 0 Q K ad 4 A 14 [(0, .ref (ad 0)), (1, .int (iI x1)), (2, .int (iI x2)), (3, .int (iI x3))] [] (mW M_thrown M_w M_h M_cells M_shape M_isBoard M_isBlank M_lives M_moves M_parts M_numbers M_grade M_reasons M_total M_near M_degree M_mine M_state M_history M_oldLives M_safe M_mined M_used M_partOf M_placeOf M_partSize M_ways M_with M_masks M_rests M_bits M_reach_3 M_more_4 M_reason M_big M_region) := by
    intro M_reach_3 M_more_4 h
    replace h := hJ_1 M_reach_3 M_more_4 h
    refine wa_aload_n C 0 rfl dX12_isPossible_14 rfl ?_
    refine wa_iload_n C 1 rfl dX12_isPossible_15 rfl ?_
    refine wa_iload_n C 2 rfl dX12_isPossible_16 rfl ?_
    refine wa_iload_n C 3 rfl dX12_isPossible_17 rfl ?_
    refine wa_callVi C (k := 0) (As := [.int (iI x1), .int (iI x2), .int (iI x3)]) (rest := []) (c_X12_hasWay l K ad x1 x2 x3 rx1 bx2 bx3 _ h) gw_1495 gw_1492 mW_0 rfl gw_1494 gs_84 gw_12 q_X12_hasWay rfl rfl rfl ⟨by decide, by decide⟩ rfl (Nat.le_of_ble_eq_true rfl) dX12_isPossible_18 (fun c_5 u9 rc_5 hp => ?_)
    obtain ⟨bc_5, rfl, h⟩ := hp
    replace h := h bc_5
    exact ret dX12_isPossible_21 bc_5 ⟨bc_5, _, _, rfl, h⟩
  refine wa_if_eq C (tgt := 14) (inR_b bx3) dX12_isPossible_1 (by decide) (fun c_6 => ?_) (fun c_6 => ?_)
  · replace h := h.1 c_6
    refine wa_sub C [0, 1, 2, 3] rfl ?_
    exact k_2 M_reach M_more h
  · replace h := h.2 c_6
    refine wa_aload_n C 0 rfl dX12_isPossible_4 rfl ?_
    refine wa_aload_n C 0 rfl dX12_isPossible_5 rfl ?_
    refine wa_getR C 0 18 mW_0 rfl rfl (by decide) okX12 gw_1250 dX12_isPossible_6 ?_
    refine wa_iload_n C 1 rfl dX12_isPossible_9 rfl ?_
    obtain ⟨t_7, h⟩ := h
    refine wa_iald C 10 mW_10 dX12_isPossible_10 t_7.1 t_7.2 (fun v_8 ev_8 rv_8 => ?_)
    replace h := h v_8 ev_8 rv_8
    refine wa_callVv C (k := 0) (As := [.int (iI v_8)]) (rest := []) (c_X12_findReach l K ad v_8 rv_8 _ h) gw_1491 gw_1488 mW_0 rfl gw_1490 gs_83 gw_12 q_X12_findReach rfl rfl rfl ⟨by decide, by decide⟩ rfl (Nat.le_of_ble_eq_true rfl) dX12_isPossible_11 (fun u9 hp => ?_)
    obtain ⟨M_reach_9, M_more_10, rfl, h⟩ := hp
    refine wa_sub C [0, 1, 2, 3] rfl ?_
    exact k_2 M_reach_9 M_more_10 h
def P_X12_findByAll (post : (Int) → (Int) → (Int → Int) → (Int → Int) → (Int → Int) → (Int → Int) → (Int → Int) → (Int → Int) → (Int → Int) → (Int → Int) → (Int → Int) → (Int → Int) → (Int → Int) → (Int → Int) → Prop) (M_cells : Int) (M_parts : Int) (M_numbers : Int) (M_near : Int → Int) (M_degree : Int → Int) (M_mine : Int → Int) (M_state : Int → Int) (M_safe : Int → Int) (M_mined : Int → Int) (M_used : Int → Int) (M_partOf : Int → Int) (M_placeOf : Int → Int) (M_partSize : Int → Int) (M_ways : Int → Int) (M_with : Int → Int) (M_masks : Int → Int) (M_rests : Int → Int) (M_bits : Int → Int) (M_reach : Int → Int) (M_more : Int → Int) : Prop :=
  P_X12_useAll (fun (M_used_1 : Int → Int) => (P_X12_countParts (fun (c_2 : Int) (M_parts_3 : Int) (M_numbers_4 : Int) (M_partOf_5 : Int → Int) (M_placeOf_6 : Int → Int) (M_partSize_7 : Int → Int) (M_ways_8 : Int → Int) (M_with_9 : Int → Int) (M_masks_10 : Int → Int) (M_rests_11 : Int → Int) => (c_2 = 0 ∨ c_2 = 1) → ((¬ c_2 = 0 → (∃ Inv_13 : Nat → (Int) → (Int → Int) → (Int → Int) → (Int → Int) → (Int → Int) → Prop, (∃ n_14 : Nat, Inv_13 n_14 (-1) M_safe M_mined M_reach M_more) ∧ ∀ (n_15 : Nat) (x1_18 : Int) (M_safe_19 : Int → Int) (M_mined_20 : Int → Int) (M_reach_21 : Int → Int) (M_more_22 : Int → Int), inR x1_18 → Inv_13 n_15 x1_18 M_safe_19 M_mined_20 M_reach_21 M_more_22 → ((M_parts_3 ≤ x1_18 → (post M_parts_3 M_numbers_4 M_safe_19 M_mined_20 M_used_1 M_partOf_5 M_placeOf_6 M_partSize_7 M_ways_8 M_with_9 M_masks_10 M_rests_11 M_reach_21 M_more_22)) ∧ (¬ M_parts_3 ≤ x1_18 → (P_X12_findReach (fun (M_reach_25 : Int → Int) (M_more_26 : Int → Int) => (∃ Inv_27 : Nat → (Int) → (Int → Int) → (Int → Int) → Prop, (∃ n_28 : Nat, Inv_27 n_28 0 M_safe_19 M_mined_20) ∧ ∀ (n_29 : Nat) (x2_32 : Int) (M_safe_33 : Int → Int) (M_mined_34 : Int → Int), inR x2_32 → Inv_27 n_29 x2_32 M_safe_33 M_mined_34 → ((M_cells ≤ x2_32 → (inR (x1_18 + 1) ∧ (∀ x1_38 : Int, x1_38 = (x1_18 + 1) → (∃ n_39 : Nat, n_39 < n_15 ∧ Inv_13 n_39 x1_38 M_safe_33 M_mined_34 M_reach_25 M_more_26)))) ∧ (¬ M_cells ≤ x2_32 → (P_X12_isUnknown (fun (c_40 : Int) => (c_40 = 0 ∨ c_40 = 1) → (∃ J_41 : (Int → Int) → (Int → Int) → Prop, ((c_40 = 0 → (J_41 M_safe_33 M_mined_34)) ∧ (¬ c_40 = 0 → ((0 ≤ x2_32 ∧ x2_32 < 144) ∧ (∀ v_50 : Int, v_50 = M_partOf_5 x2_32 → inR v_50 → ((¬ v_50 = x1_18 → (J_41 M_safe_33 M_mined_34)) ∧ (v_50 = x1_18 → ((0 ≤ x2_32 ∧ x2_32 < 144) ∧ (∀ v_53 : Int, v_53 = M_safe_33 x2_32 → (v_53 = 0 ∨ v_53 = 1) → (∃ J_54 : (Int) → Prop, (∃ J_73 : Prop, ((¬ v_53 = 0 → (J_73)) ∧ (v_53 = 0 → (P_X12_hasWay (fun (c_76 : Int) => (c_76 = 0 ∨ c_76 = 1) → ((¬ c_76 = 0 → (J_54 0)) ∧ (c_76 = 0 → (J_73)))) M_cells M_mine M_state M_partOf_5 M_placeOf_6 M_partSize_7 M_ways_8 M_with_9 M_reach_25 x2_32 1 1))) ∧ (J_73 → (J_54 1))) ∧ (∀ (z_56 : Int), inR z_56 → J_54 z_56 → ((0 ≤ x2_32 ∧ x2_32 < 144) ∧ ((z_56 = 0 ∨ z_56 = 1) ∧ (∀ M_safe_59 : Int → Int, M_safe_59 = upZ M_safe_33 x2_32 z_56 → ((0 ≤ x2_32 ∧ x2_32 < 144) ∧ (∀ v_61 : Int, v_61 = M_mined_34 x2_32 → (v_61 = 0 ∨ v_61 = 1) → (∃ J_62 : (Int) → Prop, (∃ J_68 : Prop, ((¬ v_61 = 0 → (J_68)) ∧ (v_61 = 0 → (P_X12_hasWay (fun (c_71 : Int) => (c_71 = 0 ∨ c_71 = 1) → ((¬ c_71 = 0 → (J_62 0)) ∧ (c_71 = 0 → (J_68)))) M_cells M_mine M_state M_partOf_5 M_placeOf_6 M_partSize_7 M_ways_8 M_with_9 M_reach_25 x2_32 0 1))) ∧ (J_68 → (J_62 1))) ∧ (∀ (z_64 : Int), inR z_64 → J_62 z_64 → ((0 ≤ x2_32 ∧ x2_32 < 144) ∧ ((z_64 = 0 ∨ z_64 = 1) ∧ (∀ M_mined_67 : Int → Int, M_mined_67 = upZ M_mined_34 x2_32 z_64 → (J_41 M_safe_59 M_mined_67))))))))))))))))))))) ∧ (∀ (M_safe_43 : Int → Int) (M_mined_44 : Int → Int), J_41 M_safe_43 M_mined_44 → (inR (x2_32 + 1) ∧ (∀ x2_46 : Int, x2_46 = (x2_32 + 1) → (∃ n_47 : Nat, n_47 < n_29 ∧ Inv_27 n_47 x2_46 M_safe_43 M_mined_44)))))) M_state x2_32))))) M_parts_3 M_partSize_7 M_ways_8 M_reach_21 M_more_22 x1_18))))) ∧ (c_2 = 0 → (post M_parts_3 M_numbers_4 M_safe M_mined M_used_1 M_partOf_5 M_placeOf_6 M_partSize_7 M_ways_8 M_with_9 M_masks_10 M_rests_11 M_reach M_more)))) M_cells M_parts M_numbers M_near M_degree M_mine M_state M_used_1 M_partOf M_placeOf M_partSize M_ways M_with M_masks M_rests M_bits )) M_cells M_near M_degree M_state M_used 
set_option maxRecDepth 100000 in
set_option maxHeartbeats 4000000 in
theorem c_X12_findByAll (l : Launch) (K : wK) (ad : Nat → Nat) {M_thrown : Int} {M_w : Int} {M_h : Int} {M_cells : Int} {M_shape : Int} {M_isBoard : Int} {M_isBlank : Int} {M_lives : Int} {M_moves : Int} {M_parts : Int} {M_numbers : Int} {M_grade : Int} {M_reasons : Int} {M_total : Int} {M_near : Int → Int} {M_degree : Int → Int} {M_mine : Int → Int} {M_state : Int → Int} {M_history : Int → Int64} {M_oldLives : Int → Int} {M_safe : Int → Int} {M_mined : Int → Int} {M_used : Int → Int} {M_partOf : Int → Int} {M_placeOf : Int → Int} {M_partSize : Int → Int} {M_ways : Int → Int} {M_with : Int → Int} {M_masks : Int → Int} {M_rests : Int → Int} {M_bits : Int → Int} {M_reach : Int → Int} {M_more : Int → Int} {M_reason : Int → Int} {M_big : Int → Int64} {M_region : Int → Int}   (post : (Int) → (Int) → (Int → Int) → (Int → Int) → (Int → Int) → (Int → Int) → (Int → Int) → (Int → Int) → (Int → Int) → (Int → Int) → (Int → Int) → (Int → Int) → (Int → Int) → (Int → Int) → Prop) (h : P_X12_findByAll post M_cells M_parts M_numbers M_near M_degree M_mine M_state M_safe M_mined M_used M_partOf M_placeOf M_partSize M_ways M_with M_masks M_rests M_bits M_reach M_more) : mV l yX12_findByAll (Cond.code yX12_findByAll cX12_findByAll 3 none :: GT) ({ frames := 7, cells := 0, slots := 0, locals := 420 } : Room) [.ref (ad 0)] K ad (mW M_thrown M_w M_h M_cells M_shape M_isBoard M_isBlank M_lives M_moves M_parts M_numbers M_grade M_reasons M_total M_near M_degree M_mine M_state M_history M_oldLives M_safe M_mined M_used M_partOf M_placeOf M_partSize M_ways M_with M_masks M_rests M_bits M_reach M_more M_reason M_big M_region) (fun u9 => ∃ M_parts9 M_numbers9 M_safe9 M_mined9 M_used9 M_partOf9 M_placeOf9 M_partSize9 M_ways9 M_with9 M_masks9 M_rests9 M_reach9 M_more9, u9 = (mW M_thrown M_w M_h M_cells M_shape M_isBoard M_isBlank M_lives M_moves M_parts9 M_numbers9 M_grade M_reasons M_total M_near M_degree M_mine M_state M_history M_oldLives M_safe9 M_mined9 M_used9 M_partOf9 M_placeOf9 M_partSize9 M_ways9 M_with9 M_masks9 M_rests9 M_bits M_reach9 M_more9 M_reason M_big M_region) ∧ post M_parts9 M_numbers9 M_safe9 M_mined9 M_used9 M_partOf9 M_placeOf9 M_partSize9 M_ways9 M_with9 M_masks9 M_rests9 M_reach9 M_more9) := by
  refine mV_of (lv0 := [(0, .ref (ad 0))]) (by decide) (Nat.le_of_ble_eq_true rfl) rfl ?_
  intro p e s m args below meth c Q A C ret
  replace C : Cx p ({ frames := 7, cells := 0, slots := 0, locals := 420 } : Room) m c 0 0 cX12_findByAll 3 s args RX12 K A := C
  unfold P_X12_findByAll at h
  refine wa_aload_n C 0 rfl dX12_findByAll_0 rfl ?_
  refine wa_callVv C (k := 0) (As := []) (rest := []) (c_X12_useAll l K ad  _ h) gw_1463 gw_1460 mW_0 rfl gw_1462 gs_76 gw_12 q_X12_useAll rfl rfl rfl ⟨by decide, by decide⟩ rfl (Nat.le_of_ble_eq_true rfl) dX12_findByAll_1 (fun u9 hp => ?_)
  obtain ⟨M_used_1, rfl, h⟩ := hp
  refine wa_aload_n C 0 rfl dX12_findByAll_4 rfl ?_
  refine wa_callVi C (k := 0) (As := []) (rest := []) (c_X12_countParts l K ad  _ h) gw_1467 gw_1464 mW_0 rfl gw_1466 gs_77 gw_12 q_X12_countParts rfl rfl rfl ⟨by decide, by decide⟩ rfl (Nat.le_of_ble_eq_true rfl) dX12_findByAll_5 (fun c_2 u9 rc_2 hp => ?_)
  obtain ⟨bc_2, M_parts_3, M_numbers_4, M_partOf_5, M_placeOf_6, M_partSize_7, M_ways_8, M_with_9, M_masks_10, M_rests_11, rfl, h⟩ := hp
  replace h := h bc_2
  refine wa_if_ne C (tgt := 12) (inR_b bc_2) dX12_findByAll_8 (by decide) (fun c_12 => ?_) (fun c_12 => ?_)
  · replace h := h.1 c_12
    refine wa_iconst C (z := -1) dX12_findByAll_12 rfl ?_
    refine wa_istore_n C dX12_findByAll_13 rfl (by decide) rfl ?_
    obtain ⟨Inv_13, ⟨n_14, h0Inv_13⟩, hInv_13⟩ := h
    have k_17 : ∀ (n_15 : Nat) (x1_18 : Int) (M_safe_19 : Int → Int) (M_mined_20 : Int → Int) (M_reach_21 : Int → Int) (M_more_22 : Int → Int), inR x1_18 → Inv_13 n_15 x1_18 M_safe_19 M_mined_20 M_reach_21 M_more_22 → WA p l e ({ frames := 7, cells := 0, slots := 0, locals := 420 } : Room) s m args below meth c 0 0 Q K ad 3 A 14 [(0, .ref (ad 0)), (1, .int (iI x1_18))] [] (mW M_thrown M_w M_h M_cells M_shape M_isBoard M_isBlank M_lives M_moves M_parts_3 M_numbers_4 M_grade M_reasons M_total M_near M_degree M_mine M_state M_history M_oldLives M_safe_19 M_mined_20 M_used_1 M_partOf_5 M_placeOf_6 M_partSize_7 M_ways_8 M_with_9 M_masks_10 M_rests_11 M_bits M_reach_21 M_more_22 M_reason M_big M_region) := by
      intro n_15
      induction n_15 using Nat.strongRecOn with
      | ind n_15 ih_16 =>
        intro x1_18 M_safe_19 M_mined_20 M_reach_21 M_more_22 rx1_18 h
        replace h := hInv_13 n_15 x1_18 M_safe_19 M_mined_20 M_reach_21 M_more_22 rx1_18 h
        refine wa_iload_n C 1 rfl dX12_findByAll_14 rfl ?_
        refine wa_aload_n C 0 rfl dX12_findByAll_15 rfl ?_
        refine wa_getI C 0 20 mW_0 rfl rfl (by decide) okX12 gw_1252 dX12_findByAll_16 (fun r_23 => ?_)
        refine wa_icmp_ge C (tgt := 127) rx1_18 r_23 dX12_findByAll_19 (by decide) (fun c_24 => ?_) (fun c_24 => ?_)
        · replace h := h.1 c_24
          exact ret dX12_findByAll_127 ⟨_, _, _, _, _, _, _, _, _, _, _, _, _, _, rfl, h⟩
        · replace h := h.2 c_24
          refine wa_aload_n C 0 rfl dX12_findByAll_22 rfl ?_
          refine wa_iload_n C 1 rfl dX12_findByAll_23 rfl ?_
          refine wa_callVv C (k := 0) (As := [.int (iI x1_18)]) (rest := []) (c_X12_findReach l K ad x1_18 rx1_18 _ h) gw_1491 gw_1488 mW_0 rfl gw_1490 gs_83 gw_12 q_X12_findReach rfl rfl rfl ⟨by decide, by decide⟩ rfl (Nat.le_of_ble_eq_true rfl) dX12_findByAll_24 (fun u9 hp => ?_)
          obtain ⟨M_reach_25, M_more_26, rfl, h⟩ := hp
          refine wa_iconst C (z := 0) dX12_findByAll_27 rfl ?_
          refine wa_istore_n C dX12_findByAll_28 rfl (by decide) rfl ?_
          obtain ⟨Inv_27, ⟨n_28, h0Inv_27⟩, hInv_27⟩ := h
          have k_31 : ∀ (n_29 : Nat) (x2_32 : Int) (M_safe_33 : Int → Int) (M_mined_34 : Int → Int), inR x2_32 → Inv_27 n_29 x2_32 M_safe_33 M_mined_34 → WA p l e ({ frames := 7, cells := 0, slots := 0, locals := 420 } : Room) s m args below meth c 0 0 Q K ad 3 A 29 [(0, .ref (ad 0)), (1, .int (iI x1_18)), (2, .int (iI x2_32))] [] (mW M_thrown M_w M_h M_cells M_shape M_isBoard M_isBlank M_lives M_moves M_parts_3 M_numbers_4 M_grade M_reasons M_total M_near M_degree M_mine M_state M_history M_oldLives M_safe_33 M_mined_34 M_used_1 M_partOf_5 M_placeOf_6 M_partSize_7 M_ways_8 M_with_9 M_masks_10 M_rests_11 M_bits M_reach_25 M_more_26 M_reason M_big M_region) := by
            intro n_29
            induction n_29 using Nat.strongRecOn with
            | ind n_29 ih_30 =>
              intro x2_32 M_safe_33 M_mined_34 rx2_32 h
              replace h := hInv_27 n_29 x2_32 M_safe_33 M_mined_34 rx2_32 h
              refine wa_iload_n C 2 rfl dX12_findByAll_29 rfl ?_
              refine wa_aload_n C 0 rfl dX12_findByAll_30 rfl ?_
              refine wa_getI C 0 3 mW_0 rfl rfl (by decide) okX12 gw_1235 dX12_findByAll_31 (fun r_35 => ?_)
              refine wa_icmp_ge C (tgt := 121) rx2_32 r_35 dX12_findByAll_34 (by decide) (fun c_36 => ?_) (fun c_36 => ?_)
              · replace h := h.1 c_36
                obtain ⟨r_37, h⟩ := h
                refine wa_iinc C (lv' := fun w9 => [(1, .int (iI w9)), (0, .ref (ad 0)), (2, .int (iI x2_32))]) 1 rfl dX12_findByAll_121 (by decide) (fun _ => rfl) (fun x1_38 ex1_38 => ?_)
                replace h := h x1_38 ex1_38
                have rx1_38 : inR x1_38 := by rw [ex1_38]; exact r_37
                refine wa_goto C (tgt := 14) dX12_findByAll_124 (by decide) ?_
                obtain ⟨n_39, ln_39, h⟩ := h
                refine wa_sub C [1, 0] rfl ?_
                exact ih_16 n_39 ln_39 x1_38 M_safe_33 M_mined_34 M_reach_25 M_more_26 rx1_38 h
              · replace h := h.2 c_36
                refine wa_aload_n C 0 rfl dX12_findByAll_37 rfl ?_
                refine wa_iload_n C 2 rfl dX12_findByAll_38 rfl ?_
                refine wa_callVi C (k := 0) (As := [.int (iI x2_32)]) (rest := []) (c_X12_isUnknown l K ad x2_32 rx2_32 _ h) gw_1411 gw_1408 mW_0 rfl gw_1410 gs_63 gw_12 q_X12_isUnknown rfl rfl rfl ⟨by decide, by decide⟩ rfl (Nat.le_of_ble_eq_true rfl) dX12_findByAll_39 (fun c_40 u9 rc_40 hp => ?_)
                obtain ⟨bc_40, rfl, h⟩ := hp
                replace h := h bc_40
                obtain ⟨J_41, h, hJ_41⟩ := h
                have k_42 : ∀ (M_safe_43 : Int → Int) (M_mined_44 : Int → Int), J_41 M_safe_43 M_mined_44 → WA p l e ({ frames := 7, cells := 0, slots := 0, locals := 420 } : Room) s m args below meth c 0 0 Q K ad 3 A 115 [(0, .ref (ad 0)), (1, .int (iI x1_18)), (2, .int (iI x2_32))] [] (mW M_thrown M_w M_h M_cells M_shape M_isBoard M_isBlank M_lives M_moves M_parts_3 M_numbers_4 M_grade M_reasons M_total M_near M_degree M_mine M_state M_history M_oldLives M_safe_43 M_mined_44 M_used_1 M_partOf_5 M_placeOf_6 M_partSize_7 M_ways_8 M_with_9 M_masks_10 M_rests_11 M_bits M_reach_25 M_more_26 M_reason M_big M_region) := by
                  intro M_safe_43 M_mined_44 h
                  replace h := hJ_41 M_safe_43 M_mined_44 h
                  obtain ⟨r_45, h⟩ := h
                  refine wa_iinc C (lv' := fun w9 => [(2, .int (iI w9)), (0, .ref (ad 0)), (1, .int (iI x1_18))]) 2 rfl dX12_findByAll_115 (by decide) (fun _ => rfl) (fun x2_46 ex2_46 => ?_)
                  replace h := h x2_46 ex2_46
                  have rx2_46 : inR x2_46 := by rw [ex2_46]; exact r_45
                  refine wa_goto C (tgt := 29) dX12_findByAll_118 (by decide) ?_
                  obtain ⟨n_47, ln_47, h⟩ := h
                  refine wa_sub C [1, 2, 0] rfl ?_
                  exact ih_30 n_47 ln_47 x2_46 M_safe_43 M_mined_44 rx2_46 h
                refine wa_if_eq C (tgt := 115) (inR_b bc_40) dX12_findByAll_42 (by decide) (fun c_48 => ?_) (fun c_48 => ?_)
                · replace h := h.1 c_48
                  refine wa_sub C [0, 1, 2] rfl ?_
                  exact k_42 M_safe_33 M_mined_34 h
                · replace h := h.2 c_48
                  refine wa_aload_n C 0 rfl dX12_findByAll_45 rfl ?_
                  refine wa_getR C 0 18 mW_0 rfl rfl (by decide) okX12 gw_1250 dX12_findByAll_46 ?_
                  refine wa_iload_n C 2 rfl dX12_findByAll_49 rfl ?_
                  obtain ⟨t_49, h⟩ := h
                  refine wa_iald C 10 mW_10 dX12_findByAll_50 t_49.1 t_49.2 (fun v_50 ev_50 rv_50 => ?_)
                  replace h := h v_50 ev_50 rv_50
                  refine wa_iload_n C 1 rfl dX12_findByAll_51 rfl ?_
                  refine wa_icmp_ne C (tgt := 115) rv_50 rx1_18 dX12_findByAll_52 (by decide) (fun c_51 => ?_) (fun c_51 => ?_)
                  · replace h := h.1 c_51
                    refine wa_sub C [0, 1, 2] rfl ?_
                    exact k_42 M_safe_33 M_mined_34 h
                  · replace h := h.2 c_51
                    refine wa_aload_n C 0 rfl dX12_findByAll_55 rfl ?_
                    refine wa_getR C 0 15 mW_0 rfl rfl (by decide) okX12 gw_1247 dX12_findByAll_56 ?_
                    refine wa_iload_n C 2 rfl dX12_findByAll_59 rfl ?_
                    refine wa_aload_n C 0 rfl dX12_findByAll_60 rfl ?_
                    refine wa_getR C 0 15 mW_0 rfl rfl (by decide) okX12 gw_1247 dX12_findByAll_61 ?_
                    refine wa_iload_n C 2 rfl dX12_findByAll_64 rfl ?_
                    obtain ⟨t_52, h⟩ := h
                    refine wa_bald C 7 mW_7 dX12_findByAll_65 t_52.1 t_52.2 (fun v_53 ev_53 rv_53 => ?_)
                    replace h := h v_53 ev_53 rv_53
                    obtain ⟨J_54, h, hJ_54⟩ := h
                    have k_55 : ∀ (z_56 : Int), inR z_56 → J_54 z_56 → WA p l e ({ frames := 7, cells := 0, slots := 0, locals := 420 } : Room) s m args below meth c 0 0 Q K ad 3 A 84 [(0, .ref (ad 0)), (1, .int (iI x1_18)), (2, .int (iI x2_32))] [.int (iI z_56), .int (iI x2_32), .ref (ad 7)] (mW M_thrown M_w M_h M_cells M_shape M_isBoard M_isBlank M_lives M_moves M_parts_3 M_numbers_4 M_grade M_reasons M_total M_near M_degree M_mine M_state M_history M_oldLives M_safe_33 M_mined_34 M_used_1 M_partOf_5 M_placeOf_6 M_partSize_7 M_ways_8 M_with_9 M_masks_10 M_rests_11 M_bits M_reach_25 M_more_26 M_reason M_big M_region) := by
                      intro z_56 rz_56 h
                      replace h := hJ_54 z_56 rz_56 h
                      obtain ⟨t_57, h⟩ := h
                      obtain ⟨b_58, h⟩ := h
                      refine wa_bast C (ws' := fun w9 => (mW M_thrown M_w M_h M_cells M_shape M_isBoard M_isBlank M_lives M_moves M_parts_3 M_numbers_4 M_grade M_reasons M_total M_near M_degree M_mine M_state M_history M_oldLives w9 M_mined_34 M_used_1 M_partOf_5 M_placeOf_6 M_partSize_7 M_ways_8 M_with_9 M_masks_10 M_rests_11 M_bits M_reach_25 M_more_26 M_reason M_big M_region)) 7 mW_7 dX12_findByAll_84 t_57.1 t_57.2 b_58 mWs_7 (fun M_safe_59 eM_safe_59 => ?_)
                      replace h := h M_safe_59 eM_safe_59
                      refine wa_aload_n C 0 rfl dX12_findByAll_85 rfl ?_
                      refine wa_getR C 0 16 mW_0 rfl rfl (by decide) okX12 gw_1248 dX12_findByAll_86 ?_
                      refine wa_iload_n C 2 rfl dX12_findByAll_89 rfl ?_
                      refine wa_aload_n C 0 rfl dX12_findByAll_90 rfl ?_
                      refine wa_getR C 0 16 mW_0 rfl rfl (by decide) okX12 gw_1248 dX12_findByAll_91 ?_
                      refine wa_iload_n C 2 rfl dX12_findByAll_94 rfl ?_
                      obtain ⟨t_60, h⟩ := h
                      refine wa_bald C 8 mW_8 dX12_findByAll_95 t_60.1 t_60.2 (fun v_61 ev_61 rv_61 => ?_)
                      replace h := h v_61 ev_61 rv_61
                      obtain ⟨J_62, h, hJ_62⟩ := h
                      have k_63 : ∀ (z_64 : Int), inR z_64 → J_62 z_64 → WA p l e ({ frames := 7, cells := 0, slots := 0, locals := 420 } : Room) s m args below meth c 0 0 Q K ad 3 A 114 [(0, .ref (ad 0)), (1, .int (iI x1_18)), (2, .int (iI x2_32))] [.int (iI z_64), .int (iI x2_32), .ref (ad 8)] (mW M_thrown M_w M_h M_cells M_shape M_isBoard M_isBlank M_lives M_moves M_parts_3 M_numbers_4 M_grade M_reasons M_total M_near M_degree M_mine M_state M_history M_oldLives M_safe_59 M_mined_34 M_used_1 M_partOf_5 M_placeOf_6 M_partSize_7 M_ways_8 M_with_9 M_masks_10 M_rests_11 M_bits M_reach_25 M_more_26 M_reason M_big M_region) := by
                        intro z_64 rz_64 h
                        replace h := hJ_62 z_64 rz_64 h
                        obtain ⟨t_65, h⟩ := h
                        obtain ⟨b_66, h⟩ := h
                        refine wa_bast C (ws' := fun w9 => (mW M_thrown M_w M_h M_cells M_shape M_isBoard M_isBlank M_lives M_moves M_parts_3 M_numbers_4 M_grade M_reasons M_total M_near M_degree M_mine M_state M_history M_oldLives M_safe_59 w9 M_used_1 M_partOf_5 M_placeOf_6 M_partSize_7 M_ways_8 M_with_9 M_masks_10 M_rests_11 M_bits M_reach_25 M_more_26 M_reason M_big M_region)) 8 mW_8 dX12_findByAll_114 t_65.1 t_65.2 b_66 mWs_8 (fun M_mined_67 eM_mined_67 => ?_)
                        replace h := h M_mined_67 eM_mined_67
                        refine wa_sub C [0, 1, 2] rfl ?_
                        exact k_42 M_safe_59 M_mined_67 h
                      obtain ⟨J_68, h, hJ_68⟩ := h
                      have k_69 : J_68 → WA p l e ({ frames := 7, cells := 0, slots := 0, locals := 420 } : Room) s m args below meth c 0 0 Q K ad 3 A 109 [(0, .ref (ad 0)), (1, .int (iI x1_18)), (2, .int (iI x2_32))] [.int (iI x2_32), .ref (ad 8)] (mW M_thrown M_w M_h M_cells M_shape M_isBoard M_isBlank M_lives M_moves M_parts_3 M_numbers_4 M_grade M_reasons M_total M_near M_degree M_mine M_state M_history M_oldLives M_safe_59 M_mined_34 M_used_1 M_partOf_5 M_placeOf_6 M_partSize_7 M_ways_8 M_with_9 M_masks_10 M_rests_11 M_bits M_reach_25 M_more_26 M_reason M_big M_region) := by
                        intro h
                        replace h := hJ_68 h
                        refine wa_iconst C (z := 1) dX12_findByAll_109 rfl ?_
                        refine wa_goto C (tgt := 114) dX12_findByAll_110 (by decide) ?_
                        refine wa_sub C [0, 1, 2] rfl ?_
                        exact k_63 1 (inR_k 1 rfl) h
                      refine wa_if_ne C (tgt := 109) (inR_b rv_61) dX12_findByAll_96 (by decide) (fun c_70 => ?_) (fun c_70 => ?_)
                      · replace h := h.1 c_70
                        refine wa_sub C [0, 1, 2] rfl ?_
                        exact k_69 h
                      · replace h := h.2 c_70
                        refine wa_aload_n C 0 rfl dX12_findByAll_99 rfl ?_
                        refine wa_iload_n C 2 rfl dX12_findByAll_100 rfl ?_
                        refine wa_iconst C (z := 0) dX12_findByAll_101 rfl ?_
                        refine wa_iconst C (z := 1) dX12_findByAll_102 rfl ?_
                        refine wa_callVi C (k := 0) (As := [.int (iI x2_32), .int (iI 0), .int (iI 1)]) (rest := [.int (iI x2_32), .ref (ad 8)]) (c_X12_hasWay l K ad x2_32 0 1 rx2_32 (Or.inl rfl) (Or.inr rfl) _ h) gw_1495 gw_1492 mW_0 rfl gw_1494 gs_84 gw_12 q_X12_hasWay rfl rfl rfl ⟨by decide, by decide⟩ rfl (Nat.le_of_ble_eq_true rfl) dX12_findByAll_103 (fun c_71 u9 rc_71 hp => ?_)
                        obtain ⟨bc_71, rfl, h⟩ := hp
                        replace h := h bc_71
                        refine wa_if_ne C (tgt := 113) (inR_b bc_71) dX12_findByAll_106 (by decide) (fun c_72 => ?_) (fun c_72 => ?_)
                        · replace h := h.1 c_72
                          refine wa_iconst C (z := 0) dX12_findByAll_113 rfl ?_
                          refine wa_sub C [0, 1, 2] rfl ?_
                          exact k_63 0 (inR_k 0 rfl) h
                        · replace h := h.2 c_72
                          refine wa_sub C [0, 1, 2] rfl ?_
                          exact k_69 h
                    obtain ⟨J_73, h, hJ_73⟩ := h
                    have k_74 : J_73 → WA p l e ({ frames := 7, cells := 0, slots := 0, locals := 420 } : Room) s m args below meth c 0 0 Q K ad 3 A 79 [(0, .ref (ad 0)), (1, .int (iI x1_18)), (2, .int (iI x2_32))] [.int (iI x2_32), .ref (ad 7)] (mW M_thrown M_w M_h M_cells M_shape M_isBoard M_isBlank M_lives M_moves M_parts_3 M_numbers_4 M_grade M_reasons M_total M_near M_degree M_mine M_state M_history M_oldLives M_safe_33 M_mined_34 M_used_1 M_partOf_5 M_placeOf_6 M_partSize_7 M_ways_8 M_with_9 M_masks_10 M_rests_11 M_bits M_reach_25 M_more_26 M_reason M_big M_region) := by
                      intro h
                      replace h := hJ_73 h
                      refine wa_iconst C (z := 1) dX12_findByAll_79 rfl ?_
                      refine wa_goto C (tgt := 84) dX12_findByAll_80 (by decide) ?_
                      refine wa_sub C [0, 1, 2] rfl ?_
                      exact k_55 1 (inR_k 1 rfl) h
                    refine wa_if_ne C (tgt := 79) (inR_b rv_53) dX12_findByAll_66 (by decide) (fun c_75 => ?_) (fun c_75 => ?_)
                    · replace h := h.1 c_75
                      refine wa_sub C [0, 1, 2] rfl ?_
                      exact k_74 h
                    · replace h := h.2 c_75
                      refine wa_aload_n C 0 rfl dX12_findByAll_69 rfl ?_
                      refine wa_iload_n C 2 rfl dX12_findByAll_70 rfl ?_
                      refine wa_iconst C (z := 1) dX12_findByAll_71 rfl ?_
                      refine wa_iconst C (z := 1) dX12_findByAll_72 rfl ?_
                      refine wa_callVi C (k := 0) (As := [.int (iI x2_32), .int (iI 1), .int (iI 1)]) (rest := [.int (iI x2_32), .ref (ad 7)]) (c_X12_hasWay l K ad x2_32 1 1 rx2_32 (Or.inr rfl) (Or.inr rfl) _ h) gw_1495 gw_1492 mW_0 rfl gw_1494 gs_84 gw_12 q_X12_hasWay rfl rfl rfl ⟨by decide, by decide⟩ rfl (Nat.le_of_ble_eq_true rfl) dX12_findByAll_73 (fun c_76 u9 rc_76 hp => ?_)
                      obtain ⟨bc_76, rfl, h⟩ := hp
                      replace h := h bc_76
                      refine wa_if_ne C (tgt := 83) (inR_b bc_76) dX12_findByAll_76 (by decide) (fun c_77 => ?_) (fun c_77 => ?_)
                      · replace h := h.1 c_77
                        refine wa_iconst C (z := 0) dX12_findByAll_83 rfl ?_
                        refine wa_sub C [0, 1, 2] rfl ?_
                        exact k_55 0 (inR_k 0 rfl) h
                      · replace h := h.2 c_77
                        refine wa_sub C [0, 1, 2] rfl ?_
                        exact k_74 h
          refine wa_sub C [1, 2, 0] rfl ?_
          exact k_31 n_28 0 M_safe_19 M_mined_20 (inR_k 0 rfl) h0Inv_27
    refine wa_sub C [1, 0] rfl ?_
    exact k_17 n_14 (-1) M_safe M_mined M_reach M_more (inR_k (-1) rfl) h0Inv_13
  · replace h := h.2 c_12
    exact ret dX12_findByAll_11 ⟨_, _, _, _, _, _, _, _, _, _, _, _, _, _, rfl, h⟩
def P_X12_findUpTo (post : (Int) → (Int) → (Int → Int) → (Int → Int) → (Int → Int) → (Int → Int) → (Int → Int) → (Int → Int) → (Int → Int) → (Int → Int) → (Int → Int) → (Int → Int) → (Int → Int) → (Int → Int) → Prop) (M_w : Int) (M_h : Int) (M_cells : Int) (M_shape : Int) (M_parts : Int) (M_numbers : Int) (M_near : Int → Int) (M_degree : Int → Int) (M_mine : Int → Int) (M_state : Int → Int) (M_safe : Int → Int) (M_mined : Int → Int) (M_used : Int → Int) (M_partOf : Int → Int) (M_placeOf : Int → Int) (M_partSize : Int → Int) (M_ways : Int → Int) (M_with : Int → Int) (M_masks : Int → Int) (M_rests : Int → Int) (M_bits : Int → Int) (M_reach : Int → Int) (M_more : Int → Int) (x1 : Int) : Prop :=
  ∃ J_1 : (Int) → Prop, ((x1 ≤ 1 → (J_1 0)) ∧ (¬ x1 ≤ 1 → (J_1 1))) ∧ (∀ (z_3 : Int), inR z_3 → J_1 z_3 → ((z_3 = 0 ∨ z_3 = 1) ∧ (P_X12_findByRules (fun (M_safe_5 : Int → Int) (M_mined_6 : Int → Int) => ((¬ x1 = 3 → (post M_parts M_numbers M_safe_5 M_mined_6 M_used M_partOf M_placeOf M_partSize M_ways M_with M_masks M_rests M_reach M_more)) ∧ (x1 = 3 → (P_X12_findByAll (fun (M_parts_8 : Int) (M_numbers_9 : Int) (M_safe_10 : Int → Int) (M_mined_11 : Int → Int) (M_used_12 : Int → Int) (M_partOf_13 : Int → Int) (M_placeOf_14 : Int → Int) (M_partSize_15 : Int → Int) (M_ways_16 : Int → Int) (M_with_17 : Int → Int) (M_masks_18 : Int → Int) (M_rests_19 : Int → Int) (M_reach_20 : Int → Int) (M_more_21 : Int → Int) => (post M_parts_8 M_numbers_9 M_safe_10 M_mined_11 M_used_12 M_partOf_13 M_placeOf_14 M_partSize_15 M_ways_16 M_with_17 M_masks_18 M_rests_19 M_reach_20 M_more_21)) M_cells M_parts M_numbers M_near M_degree M_mine M_state M_safe_5 M_mined_6 M_used M_partOf M_placeOf M_partSize M_ways M_with M_masks M_rests M_bits M_reach M_more )))) M_w M_h M_cells M_shape M_near M_degree M_mine M_state M_safe M_mined z_3)))
set_option maxRecDepth 100000 in
set_option maxHeartbeats 4000000 in
theorem c_X12_findUpTo (l : Launch) (K : wK) (ad : Nat → Nat) {M_thrown : Int} {M_w : Int} {M_h : Int} {M_cells : Int} {M_shape : Int} {M_isBoard : Int} {M_isBlank : Int} {M_lives : Int} {M_moves : Int} {M_parts : Int} {M_numbers : Int} {M_grade : Int} {M_reasons : Int} {M_total : Int} {M_near : Int → Int} {M_degree : Int → Int} {M_mine : Int → Int} {M_state : Int → Int} {M_history : Int → Int64} {M_oldLives : Int → Int} {M_safe : Int → Int} {M_mined : Int → Int} {M_used : Int → Int} {M_partOf : Int → Int} {M_placeOf : Int → Int} {M_partSize : Int → Int} {M_ways : Int → Int} {M_with : Int → Int} {M_masks : Int → Int} {M_rests : Int → Int} {M_bits : Int → Int} {M_reach : Int → Int} {M_more : Int → Int} {M_reason : Int → Int} {M_big : Int → Int64} {M_region : Int → Int} (x1 : Int) (rx1 : inR x1) (post : (Int) → (Int) → (Int → Int) → (Int → Int) → (Int → Int) → (Int → Int) → (Int → Int) → (Int → Int) → (Int → Int) → (Int → Int) → (Int → Int) → (Int → Int) → (Int → Int) → (Int → Int) → Prop) (h : P_X12_findUpTo post M_w M_h M_cells M_shape M_parts M_numbers M_near M_degree M_mine M_state M_safe M_mined M_used M_partOf M_placeOf M_partSize M_ways M_with M_masks M_rests M_bits M_reach M_more x1) : mV l yX12_findUpTo (Cond.code yX12_findUpTo cX12_findUpTo 2 none :: GT) ({ frames := 8, cells := 0, slots := 0, locals := 480 } : Room) [.ref (ad 0), .int (iI x1)] K ad (mW M_thrown M_w M_h M_cells M_shape M_isBoard M_isBlank M_lives M_moves M_parts M_numbers M_grade M_reasons M_total M_near M_degree M_mine M_state M_history M_oldLives M_safe M_mined M_used M_partOf M_placeOf M_partSize M_ways M_with M_masks M_rests M_bits M_reach M_more M_reason M_big M_region) (fun u9 => ∃ M_parts9 M_numbers9 M_safe9 M_mined9 M_used9 M_partOf9 M_placeOf9 M_partSize9 M_ways9 M_with9 M_masks9 M_rests9 M_reach9 M_more9, u9 = (mW M_thrown M_w M_h M_cells M_shape M_isBoard M_isBlank M_lives M_moves M_parts9 M_numbers9 M_grade M_reasons M_total M_near M_degree M_mine M_state M_history M_oldLives M_safe9 M_mined9 M_used9 M_partOf9 M_placeOf9 M_partSize9 M_ways9 M_with9 M_masks9 M_rests9 M_bits M_reach9 M_more9 M_reason M_big M_region) ∧ post M_parts9 M_numbers9 M_safe9 M_mined9 M_used9 M_partOf9 M_placeOf9 M_partSize9 M_ways9 M_with9 M_masks9 M_rests9 M_reach9 M_more9) := by
  refine mV_of (lv0 := [(0, .ref (ad 0)), (1, .int (iI x1))]) (by decide) (Nat.le_of_ble_eq_true rfl) rfl ?_
  intro p e s m args below meth c Q A C ret
  replace C : Cx p ({ frames := 8, cells := 0, slots := 0, locals := 480 } : Room) m c 0 0 cX12_findUpTo 2 s args RX12 K A := C
  unfold P_X12_findUpTo at h
  refine wa_aload_n C 0 rfl dX12_findUpTo_0 rfl ?_
  refine wa_iload_n C 1 rfl dX12_findUpTo_1 rfl ?_
  refine wa_iconst C (z := 1) dX12_findUpTo_2 rfl ?_
  obtain ⟨J_1, h, hJ_1⟩ := h
  have k_2 : ∀ (z_3 : Int), inR z_3 → J_1 z_3 → WA p l e ({ frames := 8, cells := 0, slots := 0, locals := 480 } : Room) s m args below meth c 0 0 Q K ad 2 A 11 [(0, .ref (ad 0)), (1, .int (iI x1))] [.int (iI z_3), .ref (ad 0)] (mW M_thrown M_w M_h M_cells M_shape M_isBoard M_isBlank M_lives M_moves M_parts M_numbers M_grade M_reasons M_total M_near M_degree M_mine M_state M_history M_oldLives M_safe M_mined M_used M_partOf M_placeOf M_partSize M_ways M_with M_masks M_rests M_bits M_reach M_more M_reason M_big M_region) := by
    intro z_3 rz_3 h
    replace h := hJ_1 z_3 rz_3 h
    obtain ⟨b_4, h⟩ := h
    refine wa_callVv C (k := 0) (As := [.int (iI z_3)]) (rest := []) (c_X12_findByRules l K ad z_3 b_4 _ h) gw_1419 gw_1416 mW_0 rfl gw_1418 gs_65 gw_12 q_X12_findByRules rfl rfl rfl ⟨by decide, by decide⟩ rfl (Nat.le_of_ble_eq_true rfl) dX12_findUpTo_11 (fun u9 hp => ?_)
    obtain ⟨M_safe_5, M_mined_6, rfl, h⟩ := hp
    refine wa_iload_n C 1 rfl dX12_findUpTo_14 rfl ?_
    refine wa_iconst C (z := 3) dX12_findUpTo_15 rfl ?_
    refine wa_icmp_ne C (tgt := 23) rx1 (inR_k 3 rfl) dX12_findUpTo_16 (by decide) (fun c_7 => ?_) (fun c_7 => ?_)
    · replace h := h.1 c_7
      exact ret dX12_findUpTo_23 ⟨_, _, _, _, _, _, _, _, _, _, _, _, _, _, rfl, h⟩
    · replace h := h.2 c_7
      refine wa_aload_n C 0 rfl dX12_findUpTo_19 rfl ?_
      refine wa_callVv C (k := 0) (As := []) (rest := []) (c_X12_findByAll l K ad  _ h) gw_1459 gw_1456 mW_0 rfl gw_1458 gs_75 gw_12 q_X12_findByAll rfl rfl rfl ⟨by decide, by decide⟩ rfl (Nat.le_of_ble_eq_true rfl) dX12_findUpTo_20 (fun u9 hp => ?_)
      obtain ⟨M_parts_8, M_numbers_9, M_safe_10, M_mined_11, M_used_12, M_partOf_13, M_placeOf_14, M_partSize_15, M_ways_16, M_with_17, M_masks_18, M_rests_19, M_reach_20, M_more_21, rfl, h⟩ := hp
      exact ret dX12_findUpTo_23 ⟨_, _, _, _, _, _, _, _, _, _, _, _, _, _, rfl, h⟩
  refine wa_icmp_le C (tgt := 10) rx1 (inR_k 1 rfl) dX12_findUpTo_3 (by decide) (fun c_22 => ?_) (fun c_22 => ?_)
  · replace h := h.1 c_22
    refine wa_iconst C (z := 0) dX12_findUpTo_10 rfl ?_
    refine wa_sub C [0, 1] rfl ?_
    exact k_2 0 (inR_k 0 rfl) h
  · replace h := h.2 c_22
    refine wa_iconst C (z := 1) dX12_findUpTo_6 rfl ?_
    refine wa_goto C (tgt := 11) dX12_findUpTo_7 (by decide) ?_
    refine wa_sub C [0, 1] rfl ?_
    exact k_2 1 (inR_k 1 rfl) h
