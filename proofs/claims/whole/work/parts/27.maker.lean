theorem dX4_freeCells_0 : decode cX4_freeCells 0 = .ok (.iload_n 0, 1) := by decide +kernel
theorem dX4_freeCells_1 : decode cX4_freeCells 1 = .ok (.iload_n 1, 1) := by decide +kernel
theorem dX4_freeCells_2 : decode cX4_freeCells 2 = .ok (.imul, 1) := by decide +kernel
theorem dX4_freeCells_3 : decode cX4_freeCells 3 = .ok (.iload_n 2, 1) := by decide +kernel
theorem dX4_freeCells_4 : decode cX4_freeCells 4 = .ok (.invokestatic 28, 3) := by decide +kernel
theorem dX4_freeCells_7 : decode cX4_freeCells 7 = .ok (.ifCond .eq 8, 3) := by decide +kernel
theorem dX4_freeCells_10 : decode cX4_freeCells 10 = .ok (.bipush 7, 2) := by decide +kernel
theorem dX4_freeCells_12 : decode cX4_freeCells 12 = .ok (.goto 5, 3) := by decide +kernel
theorem dX4_freeCells_15 : decode cX4_freeCells 15 = .ok (.bipush 9, 2) := by decide +kernel
theorem dX4_freeCells_17 : decode cX4_freeCells 17 = .ok (.isub, 1) := by decide +kernel
theorem dX4_freeCells_18 : decode cX4_freeCells 18 = .ok (.ireturn, 1) := by decide +kernel
theorem dX4_firstCell_0 : decode cX4_firstCell 0 = .ok (.aload_n 0, 1) := by decide +kernel
theorem dX4_firstCell_1 : decode cX4_firstCell 1 = .ok (.getfield 23, 3) := by decide +kernel
theorem dX4_firstCell_4 : decode cX4_firstCell 4 = .ok (.aload_n 0, 1) := by decide +kernel
theorem dX4_firstCell_5 : decode cX4_firstCell 5 = .ok (.getfield 23, 3) := by decide +kernel
theorem dX4_firstCell_8 : decode cX4_firstCell 8 = .ok (.getfield 71, 3) := by decide +kernel
theorem dX4_firstCell_11 : decode cX4_firstCell 11 = .ok (.iconst 2, 1) := by decide +kernel
theorem dX4_firstCell_12 : decode cX4_firstCell 12 = .ok (.idiv, 1) := by decide +kernel
theorem dX4_firstCell_13 : decode cX4_firstCell 13 = .ok (.aload_n 0, 1) := by decide +kernel
theorem dX4_firstCell_14 : decode cX4_firstCell 14 = .ok (.getfield 23, 3) := by decide +kernel
theorem dX4_firstCell_17 : decode cX4_firstCell 17 = .ok (.getfield 74, 3) := by decide +kernel
theorem dX4_firstCell_20 : decode cX4_firstCell 20 = .ok (.iconst 2, 1) := by decide +kernel
theorem dX4_firstCell_21 : decode cX4_firstCell 21 = .ok (.idiv, 1) := by decide +kernel
theorem dX4_firstCell_22 : decode cX4_firstCell 22 = .ok (.invokevirtual 77, 3) := by decide +kernel
theorem dX4_firstCell_25 : decode cX4_firstCell 25 = .ok (.ireturn, 1) := by decide +kernel
theorem dX4_isFree_0 : decode cX4_isFree 0 = .ok (.aload_n 0, 1) := by decide +kernel
theorem dX4_isFree_1 : decode cX4_isFree 1 = .ok (.getfield 13, 3) := by decide +kernel
theorem dX4_isFree_4 : decode cX4_isFree 4 = .ok (.getfield 80, 3) := by decide +kernel
theorem dX4_isFree_7 : decode cX4_isFree 7 = .ok (.iload_n 1, 1) := by decide +kernel
theorem dX4_isFree_8 : decode cX4_isFree 8 = .ok (.baload, 1) := by decide +kernel
theorem dX4_isFree_9 : decode cX4_isFree 9 = .ok (.ifCond .ne 30, 3) := by decide +kernel
theorem dX4_isFree_12 : decode cX4_isFree 12 = .ok (.iload_n 1, 1) := by decide +kernel
theorem dX4_isFree_13 : decode cX4_isFree 13 = .ok (.aload_n 0, 1) := by decide +kernel
theorem dX4_isFree_14 : decode cX4_isFree 14 = .ok (.invokevirtual 84, 3) := by decide +kernel
theorem dX4_isFree_17 : decode cX4_isFree 17 = .ok (.if_icmp .eq 22, 3) := by decide +kernel
theorem dX4_isFree_20 : decode cX4_isFree 20 = .ok (.aload_n 0, 1) := by decide +kernel
theorem dX4_isFree_21 : decode cX4_isFree 21 = .ok (.getfield 23, 3) := by decide +kernel
theorem dX4_isFree_24 : decode cX4_isFree 24 = .ok (.aload_n 0, 1) := by decide +kernel
theorem dX4_isFree_25 : decode cX4_isFree 25 = .ok (.invokevirtual 84, 3) := by decide +kernel
theorem dX4_isFree_28 : decode cX4_isFree 28 = .ok (.iload_n 1, 1) := by decide +kernel
theorem dX4_isFree_29 : decode cX4_isFree 29 = .ok (.invokevirtual 88, 3) := by decide +kernel
theorem dX4_isFree_32 : decode cX4_isFree 32 = .ok (.ifCond .ne 7, 3) := by decide +kernel
theorem dX4_isFree_35 : decode cX4_isFree 35 = .ok (.iconst 1, 1) := by decide +kernel
theorem dX4_isFree_36 : decode cX4_isFree 36 = .ok (.goto 4, 3) := by decide +kernel
theorem dX4_isFree_39 : decode cX4_isFree 39 = .ok (.iconst 0, 1) := by decide +kernel
theorem dX4_isFree_40 : decode cX4_isFree 40 = .ok (.ireturn, 1) := by decide +kernel
theorem dX4_putOnFree_0 : decode cX4_putOnFree 0 = .ok (.iconst 0, 1) := by decide +kernel
theorem dX4_putOnFree_1 : decode cX4_putOnFree 1 = .ok (.istore_n 2, 1) := by decide +kernel
theorem dX4_putOnFree_2 : decode cX4_putOnFree 2 = .ok (.iconst 0, 1) := by decide +kernel
theorem dX4_putOnFree_3 : decode cX4_putOnFree 3 = .ok (.istore_n 3, 1) := by decide +kernel
theorem dX4_putOnFree_4 : decode cX4_putOnFree 4 = .ok (.iload_n 3, 1) := by decide +kernel
theorem dX4_putOnFree_5 : decode cX4_putOnFree 5 = .ok (.aload_n 0, 1) := by decide +kernel
theorem dX4_putOnFree_6 : decode cX4_putOnFree 6 = .ok (.getfield 23, 3) := by decide +kernel
theorem dX4_putOnFree_9 : decode cX4_putOnFree 9 = .ok (.getfield 34, 3) := by decide +kernel
theorem dX4_putOnFree_12 : decode cX4_putOnFree 12 = .ok (.if_icmp .ge 38, 3) := by decide +kernel
theorem dX4_putOnFree_15 : decode cX4_putOnFree 15 = .ok (.aload_n 0, 1) := by decide +kernel
theorem dX4_putOnFree_16 : decode cX4_putOnFree 16 = .ok (.iload_n 3, 1) := by decide +kernel
theorem dX4_putOnFree_17 : decode cX4_putOnFree 17 = .ok (.invokevirtual 38, 3) := by decide +kernel
theorem dX4_putOnFree_20 : decode cX4_putOnFree 20 = .ok (.ifCond .ne 6, 3) := by decide +kernel
theorem dX4_putOnFree_23 : decode cX4_putOnFree 23 = .ok (.goto 21, 3) := by decide +kernel
theorem dX4_putOnFree_26 : decode cX4_putOnFree 26 = .ok (.iload_n 2, 1) := by decide +kernel
theorem dX4_putOnFree_27 : decode cX4_putOnFree 27 = .ok (.iload_n 1, 1) := by decide +kernel
theorem dX4_putOnFree_28 : decode cX4_putOnFree 28 = .ok (.if_icmp .ne 13, 3) := by decide +kernel
theorem dX4_putOnFree_31 : decode cX4_putOnFree 31 = .ok (.aload_n 0, 1) := by decide +kernel
theorem dX4_putOnFree_32 : decode cX4_putOnFree 32 = .ok (.getfield 13, 3) := by decide +kernel
theorem dX4_putOnFree_35 : decode cX4_putOnFree 35 = .ok (.iload_n 3, 1) := by decide +kernel
theorem dX4_putOnFree_36 : decode cX4_putOnFree 36 = .ok (.iconst 1, 1) := by decide +kernel
theorem dX4_putOnFree_37 : decode cX4_putOnFree 37 = .ok (.invokevirtual 92, 3) := by decide +kernel
theorem dX4_putOnFree_40 : decode cX4_putOnFree 40 = .ok (.return_, 1) := by decide +kernel
theorem dX4_putOnFree_41 : decode cX4_putOnFree 41 = .ok (.iinc 2 1, 3) := by decide +kernel
theorem dX4_putOnFree_44 : decode cX4_putOnFree 44 = .ok (.iinc 3 1, 3) := by decide +kernel
theorem dX4_putOnFree_47 : decode cX4_putOnFree 47 = .ok (.goto (-43), 3) := by decide +kernel
theorem dX4_putOnFree_50 : decode cX4_putOnFree 50 = .ok (.return_, 1) := by decide +kernel
theorem dX4_scatter_0 : decode cX4_scatter 0 = .ok (.iconst 0, 1) := by decide +kernel
theorem dX4_scatter_1 : decode cX4_scatter 1 = .ok (.istore_n 3, 1) := by decide +kernel
theorem dX4_scatter_2 : decode cX4_scatter 2 = .ok (.iconst 0, 1) := by decide +kernel
theorem dX4_scatter_3 : decode cX4_scatter 3 = .ok (.istore 4, 2) := by decide +kernel
theorem dX4_scatter_5 : decode cX4_scatter 5 = .ok (.iload 4, 2) := by decide +kernel
theorem dX4_scatter_7 : decode cX4_scatter 7 = .ok (.aload_n 0, 1) := by decide +kernel
theorem dX4_scatter_8 : decode cX4_scatter 8 = .ok (.getfield 23, 3) := by decide +kernel
theorem dX4_scatter_11 : decode cX4_scatter 11 = .ok (.getfield 34, 3) := by decide +kernel
theorem dX4_scatter_14 : decode cX4_scatter 14 = .ok (.if_icmp .ge 21, 3) := by decide +kernel
theorem dX4_scatter_17 : decode cX4_scatter 17 = .ok (.aload_n 0, 1) := by decide +kernel
theorem dX4_scatter_18 : decode cX4_scatter 18 = .ok (.iload 4, 2) := by decide +kernel
theorem dX4_scatter_20 : decode cX4_scatter 20 = .ok (.invokevirtual 38, 3) := by decide +kernel
theorem dX4_scatter_23 : decode cX4_scatter 23 = .ok (.ifCond .eq 6, 3) := by decide +kernel
theorem dX4_scatter_26 : decode cX4_scatter 26 = .ok (.iinc 3 1, 3) := by decide +kernel
theorem dX4_scatter_29 : decode cX4_scatter 29 = .ok (.iinc 4 1, 3) := by decide +kernel
theorem dX4_scatter_32 : decode cX4_scatter 32 = .ok (.goto (-27), 3) := by decide +kernel
theorem dX4_scatter_35 : decode cX4_scatter 35 = .ok (.iload_n 2, 1) := by decide +kernel
theorem dX4_scatter_36 : decode cX4_scatter 36 = .ok (.ldc 41, 2) := by decide +kernel
theorem dX4_scatter_38 : decode cX4_scatter 38 = .ok (.iand, 1) := by decide +kernel
theorem dX4_scatter_39 : decode cX4_scatter 39 = .ok (.istore 4, 2) := by decide +kernel
theorem dX4_scatter_41 : decode cX4_scatter 41 = .ok (.iload_n 1, 1) := by decide +kernel
theorem dX4_scatter_42 : decode cX4_scatter 42 = .ok (.iload_n 3, 1) := by decide +kernel
theorem dX4_scatter_43 : decode cX4_scatter 43 = .ok (.invokestatic 42, 3) := by decide +kernel
theorem dX4_scatter_46 : decode cX4_scatter 46 = .ok (.istore 5, 2) := by decide +kernel
theorem dX4_scatter_48 : decode cX4_scatter 48 = .ok (.iload 5, 2) := by decide +kernel
theorem dX4_scatter_50 : decode cX4_scatter 50 = .ok (.ifCond .le 41, 3) := by decide +kernel
theorem dX4_scatter_53 : decode cX4_scatter 53 = .ok (.iload_n 3, 1) := by decide +kernel
theorem dX4_scatter_54 : decode cX4_scatter 54 = .ok (.ifCond .le 37, 3) := by decide +kernel
theorem dX4_scatter_57 : decode cX4_scatter 57 = .ok (.ldc 48, 2) := by decide +kernel
theorem dX4_scatter_59 : decode cX4_scatter 59 = .ok (.iload 4, 2) := by decide +kernel
theorem dX4_scatter_61 : decode cX4_scatter 61 = .ok (.imul, 1) := by decide +kernel
theorem dX4_scatter_62 : decode cX4_scatter 62 = .ok (.sipush 12345, 3) := by decide +kernel
theorem dX4_scatter_65 : decode cX4_scatter 65 = .ok (.iadd, 1) := by decide +kernel
theorem dX4_scatter_66 : decode cX4_scatter 66 = .ok (.ldc 41, 2) := by decide +kernel
theorem dX4_scatter_68 : decode cX4_scatter 68 = .ok (.iand, 1) := by decide +kernel
theorem dX4_scatter_69 : decode cX4_scatter 69 = .ok (.istore 4, 2) := by decide +kernel
theorem dX4_scatter_71 : decode cX4_scatter 71 = .ok (.aload_n 0, 1) := by decide +kernel
theorem dX4_scatter_72 : decode cX4_scatter 72 = .ok (.iload 4, 2) := by decide +kernel
theorem dX4_scatter_74 : decode cX4_scatter 74 = .ok (.ldc 49, 2) := by decide +kernel
theorem dX4_scatter_76 : decode cX4_scatter 76 = .ok (.idiv, 1) := by decide +kernel
theorem dX4_scatter_77 : decode cX4_scatter 77 = .ok (.iload_n 3, 1) := by decide +kernel
theorem dX4_scatter_78 : decode cX4_scatter 78 = .ok (.irem, 1) := by decide +kernel
theorem dX4_scatter_79 : decode cX4_scatter 79 = .ok (.invokevirtual 50, 3) := by decide +kernel
theorem dX4_scatter_82 : decode cX4_scatter 82 = .ok (.iinc 3 (-1), 3) := by decide +kernel
theorem dX4_scatter_85 : decode cX4_scatter 85 = .ok (.iinc 5 (-1), 3) := by decide +kernel
theorem dX4_scatter_88 : decode cX4_scatter 88 = .ok (.goto (-40), 3) := by decide +kernel
theorem dX4_scatter_91 : decode cX4_scatter 91 = .ok (.return_, 1) := by decide +kernel
theorem dX4_playAnew_0 : decode cX4_playAnew 0 = .ok (.aload_n 0, 1) := by decide +kernel
theorem dX4_playAnew_1 : decode cX4_playAnew 1 = .ok (.getfield 13, 3) := by decide +kernel
theorem dX4_playAnew_4 : decode cX4_playAnew 4 = .ok (.invokevirtual 96, 3) := by decide +kernel
theorem dX4_playAnew_7 : decode cX4_playAnew 7 = .ok (.aload_n 0, 1) := by decide +kernel
theorem dX4_playAnew_8 : decode cX4_playAnew 8 = .ok (.getfield 13, 3) := by decide +kernel
theorem dX4_playAnew_11 : decode cX4_playAnew 11 = .ok (.aload_n 0, 1) := by decide +kernel
theorem dX4_playAnew_12 : decode cX4_playAnew 12 = .ok (.invokevirtual 84, 3) := by decide +kernel
theorem dX4_playAnew_15 : decode cX4_playAnew 15 = .ok (.invokevirtual 99, 3) := by decide +kernel
theorem dX4_playAnew_18 : decode cX4_playAnew 18 = .ok (.return_, 1) := by decide +kernel
theorem dX4_isNextToNumber_0 : decode cX4_isNextToNumber 0 = .ok (.iload_n 1, 1) := by decide +kernel
theorem dX4_isNextToNumber_1 : decode cX4_isNextToNumber 1 = .ok (.bipush 8, 2) := by decide +kernel
theorem dX4_isNextToNumber_3 : decode cX4_isNextToNumber 3 = .ok (.imul, 1) := by decide +kernel
theorem dX4_isNextToNumber_4 : decode cX4_isNextToNumber 4 = .ok (.istore_n 2, 1) := by decide +kernel
theorem dX4_isNextToNumber_5 : decode cX4_isNextToNumber 5 = .ok (.iload_n 2, 1) := by decide +kernel
theorem dX4_isNextToNumber_6 : decode cX4_isNextToNumber 6 = .ok (.aload_n 0, 1) := by decide +kernel
theorem dX4_isNextToNumber_7 : decode cX4_isNextToNumber 7 = .ok (.getfield 23, 3) := by decide +kernel
theorem dX4_isNextToNumber_10 : decode cX4_isNextToNumber 10 = .ok (.getfield 116, 3) := by decide +kernel
theorem dX4_isNextToNumber_13 : decode cX4_isNextToNumber 13 = .ok (.iload_n 1, 1) := by decide +kernel
theorem dX4_isNextToNumber_14 : decode cX4_isNextToNumber 14 = .ok (.iaload, 1) := by decide +kernel
theorem dX4_isNextToNumber_15 : decode cX4_isNextToNumber 15 = .ok (.if_icmp .ge 32, 3) := by decide +kernel
theorem dX4_isNextToNumber_18 : decode cX4_isNextToNumber 18 = .ok (.aload_n 0, 1) := by decide +kernel
theorem dX4_isNextToNumber_19 : decode cX4_isNextToNumber 19 = .ok (.getfield 13, 3) := by decide +kernel
theorem dX4_isNextToNumber_22 : decode cX4_isNextToNumber 22 = .ok (.getfield 119, 3) := by decide +kernel
theorem dX4_isNextToNumber_25 : decode cX4_isNextToNumber 25 = .ok (.aload_n 0, 1) := by decide +kernel
theorem dX4_isNextToNumber_26 : decode cX4_isNextToNumber 26 = .ok (.getfield 23, 3) := by decide +kernel
theorem dX4_isNextToNumber_29 : decode cX4_isNextToNumber 29 = .ok (.getfield 122, 3) := by decide +kernel
theorem dX4_isNextToNumber_32 : decode cX4_isNextToNumber 32 = .ok (.iload_n 2, 1) := by decide +kernel
theorem dX4_isNextToNumber_33 : decode cX4_isNextToNumber 33 = .ok (.iaload, 1) := by decide +kernel
theorem dX4_isNextToNumber_34 : decode cX4_isNextToNumber 34 = .ok (.iaload, 1) := by decide +kernel
theorem dX4_isNextToNumber_35 : decode cX4_isNextToNumber 35 = .ok (.iconst 2, 1) := by decide +kernel
theorem dX4_isNextToNumber_36 : decode cX4_isNextToNumber 36 = .ok (.if_icmp .ne 5, 3) := by decide +kernel
theorem dX4_isNextToNumber_39 : decode cX4_isNextToNumber 39 = .ok (.iconst 1, 1) := by decide +kernel
theorem dX4_isNextToNumber_40 : decode cX4_isNextToNumber 40 = .ok (.ireturn, 1) := by decide +kernel
theorem dX4_isNextToNumber_41 : decode cX4_isNextToNumber 41 = .ok (.iinc 2 1, 3) := by decide +kernel
theorem dX4_isNextToNumber_44 : decode cX4_isNextToNumber 44 = .ok (.goto (-39), 3) := by decide +kernel
theorem dX4_isNextToNumber_47 : decode cX4_isNextToNumber 47 = .ok (.iconst 0, 1) := by decide +kernel
theorem dX4_isNextToNumber_48 : decode cX4_isNextToNumber 48 = .ok (.ireturn, 1) := by decide +kernel
theorem dX4_firstUnknown_0 : decode cX4_firstUnknown 0 = .ok (.iconst 0, 1) := by decide +kernel
theorem dX4_firstUnknown_1 : decode cX4_firstUnknown 1 = .ok (.istore_n 3, 1) := by decide +kernel
theorem dX4_firstUnknown_2 : decode cX4_firstUnknown 2 = .ok (.iload_n 3, 1) := by decide +kernel
theorem dX4_firstUnknown_3 : decode cX4_firstUnknown 3 = .ok (.aload_n 0, 1) := by decide +kernel
theorem dX4_firstUnknown_4 : decode cX4_firstUnknown 4 = .ok (.getfield 23, 3) := by decide +kernel
theorem dX4_firstUnknown_7 : decode cX4_firstUnknown 7 = .ok (.getfield 34, 3) := by decide +kernel
theorem dX4_firstUnknown_10 : decode cX4_firstUnknown 10 = .ok (.if_icmp .ge 44, 3) := by decide +kernel
theorem dX4_firstUnknown_13 : decode cX4_firstUnknown 13 = .ok (.aload_n 0, 1) := by decide +kernel
theorem dX4_firstUnknown_14 : decode cX4_firstUnknown 14 = .ok (.getfield 13, 3) := by decide +kernel
theorem dX4_firstUnknown_17 : decode cX4_firstUnknown 17 = .ok (.iload_n 3, 1) := by decide +kernel
theorem dX4_firstUnknown_18 : decode cX4_firstUnknown 18 = .ok (.invokevirtual 106, 3) := by decide +kernel
theorem dX4_firstUnknown_21 : decode cX4_firstUnknown 21 = .ok (.ifCond .eq 27, 3) := by decide +kernel
theorem dX4_firstUnknown_24 : decode cX4_firstUnknown 24 = .ok (.aload_n 0, 1) := by decide +kernel
theorem dX4_firstUnknown_25 : decode cX4_firstUnknown 25 = .ok (.getfield 13, 3) := by decide +kernel
theorem dX4_firstUnknown_28 : decode cX4_firstUnknown 28 = .ok (.getfield 80, 3) := by decide +kernel
theorem dX4_firstUnknown_31 : decode cX4_firstUnknown 31 = .ok (.iload_n 3, 1) := by decide +kernel
theorem dX4_firstUnknown_32 : decode cX4_firstUnknown 32 = .ok (.baload, 1) := by decide +kernel
theorem dX4_firstUnknown_33 : decode cX4_firstUnknown 33 = .ok (.iload_n 1, 1) := by decide +kernel
theorem dX4_firstUnknown_34 : decode cX4_firstUnknown 34 = .ok (.if_icmp .ne 14, 3) := by decide +kernel
theorem dX4_firstUnknown_37 : decode cX4_firstUnknown 37 = .ok (.aload_n 0, 1) := by decide +kernel
theorem dX4_firstUnknown_38 : decode cX4_firstUnknown 38 = .ok (.iload_n 3, 1) := by decide +kernel
theorem dX4_firstUnknown_39 : decode cX4_firstUnknown 39 = .ok (.invokevirtual 113, 3) := by decide +kernel
theorem dX4_firstUnknown_42 : decode cX4_firstUnknown 42 = .ok (.iload_n 2, 1) := by decide +kernel
theorem dX4_firstUnknown_43 : decode cX4_firstUnknown 43 = .ok (.if_icmp .ne 5, 3) := by decide +kernel
theorem dX4_firstUnknown_46 : decode cX4_firstUnknown 46 = .ok (.iload_n 3, 1) := by decide +kernel
theorem dX4_firstUnknown_47 : decode cX4_firstUnknown 47 = .ok (.ireturn, 1) := by decide +kernel
theorem dX4_firstUnknown_48 : decode cX4_firstUnknown 48 = .ok (.iinc 3 1, 3) := by decide +kernel
theorem dX4_firstUnknown_51 : decode cX4_firstUnknown 51 = .ok (.goto (-49), 3) := by decide +kernel
theorem dX4_firstUnknown_54 : decode cX4_firstUnknown 54 = .ok (.iconst (-1), 1) := by decide +kernel
theorem dX4_firstUnknown_55 : decode cX4_firstUnknown 55 = .ok (.ireturn, 1) := by decide +kernel
theorem dX4_shiftMine_0 : decode cX4_shiftMine 0 = .ok (.aload_n 0, 1) := by decide +kernel
theorem dX4_shiftMine_1 : decode cX4_shiftMine 1 = .ok (.iconst 1, 1) := by decide +kernel
theorem dX4_shiftMine_2 : decode cX4_shiftMine 2 = .ok (.iconst 1, 1) := by decide +kernel
theorem dX4_shiftMine_3 : decode cX4_shiftMine 3 = .ok (.invokevirtual 109, 3) := by decide +kernel
theorem dX4_shiftMine_6 : decode cX4_shiftMine 6 = .ok (.istore_n 1, 1) := by decide +kernel
theorem dX4_shiftMine_7 : decode cX4_shiftMine 7 = .ok (.aload_n 0, 1) := by decide +kernel
theorem dX4_shiftMine_8 : decode cX4_shiftMine 8 = .ok (.iconst 0, 1) := by decide +kernel
theorem dX4_shiftMine_9 : decode cX4_shiftMine 9 = .ok (.iconst 0, 1) := by decide +kernel
theorem dX4_shiftMine_10 : decode cX4_shiftMine 10 = .ok (.invokevirtual 109, 3) := by decide +kernel
theorem dX4_shiftMine_13 : decode cX4_shiftMine 13 = .ok (.istore_n 2, 1) := by decide +kernel
theorem dX4_shiftMine_14 : decode cX4_shiftMine 14 = .ok (.iload_n 1, 1) := by decide +kernel
theorem dX4_shiftMine_15 : decode cX4_shiftMine 15 = .ok (.iconst (-1), 1) := by decide +kernel
theorem dX4_shiftMine_16 : decode cX4_shiftMine 16 = .ok (.if_icmp .eq 8, 3) := by decide +kernel
theorem dX4_shiftMine_19 : decode cX4_shiftMine 19 = .ok (.iload_n 2, 1) := by decide +kernel
theorem dX4_shiftMine_20 : decode cX4_shiftMine 20 = .ok (.iconst (-1), 1) := by decide +kernel
theorem dX4_shiftMine_21 : decode cX4_shiftMine 21 = .ok (.if_icmp .ne 5, 3) := by decide +kernel
theorem dX4_shiftMine_24 : decode cX4_shiftMine 24 = .ok (.iconst 0, 1) := by decide +kernel
theorem dX4_shiftMine_25 : decode cX4_shiftMine 25 = .ok (.ireturn, 1) := by decide +kernel
theorem dX4_shiftMine_26 : decode cX4_shiftMine 26 = .ok (.aload_n 0, 1) := by decide +kernel
theorem dX4_shiftMine_27 : decode cX4_shiftMine 27 = .ok (.getfield 13, 3) := by decide +kernel
theorem dX4_shiftMine_30 : decode cX4_shiftMine 30 = .ok (.iload_n 1, 1) := by decide +kernel
theorem dX4_shiftMine_31 : decode cX4_shiftMine 31 = .ok (.iconst 0, 1) := by decide +kernel
theorem dX4_shiftMine_32 : decode cX4_shiftMine 32 = .ok (.invokevirtual 92, 3) := by decide +kernel
theorem dX4_shiftMine_35 : decode cX4_shiftMine 35 = .ok (.aload_n 0, 1) := by decide +kernel
theorem dX4_shiftMine_36 : decode cX4_shiftMine 36 = .ok (.getfield 13, 3) := by decide +kernel
theorem dX4_shiftMine_39 : decode cX4_shiftMine 39 = .ok (.iload_n 2, 1) := by decide +kernel
theorem dX4_shiftMine_40 : decode cX4_shiftMine 40 = .ok (.iconst 1, 1) := by decide +kernel
theorem dX4_shiftMine_41 : decode cX4_shiftMine 41 = .ok (.invokevirtual 92, 3) := by decide +kernel
theorem dX4_shiftMine_44 : decode cX4_shiftMine 44 = .ok (.iconst 1, 1) := by decide +kernel
theorem dX4_shiftMine_45 : decode cX4_shiftMine 45 = .ok (.ireturn, 1) := by decide +kernel
theorem dX4_uncoverSafe_0 : decode cX4_uncoverSafe 0 = .ok (.iconst 0, 1) := by decide +kernel
theorem dX4_uncoverSafe_1 : decode cX4_uncoverSafe 1 = .ok (.istore_n 1, 1) := by decide +kernel
theorem dX4_uncoverSafe_2 : decode cX4_uncoverSafe 2 = .ok (.iconst 0, 1) := by decide +kernel
theorem dX4_uncoverSafe_3 : decode cX4_uncoverSafe 3 = .ok (.istore_n 2, 1) := by decide +kernel
theorem dX4_uncoverSafe_4 : decode cX4_uncoverSafe 4 = .ok (.iload_n 2, 1) := by decide +kernel
theorem dX4_uncoverSafe_5 : decode cX4_uncoverSafe 5 = .ok (.aload_n 0, 1) := by decide +kernel
theorem dX4_uncoverSafe_6 : decode cX4_uncoverSafe 6 = .ok (.getfield 23, 3) := by decide +kernel
theorem dX4_uncoverSafe_9 : decode cX4_uncoverSafe 9 = .ok (.getfield 34, 3) := by decide +kernel
theorem dX4_uncoverSafe_12 : decode cX4_uncoverSafe 12 = .ok (.if_icmp .ge 43, 3) := by decide +kernel
theorem dX4_uncoverSafe_15 : decode cX4_uncoverSafe 15 = .ok (.aload_n 0, 1) := by decide +kernel
theorem dX4_uncoverSafe_16 : decode cX4_uncoverSafe 16 = .ok (.getfield 24, 3) := by decide +kernel
theorem dX4_uncoverSafe_19 : decode cX4_uncoverSafe 19 = .ok (.getfield 102, 3) := by decide +kernel
theorem dX4_uncoverSafe_22 : decode cX4_uncoverSafe 22 = .ok (.iload_n 2, 1) := by decide +kernel
theorem dX4_uncoverSafe_23 : decode cX4_uncoverSafe 23 = .ok (.iaload, 1) := by decide +kernel
theorem dX4_uncoverSafe_24 : decode cX4_uncoverSafe 24 = .ok (.iconst 1, 1) := by decide +kernel
theorem dX4_uncoverSafe_25 : decode cX4_uncoverSafe 25 = .ok (.if_icmp .ne 24, 3) := by decide +kernel
theorem dX4_uncoverSafe_28 : decode cX4_uncoverSafe 28 = .ok (.aload_n 0, 1) := by decide +kernel
theorem dX4_uncoverSafe_29 : decode cX4_uncoverSafe 29 = .ok (.getfield 13, 3) := by decide +kernel
theorem dX4_uncoverSafe_32 : decode cX4_uncoverSafe 32 = .ok (.iload_n 2, 1) := by decide +kernel
theorem dX4_uncoverSafe_33 : decode cX4_uncoverSafe 33 = .ok (.invokevirtual 106, 3) := by decide +kernel
theorem dX4_uncoverSafe_36 : decode cX4_uncoverSafe 36 = .ok (.ifCond .eq 13, 3) := by decide +kernel
theorem dX4_uncoverSafe_39 : decode cX4_uncoverSafe 39 = .ok (.aload_n 0, 1) := by decide +kernel
theorem dX4_uncoverSafe_40 : decode cX4_uncoverSafe 40 = .ok (.getfield 13, 3) := by decide +kernel
theorem dX4_uncoverSafe_43 : decode cX4_uncoverSafe 43 = .ok (.iload_n 2, 1) := by decide +kernel
theorem dX4_uncoverSafe_44 : decode cX4_uncoverSafe 44 = .ok (.invokevirtual 99, 3) := by decide +kernel
theorem dX4_uncoverSafe_47 : decode cX4_uncoverSafe 47 = .ok (.iconst 1, 1) := by decide +kernel
theorem dX4_uncoverSafe_48 : decode cX4_uncoverSafe 48 = .ok (.istore_n 1, 1) := by decide +kernel
theorem dX4_uncoverSafe_49 : decode cX4_uncoverSafe 49 = .ok (.iinc 2 1, 3) := by decide +kernel
theorem dX4_uncoverSafe_52 : decode cX4_uncoverSafe 52 = .ok (.goto (-48), 3) := by decide +kernel
theorem dX4_uncoverSafe_55 : decode cX4_uncoverSafe 55 = .ok (.iload_n 1, 1) := by decide +kernel
theorem dX4_uncoverSafe_56 : decode cX4_uncoverSafe 56 = .ok (.ireturn, 1) := by decide +kernel
theorem dX4_settle_0 : decode cX4_settle 0 = .ok (.aload_n 0, 1) := by decide +kernel
theorem dX4_settle_1 : decode cX4_settle 1 = .ok (.invokevirtual 54, 3) := by decide +kernel
theorem dX4_settle_4 : decode cX4_settle 4 = .ok (.iconst 0, 1) := by decide +kernel
theorem dX4_settle_5 : decode cX4_settle 5 = .ok (.istore_n 2, 1) := by decide +kernel
theorem dX4_settle_6 : decode cX4_settle 6 = .ok (.iconst 1, 1) := by decide +kernel
theorem dX4_settle_7 : decode cX4_settle 7 = .ok (.istore_n 3, 1) := by decide +kernel
theorem dX4_settle_8 : decode cX4_settle 8 = .ok (.iconst 0, 1) := by decide +kernel
theorem dX4_settle_9 : decode cX4_settle 9 = .ok (.istore 4, 2) := by decide +kernel
theorem dX4_settle_11 : decode cX4_settle 11 = .ok (.iload 4, 2) := by decide +kernel
theorem dX4_settle_13 : decode cX4_settle 13 = .ok (.ldc 57, 2) := by decide +kernel
theorem dX4_settle_15 : decode cX4_settle 15 = .ok (.if_icmp .ge 74, 3) := by decide +kernel
theorem dX4_settle_18 : decode cX4_settle 18 = .ok (.aload_n 0, 1) := by decide +kernel
theorem dX4_settle_19 : decode cX4_settle 19 = .ok (.getfield 13, 3) := by decide +kernel
theorem dX4_settle_22 : decode cX4_settle 22 = .ok (.invokevirtual 58, 3) := by decide +kernel
theorem dX4_settle_25 : decode cX4_settle 25 = .ok (.ifCond .ne 64, 3) := by decide +kernel
theorem dX4_settle_28 : decode cX4_settle 28 = .ok (.iload_n 3, 1) := by decide +kernel
theorem dX4_settle_29 : decode cX4_settle 29 = .ok (.iload_n 1, 1) := by decide +kernel
theorem dX4_settle_30 : decode cX4_settle 30 = .ok (.if_icmp .gt 29, 3) := by decide +kernel
theorem dX4_settle_33 : decode cX4_settle 33 = .ok (.aload_n 0, 1) := by decide +kernel
theorem dX4_settle_34 : decode cX4_settle 34 = .ok (.getfield 24, 3) := by decide +kernel
theorem dX4_settle_37 : decode cX4_settle 37 = .ok (.iload_n 3, 1) := by decide +kernel
theorem dX4_settle_38 : decode cX4_settle 38 = .ok (.invokevirtual 62, 3) := by decide +kernel
theorem dX4_settle_41 : decode cX4_settle 41 = .ok (.aload_n 0, 1) := by decide +kernel
theorem dX4_settle_42 : decode cX4_settle 42 = .ok (.invokevirtual 65, 3) := by decide +kernel
theorem dX4_settle_45 : decode cX4_settle 45 = .ok (.ifCond .eq 7, 3) := by decide +kernel
theorem dX4_settle_48 : decode cX4_settle 48 = .ok (.iconst 1, 1) := by decide +kernel
theorem dX4_settle_49 : decode cX4_settle 49 = .ok (.goto 6, 3) := by decide +kernel
theorem dX4_settle_52 : decode cX4_settle 52 = .ok (.iload_n 3, 1) := by decide +kernel
theorem dX4_settle_53 : decode cX4_settle 53 = .ok (.iconst 1, 1) := by decide +kernel
theorem dX4_settle_54 : decode cX4_settle 54 = .ok (.iadd, 1) := by decide +kernel
theorem dX4_settle_55 : decode cX4_settle 55 = .ok (.istore_n 3, 1) := by decide +kernel
theorem dX4_settle_56 : decode cX4_settle 56 = .ok (.goto 27, 3) := by decide +kernel
theorem dX4_settle_59 : decode cX4_settle 59 = .ok (.iload_n 2, 1) := by decide +kernel
theorem dX4_settle_60 : decode cX4_settle 60 = .ok (.bipush 100, 2) := by decide +kernel
theorem dX4_settle_62 : decode cX4_settle 62 = .ok (.if_icmp .ge 10, 3) := by decide +kernel
theorem dX4_settle_65 : decode cX4_settle 65 = .ok (.aload_n 0, 1) := by decide +kernel
theorem dX4_settle_66 : decode cX4_settle 66 = .ok (.invokevirtual 68, 3) := by decide +kernel
theorem dX4_settle_69 : decode cX4_settle 69 = .ok (.ifCond .ne 5, 3) := by decide +kernel
theorem dX4_settle_72 : decode cX4_settle 72 = .ok (.iconst 0, 1) := by decide +kernel
theorem dX4_settle_73 : decode cX4_settle 73 = .ok (.ireturn, 1) := by decide +kernel
theorem dX4_settle_74 : decode cX4_settle 74 = .ok (.iinc 2 1, 3) := by decide +kernel
theorem dX4_settle_77 : decode cX4_settle 77 = .ok (.aload_n 0, 1) := by decide +kernel
theorem dX4_settle_78 : decode cX4_settle 78 = .ok (.invokevirtual 54, 3) := by decide +kernel
theorem dX4_settle_81 : decode cX4_settle 81 = .ok (.iconst 1, 1) := by decide +kernel
theorem dX4_settle_82 : decode cX4_settle 82 = .ok (.istore_n 3, 1) := by decide +kernel
theorem dX4_settle_83 : decode cX4_settle 83 = .ok (.iinc 4 1, 3) := by decide +kernel
theorem dX4_settle_86 : decode cX4_settle 86 = .ok (.goto (-75), 3) := by decide +kernel
theorem dX4_settle_89 : decode cX4_settle 89 = .ok (.aload_n 0, 1) := by decide +kernel
theorem dX4_settle_90 : decode cX4_settle 90 = .ok (.getfield 13, 3) := by decide +kernel
theorem dX4_settle_93 : decode cX4_settle 93 = .ok (.invokevirtual 58, 3) := by decide +kernel
theorem dX4_settle_96 : decode cX4_settle 96 = .ok (.ireturn, 1) := by decide +kernel
theorem q_X4_freeCells : yX4_freeCells.cls ≠ "java/lang/invoke/MethodHandle" ∧ yX4_freeCells.cls ≠ "java/lang/invoke/VarHandle" ∧ (parseMethodDescriptor yX4_freeCells.desc).map (fun d => d.parameters.length) = some 3 := ⟨by decide, by decide, by decide +kernel⟩
theorem q_X4_firstCell : yX4_firstCell.cls = RX4 ∧ yX4_firstCell.cls ≠ "java/lang/invoke/MethodHandle" ∧ yX4_firstCell.cls ≠ "java/lang/invoke/VarHandle" ∧ (parseMethodDescriptor yX4_firstCell.desc).map (fun d => d.parameters.length) = some 0 := ⟨rfl, by decide, by decide, by decide +kernel⟩
theorem q_X4_isFree : yX4_isFree.cls = RX4 ∧ yX4_isFree.cls ≠ "java/lang/invoke/MethodHandle" ∧ yX4_isFree.cls ≠ "java/lang/invoke/VarHandle" ∧ (parseMethodDescriptor yX4_isFree.desc).map (fun d => d.parameters.length) = some 1 := ⟨rfl, by decide, by decide, by decide +kernel⟩
theorem q_X4_putOnFree : yX4_putOnFree.cls = RX4 ∧ yX4_putOnFree.cls ≠ "java/lang/invoke/MethodHandle" ∧ yX4_putOnFree.cls ≠ "java/lang/invoke/VarHandle" ∧ (parseMethodDescriptor yX4_putOnFree.desc).map (fun d => d.parameters.length) = some 1 := ⟨rfl, by decide, by decide, by decide +kernel⟩
theorem q_X4_scatter : yX4_scatter.cls = RX4 ∧ yX4_scatter.cls ≠ "java/lang/invoke/MethodHandle" ∧ yX4_scatter.cls ≠ "java/lang/invoke/VarHandle" ∧ (parseMethodDescriptor yX4_scatter.desc).map (fun d => d.parameters.length) = some 2 := ⟨rfl, by decide, by decide, by decide +kernel⟩
theorem q_X4_playAnew : yX4_playAnew.cls = RX4 ∧ yX4_playAnew.cls ≠ "java/lang/invoke/MethodHandle" ∧ yX4_playAnew.cls ≠ "java/lang/invoke/VarHandle" ∧ (parseMethodDescriptor yX4_playAnew.desc).map (fun d => d.parameters.length) = some 0 := ⟨rfl, by decide, by decide, by decide +kernel⟩
theorem q_X4_isNextToNumber : yX4_isNextToNumber.cls = RX4 ∧ yX4_isNextToNumber.cls ≠ "java/lang/invoke/MethodHandle" ∧ yX4_isNextToNumber.cls ≠ "java/lang/invoke/VarHandle" ∧ (parseMethodDescriptor yX4_isNextToNumber.desc).map (fun d => d.parameters.length) = some 1 := ⟨rfl, by decide, by decide, by decide +kernel⟩
theorem q_X4_firstUnknown : yX4_firstUnknown.cls = RX4 ∧ yX4_firstUnknown.cls ≠ "java/lang/invoke/MethodHandle" ∧ yX4_firstUnknown.cls ≠ "java/lang/invoke/VarHandle" ∧ (parseMethodDescriptor yX4_firstUnknown.desc).map (fun d => d.parameters.length) = some 2 := ⟨rfl, by decide, by decide, by decide +kernel⟩
theorem q_X4_shiftMine : yX4_shiftMine.cls = RX4 ∧ yX4_shiftMine.cls ≠ "java/lang/invoke/MethodHandle" ∧ yX4_shiftMine.cls ≠ "java/lang/invoke/VarHandle" ∧ (parseMethodDescriptor yX4_shiftMine.desc).map (fun d => d.parameters.length) = some 0 := ⟨rfl, by decide, by decide, by decide +kernel⟩
theorem q_X4_uncoverSafe : yX4_uncoverSafe.cls = RX4 ∧ yX4_uncoverSafe.cls ≠ "java/lang/invoke/MethodHandle" ∧ yX4_uncoverSafe.cls ≠ "java/lang/invoke/VarHandle" ∧ (parseMethodDescriptor yX4_uncoverSafe.desc).map (fun d => d.parameters.length) = some 0 := ⟨rfl, by decide, by decide, by decide +kernel⟩
theorem q_X4_settle : yX4_settle.cls = RX4 ∧ yX4_settle.cls ≠ "java/lang/invoke/MethodHandle" ∧ yX4_settle.cls ≠ "java/lang/invoke/VarHandle" ∧ (parseMethodDescriptor yX4_settle.desc).map (fun d => d.parameters.length) = some 1 := ⟨rfl, by decide, by decide, by decide +kernel⟩
def P_X4_freeCells (post : Int → Prop) (x0 : Int) (x1 : Int) (x2 : Int) : Prop :=
  P_X3_isComb (fun (c_1 : Int) => (c_1 = 0 ∨ c_1 = 1) → (∃ J_2 : (Int) → Prop, ((c_1 = 0 → (J_2 9)) ∧ (¬ c_1 = 0 → (J_2 7))) ∧ (∀ (z_4 : Int), inR z_4 → J_2 z_4 → (inR ((x0 * x1) - z_4) ∧ (post ((x0 * x1) - z_4))))))  x2
set_option maxRecDepth 100000 in
set_option maxHeartbeats 4000000 in
theorem c_X4_freeCells (l : Launch) (K : wK) (ad : Nat → Nat) {D_hasBoard : Int} {D_beganBlank : Int} {F_mines : Int} {F_moves : Int} {F_changes : Int} {G_width : Int} {G_height : Int} {G_size : Int} {B_parts : Int} {B_longest : Int} {S_groups : Int} {S_askedGroup : Int} {S_taken : Int} {R_waitingCount : Int} {R_metCount : Int} {A_grade : Int} {A_cell : Int} {A_mined : Int} {A_withTotal : Int} {A_numbers : Int} {X_low : Int} {X_high : Int} {Y_low : Int} {Y_high : Int} {F_mined : Int → Int} {F_number : Int → Int} {F_state : Int → Int} {F_cellsIn : Int → Int} {F_unknownNear : Int → Int} {F_hitNear : Int → Int} {F_moveStart : Int → Int} {F_changed : Int → Int} {F_waiting : Int → Int} {F_seen : Int → Int} {G_near : Int → Int} {G_nearEnd : Int → Int} {B_chosen : Int → Int} {B_partOf : Int → Int} {B_rest : Int → Int} {B_unknowns : Int → Int} {B_partStart : Int → Int} {B_cells : Int → Int} {S_minedSet : Int → Int} {S_safeSet : Int → Int} {S_partSet : Int → Int} {S_tally : Int → Int} {S_askedTally : Int → Int} {S_groupOf : Int → Int} {S_groupSize : Int → Int} {S_links : Int → Int} {S_linkEnd : Int → Int} {S_pick : Int → Int} {S_groupMinedSet : Int → Int} {S_groupSafeSet : Int → Int} {O_sums : Int → Int64} {O_nextSums : Int → Int64} {R_found : Int → Int} {R_openEnds : Int → Int} {R_need : Int → Int} {R_waiting : Int → Int} {R_waits : Int → Int} {R_common : Int → Int} {R_met : Int → Int} {A_number : Int → Int} {Q_mined : Int → Int64} {Q_all : Int → Int64} {Q_choices : Int → Int64} {Q_term : Int → Int64} {Q_divisor : Int → Int64} {Q_spare : Int → Int64} {X_limbs : Int → Int64} {X_sum : Int → Int64} {Y_limbs : Int → Int64} {Y_sum : Int → Int64} (x0 : Int) (x1 : Int) (x2 : Int) (rx0 : inR x0) (rx1 : inR x1) (rx2 : inR x2) (post : Int → Prop) (h : P_X4_freeCells post x0 x1 x2) : mI l yX4_freeCells (Cond.code yX4_freeCells cX4_freeCells 3 (some .int) :: GT) ({ frames := 3, cells := 0, slots := 0, locals := 180 } : Room) [.int (iI x0), .int (iI x1), .int (iI x2)] K ad (dW D_hasBoard D_beganBlank F_mines F_moves F_changes G_width G_height G_size B_parts B_longest S_groups S_askedGroup S_taken R_waitingCount R_metCount A_grade A_cell A_mined A_withTotal A_numbers X_low X_high Y_low Y_high F_mined F_number F_state F_cellsIn F_unknownNear F_hitNear F_moveStart F_changed F_waiting F_seen G_near G_nearEnd B_chosen B_partOf B_rest B_unknowns B_partStart B_cells S_minedSet S_safeSet S_partSet S_tally S_askedTally S_groupOf S_groupSize S_links S_linkEnd S_pick S_groupMinedSet S_groupSafeSet O_sums O_nextSums R_found R_openEnds R_need R_waiting R_waits R_common R_met A_number Q_mined Q_all Q_choices Q_term Q_divisor Q_spare X_limbs X_sum Y_limbs Y_sum) (fun z9 u9 => u9 = (dW D_hasBoard D_beganBlank F_mines F_moves F_changes G_width G_height G_size B_parts B_longest S_groups S_askedGroup S_taken R_waitingCount R_metCount A_grade A_cell A_mined A_withTotal A_numbers X_low X_high Y_low Y_high F_mined F_number F_state F_cellsIn F_unknownNear F_hitNear F_moveStart F_changed F_waiting F_seen G_near G_nearEnd B_chosen B_partOf B_rest B_unknowns B_partStart B_cells S_minedSet S_safeSet S_partSet S_tally S_askedTally S_groupOf S_groupSize S_links S_linkEnd S_pick S_groupMinedSet S_groupSafeSet O_sums O_nextSums R_found R_openEnds R_need R_waiting R_waits R_common R_met A_number Q_mined Q_all Q_choices Q_term Q_divisor Q_spare X_limbs X_sum Y_limbs Y_sum) ∧ post z9) := by
  refine mI_of (lv0 := [(0, .int (iI x0)), (1, .int (iI x1)), (2, .int (iI x2))]) (by decide) (Nat.le_of_ble_eq_true rfl) rfl ?_
  intro p e s m args below meth c Q A C ret
  replace C : Cx p ({ frames := 3, cells := 0, slots := 0, locals := 180 } : Room) m c 0 0 cX4_freeCells 3 s args RX4 K A := C
  unfold P_X4_freeCells at h
  refine wa_iload_n C 0 rfl dX4_freeCells_0 rfl ?_
  refine wa_iload_n C 1 rfl dX4_freeCells_1 rfl ?_
  refine wa_imul C dX4_freeCells_2 ?_
  refine wa_iload_n C 2 rfl dX4_freeCells_3 rfl ?_
  refine wa_callSi C (As := [.int (iI x2)]) (rest := [.int (iI (x0 * x1))]) (c_X3_isComb l K ad x2 rx2 _ h) gw_499 gw_497 gw_498 gw_3 q_X3_isComb rfl rfl rfl ⟨by decide, by decide⟩ rfl (Nat.le_of_ble_eq_true rfl) dX4_freeCells_4 (fun c_1 u9 rc_1 hp => ?_)
  obtain ⟨bc_1, rfl, h⟩ := hp
  replace h := h bc_1
  obtain ⟨J_2, h, hJ_2⟩ := h
  have k_3 : ∀ (z_4 : Int), inR z_4 → J_2 z_4 → WA p l e ({ frames := 3, cells := 0, slots := 0, locals := 180 } : Room) s m args below meth c 0 0 Q K ad 3 A 17 [] [.int (iI z_4), .int (iI (x0 * x1))] (dW D_hasBoard D_beganBlank F_mines F_moves F_changes G_width G_height G_size B_parts B_longest S_groups S_askedGroup S_taken R_waitingCount R_metCount A_grade A_cell A_mined A_withTotal A_numbers X_low X_high Y_low Y_high F_mined F_number F_state F_cellsIn F_unknownNear F_hitNear F_moveStart F_changed F_waiting F_seen G_near G_nearEnd B_chosen B_partOf B_rest B_unknowns B_partStart B_cells S_minedSet S_safeSet S_partSet S_tally S_askedTally S_groupOf S_groupSize S_links S_linkEnd S_pick S_groupMinedSet S_groupSafeSet O_sums O_nextSums R_found R_openEnds R_need R_waiting R_waits R_common R_met A_number Q_mined Q_all Q_choices Q_term Q_divisor Q_spare X_limbs X_sum Y_limbs Y_sum) := by
    intro z_4 rz_4 h
    replace h := hJ_2 z_4 rz_4 h
    refine wa_isub C dX4_freeCells_17 ?_
    obtain ⟨r_5, h⟩ := h
    exact ret dX4_freeCells_18 r_5 ⟨rfl, h⟩
  refine wa_if_eq C (tgt := 15) (inR_b bc_1) dX4_freeCells_7 (by decide) (fun c_6 => ?_) (fun c_6 => ?_)
  · replace h := h.1 c_6
    refine wa_bipush C (z := 9) dX4_freeCells_15 (by decide) ?_
    refine wa_sub C [] rfl ?_
    exact k_3 9 (inR_k 9 rfl) h
  · replace h := h.2 c_6
    refine wa_bipush C (z := 7) dX4_freeCells_10 (by decide) ?_
    refine wa_goto C (tgt := 17) dX4_freeCells_12 (by decide) ?_
    refine wa_sub C [] rfl ?_
    exact k_3 7 (inR_k 7 rfl) h
def P_X4_firstCell (post : Int → Prop) (G_width : Int) (G_height : Int) : Prop :=
  inR (G_height.tdiv 2) ∧ (inR (G_width.tdiv 2) ∧ (P_X3_cell (fun (c_5 : Int) => inR c_5 → (post c_5)) G_width (G_height.tdiv 2) (G_width.tdiv 2)))
set_option maxRecDepth 100000 in
set_option maxHeartbeats 4000000 in
theorem c_X4_firstCell (l : Launch) (K : wK) (ad : Nat → Nat) {D_hasBoard : Int} {D_beganBlank : Int} {F_mines : Int} {F_moves : Int} {F_changes : Int} {G_width : Int} {G_height : Int} {G_size : Int} {B_parts : Int} {B_longest : Int} {S_groups : Int} {S_askedGroup : Int} {S_taken : Int} {R_waitingCount : Int} {R_metCount : Int} {A_grade : Int} {A_cell : Int} {A_mined : Int} {A_withTotal : Int} {A_numbers : Int} {X_low : Int} {X_high : Int} {Y_low : Int} {Y_high : Int} {F_mined : Int → Int} {F_number : Int → Int} {F_state : Int → Int} {F_cellsIn : Int → Int} {F_unknownNear : Int → Int} {F_hitNear : Int → Int} {F_moveStart : Int → Int} {F_changed : Int → Int} {F_waiting : Int → Int} {F_seen : Int → Int} {G_near : Int → Int} {G_nearEnd : Int → Int} {B_chosen : Int → Int} {B_partOf : Int → Int} {B_rest : Int → Int} {B_unknowns : Int → Int} {B_partStart : Int → Int} {B_cells : Int → Int} {S_minedSet : Int → Int} {S_safeSet : Int → Int} {S_partSet : Int → Int} {S_tally : Int → Int} {S_askedTally : Int → Int} {S_groupOf : Int → Int} {S_groupSize : Int → Int} {S_links : Int → Int} {S_linkEnd : Int → Int} {S_pick : Int → Int} {S_groupMinedSet : Int → Int} {S_groupSafeSet : Int → Int} {O_sums : Int → Int64} {O_nextSums : Int → Int64} {R_found : Int → Int} {R_openEnds : Int → Int} {R_need : Int → Int} {R_waiting : Int → Int} {R_waits : Int → Int} {R_common : Int → Int} {R_met : Int → Int} {A_number : Int → Int} {Q_mined : Int → Int64} {Q_all : Int → Int64} {Q_choices : Int → Int64} {Q_term : Int → Int64} {Q_divisor : Int → Int64} {Q_spare : Int → Int64} {X_limbs : Int → Int64} {X_sum : Int → Int64} {Y_limbs : Int → Int64} {Y_sum : Int → Int64}   (post : Int → Prop) (h : P_X4_firstCell post G_width G_height) : mI l yX4_firstCell (Cond.code yX4_firstCell cX4_firstCell 1 (some .int) :: GT) ({ frames := 3, cells := 0, slots := 0, locals := 180 } : Room) [.ref (ad 11)] K ad (dW D_hasBoard D_beganBlank F_mines F_moves F_changes G_width G_height G_size B_parts B_longest S_groups S_askedGroup S_taken R_waitingCount R_metCount A_grade A_cell A_mined A_withTotal A_numbers X_low X_high Y_low Y_high F_mined F_number F_state F_cellsIn F_unknownNear F_hitNear F_moveStart F_changed F_waiting F_seen G_near G_nearEnd B_chosen B_partOf B_rest B_unknowns B_partStart B_cells S_minedSet S_safeSet S_partSet S_tally S_askedTally S_groupOf S_groupSize S_links S_linkEnd S_pick S_groupMinedSet S_groupSafeSet O_sums O_nextSums R_found R_openEnds R_need R_waiting R_waits R_common R_met A_number Q_mined Q_all Q_choices Q_term Q_divisor Q_spare X_limbs X_sum Y_limbs Y_sum) (fun z9 u9 => u9 = (dW D_hasBoard D_beganBlank F_mines F_moves F_changes G_width G_height G_size B_parts B_longest S_groups S_askedGroup S_taken R_waitingCount R_metCount A_grade A_cell A_mined A_withTotal A_numbers X_low X_high Y_low Y_high F_mined F_number F_state F_cellsIn F_unknownNear F_hitNear F_moveStart F_changed F_waiting F_seen G_near G_nearEnd B_chosen B_partOf B_rest B_unknowns B_partStart B_cells S_minedSet S_safeSet S_partSet S_tally S_askedTally S_groupOf S_groupSize S_links S_linkEnd S_pick S_groupMinedSet S_groupSafeSet O_sums O_nextSums R_found R_openEnds R_need R_waiting R_waits R_common R_met A_number Q_mined Q_all Q_choices Q_term Q_divisor Q_spare X_limbs X_sum Y_limbs Y_sum) ∧ post z9) := by
  refine mI_of (lv0 := [(0, .ref (ad 11))]) (by decide) (Nat.le_of_ble_eq_true rfl) rfl ?_
  intro p e s m args below meth c Q A C ret
  replace C : Cx p ({ frames := 3, cells := 0, slots := 0, locals := 180 } : Room) m c 0 0 cX4_firstCell 1 s args RX4 K A := C
  unfold P_X4_firstCell at h
  refine wa_aload_n C 0 rfl dX4_firstCell_0 rfl ?_
  refine wa_getR C 11 1 dW_11 rfl rfl (by decide) okX4 gw_449 dX4_firstCell_1 ?_
  refine wa_aload_n C 0 rfl dX4_firstCell_4 rfl ?_
  refine wa_getR C 11 1 dW_11 rfl rfl (by decide) okX4 gw_449 dX4_firstCell_5 ?_
  refine wa_getI C 2 1 dW_2 rfl rfl (by decide) okX3 gw_49 dX4_firstCell_8 (fun r_1 => ?_)
  refine wa_iconst C (z := 2) dX4_firstCell_11 rfl ?_
  refine wa_idiv C dX4_firstCell_12 r_1 (inR_k 2 rfl) (by decide) ?_
  refine wa_aload_n C 0 rfl dX4_firstCell_13 rfl ?_
  refine wa_getR C 11 1 dW_11 rfl rfl (by decide) okX4 gw_449 dX4_firstCell_14 ?_
  refine wa_getI C 2 0 dW_2 rfl rfl (by decide) okX3 gw_46 dX4_firstCell_17 (fun r_2 => ?_)
  refine wa_iconst C (z := 2) dX4_firstCell_20 rfl ?_
  refine wa_idiv C dX4_firstCell_21 r_2 (inR_k 2 rfl) (by decide) ?_
  obtain ⟨r_3, h⟩ := h
  obtain ⟨r_4, h⟩ := h
  refine wa_callVi C (k := 2) (As := [.int (iI (G_height.tdiv 2)), .int (iI (G_width.tdiv 2))]) (rest := []) (c_X3_cell l K ad (G_height.tdiv 2) (G_width.tdiv 2) r_3 r_4 _ h) gw_580 gw_618 dW_2 rfl gw_578 gw_579 gw_3 q_X3_cell rfl rfl rfl ⟨by decide, by decide⟩ rfl (Nat.le_of_ble_eq_true rfl) dX4_firstCell_22 (fun c_5 u9 rc_5 hp => ?_)
  obtain ⟨rfl, h⟩ := hp
  replace h := h rc_5
  exact ret dX4_firstCell_25 rc_5 ⟨rfl, h⟩
def P_X4_isFree (post : Int → Prop) (G_width : Int) (G_height : Int) (F_mined : Int → Int) (G_near : Int → Int) (G_nearEnd : Int → Int) (x1 : Int) : Prop :=
  (0 ≤ x1 ∧ x1 < 144) ∧ (∀ v_2 : Int, v_2 = F_mined x1 → (v_2 = 0 ∨ v_2 = 1) → (∃ J_3 : (Int) → Prop, (∃ J_7 : Prop, ((¬ v_2 = 0 → (J_7)) ∧ (v_2 = 0 → (P_X4_firstCell (fun (c_10 : Int) => inR c_10 → ((x1 = c_10 → (J_7)) ∧ (¬ x1 = c_10 → (P_X4_firstCell (fun (c_12 : Int) => inR c_12 → (P_X3_areNear (fun (c_13 : Int) => (c_13 = 0 ∨ c_13 = 1) → ((¬ c_13 = 0 → (J_7)) ∧ (c_13 = 0 → (J_3 1)))) G_near G_nearEnd c_12 x1)) G_width G_height )))) G_width G_height ))) ∧ (J_7 → (J_3 0))) ∧ (∀ (z_5 : Int), inR z_5 → J_3 z_5 → ((z_5 = 0 ∨ z_5 = 1) ∧ (post z_5)))))
set_option maxRecDepth 100000 in
set_option maxHeartbeats 4000000 in
theorem c_X4_isFree (l : Launch) (K : wK) (ad : Nat → Nat) {D_hasBoard : Int} {D_beganBlank : Int} {F_mines : Int} {F_moves : Int} {F_changes : Int} {G_width : Int} {G_height : Int} {G_size : Int} {B_parts : Int} {B_longest : Int} {S_groups : Int} {S_askedGroup : Int} {S_taken : Int} {R_waitingCount : Int} {R_metCount : Int} {A_grade : Int} {A_cell : Int} {A_mined : Int} {A_withTotal : Int} {A_numbers : Int} {X_low : Int} {X_high : Int} {Y_low : Int} {Y_high : Int} {F_mined : Int → Int} {F_number : Int → Int} {F_state : Int → Int} {F_cellsIn : Int → Int} {F_unknownNear : Int → Int} {F_hitNear : Int → Int} {F_moveStart : Int → Int} {F_changed : Int → Int} {F_waiting : Int → Int} {F_seen : Int → Int} {G_near : Int → Int} {G_nearEnd : Int → Int} {B_chosen : Int → Int} {B_partOf : Int → Int} {B_rest : Int → Int} {B_unknowns : Int → Int} {B_partStart : Int → Int} {B_cells : Int → Int} {S_minedSet : Int → Int} {S_safeSet : Int → Int} {S_partSet : Int → Int} {S_tally : Int → Int} {S_askedTally : Int → Int} {S_groupOf : Int → Int} {S_groupSize : Int → Int} {S_links : Int → Int} {S_linkEnd : Int → Int} {S_pick : Int → Int} {S_groupMinedSet : Int → Int} {S_groupSafeSet : Int → Int} {O_sums : Int → Int64} {O_nextSums : Int → Int64} {R_found : Int → Int} {R_openEnds : Int → Int} {R_need : Int → Int} {R_waiting : Int → Int} {R_waits : Int → Int} {R_common : Int → Int} {R_met : Int → Int} {A_number : Int → Int} {Q_mined : Int → Int64} {Q_all : Int → Int64} {Q_choices : Int → Int64} {Q_term : Int → Int64} {Q_divisor : Int → Int64} {Q_spare : Int → Int64} {X_limbs : Int → Int64} {X_sum : Int → Int64} {Y_limbs : Int → Int64} {Y_sum : Int → Int64} (x1 : Int) (rx1 : inR x1) (post : Int → Prop) (h : P_X4_isFree post G_width G_height F_mined G_near G_nearEnd x1) : mI l yX4_isFree (Cond.code yX4_isFree cX4_isFree 2 (some .boolean) :: GT) ({ frames := 4, cells := 0, slots := 0, locals := 240 } : Room) [.ref (ad 11), .int (iI x1)] K ad (dW D_hasBoard D_beganBlank F_mines F_moves F_changes G_width G_height G_size B_parts B_longest S_groups S_askedGroup S_taken R_waitingCount R_metCount A_grade A_cell A_mined A_withTotal A_numbers X_low X_high Y_low Y_high F_mined F_number F_state F_cellsIn F_unknownNear F_hitNear F_moveStart F_changed F_waiting F_seen G_near G_nearEnd B_chosen B_partOf B_rest B_unknowns B_partStart B_cells S_minedSet S_safeSet S_partSet S_tally S_askedTally S_groupOf S_groupSize S_links S_linkEnd S_pick S_groupMinedSet S_groupSafeSet O_sums O_nextSums R_found R_openEnds R_need R_waiting R_waits R_common R_met A_number Q_mined Q_all Q_choices Q_term Q_divisor Q_spare X_limbs X_sum Y_limbs Y_sum) (fun z9 u9 => (z9 = 0 ∨ z9 = 1) ∧ u9 = (dW D_hasBoard D_beganBlank F_mines F_moves F_changes G_width G_height G_size B_parts B_longest S_groups S_askedGroup S_taken R_waitingCount R_metCount A_grade A_cell A_mined A_withTotal A_numbers X_low X_high Y_low Y_high F_mined F_number F_state F_cellsIn F_unknownNear F_hitNear F_moveStart F_changed F_waiting F_seen G_near G_nearEnd B_chosen B_partOf B_rest B_unknowns B_partStart B_cells S_minedSet S_safeSet S_partSet S_tally S_askedTally S_groupOf S_groupSize S_links S_linkEnd S_pick S_groupMinedSet S_groupSafeSet O_sums O_nextSums R_found R_openEnds R_need R_waiting R_waits R_common R_met A_number Q_mined Q_all Q_choices Q_term Q_divisor Q_spare X_limbs X_sum Y_limbs Y_sum) ∧ post z9) := by
  refine mZ_of (lv0 := [(0, .ref (ad 11)), (1, .int (iI x1))]) (by decide) (Nat.le_of_ble_eq_true rfl) rfl ?_
  intro p e s m args below meth c Q A C ret
  replace C : Cx p ({ frames := 4, cells := 0, slots := 0, locals := 240 } : Room) m c 0 0 cX4_isFree 2 s args RX4 K A := C
  unfold P_X4_isFree at h
  refine wa_aload_n C 0 rfl dX4_isFree_0 rfl ?_
  refine wa_getR C 11 0 dW_11 rfl rfl (by decide) okX4 gw_448 dX4_isFree_1 ?_
  refine wa_getR C 1 1 dW_1 rfl rfl (by decide) okX2 gw_91 dX4_isFree_4 ?_
  refine wa_iload_n C 1 rfl dX4_isFree_7 rfl ?_
  obtain ⟨t_1, h⟩ := h
  refine wa_bald C 12 dW_12 dX4_isFree_8 t_1.1 t_1.2 (fun v_2 ev_2 rv_2 => ?_)
  replace h := h v_2 ev_2 rv_2
  obtain ⟨J_3, h, hJ_3⟩ := h
  have k_4 : ∀ (z_5 : Int), inR z_5 → J_3 z_5 → WA p l e ({ frames := 4, cells := 0, slots := 0, locals := 240 } : Room) s m args below meth c 0 0 Q K ad 2 A 40 [] [.int (iI z_5)] (dW D_hasBoard D_beganBlank F_mines F_moves F_changes G_width G_height G_size B_parts B_longest S_groups S_askedGroup S_taken R_waitingCount R_metCount A_grade A_cell A_mined A_withTotal A_numbers X_low X_high Y_low Y_high F_mined F_number F_state F_cellsIn F_unknownNear F_hitNear F_moveStart F_changed F_waiting F_seen G_near G_nearEnd B_chosen B_partOf B_rest B_unknowns B_partStart B_cells S_minedSet S_safeSet S_partSet S_tally S_askedTally S_groupOf S_groupSize S_links S_linkEnd S_pick S_groupMinedSet S_groupSafeSet O_sums O_nextSums R_found R_openEnds R_need R_waiting R_waits R_common R_met A_number Q_mined Q_all Q_choices Q_term Q_divisor Q_spare X_limbs X_sum Y_limbs Y_sum) := by
    intro z_5 rz_5 h
    replace h := hJ_3 z_5 rz_5 h
    obtain ⟨b_6, h⟩ := h
    exact ret dX4_isFree_40 b_6 ⟨b_6, rfl, h⟩
  obtain ⟨J_7, h, hJ_7⟩ := h
  have k_8 : J_7 → WA p l e ({ frames := 4, cells := 0, slots := 0, locals := 240 } : Room) s m args below meth c 0 0 Q K ad 2 A 39 [] [] (dW D_hasBoard D_beganBlank F_mines F_moves F_changes G_width G_height G_size B_parts B_longest S_groups S_askedGroup S_taken R_waitingCount R_metCount A_grade A_cell A_mined A_withTotal A_numbers X_low X_high Y_low Y_high F_mined F_number F_state F_cellsIn F_unknownNear F_hitNear F_moveStart F_changed F_waiting F_seen G_near G_nearEnd B_chosen B_partOf B_rest B_unknowns B_partStart B_cells S_minedSet S_safeSet S_partSet S_tally S_askedTally S_groupOf S_groupSize S_links S_linkEnd S_pick S_groupMinedSet S_groupSafeSet O_sums O_nextSums R_found R_openEnds R_need R_waiting R_waits R_common R_met A_number Q_mined Q_all Q_choices Q_term Q_divisor Q_spare X_limbs X_sum Y_limbs Y_sum) := by
    intro h
    replace h := hJ_7 h
    refine wa_iconst C (z := 0) dX4_isFree_39 rfl ?_
    refine wa_sub C [] rfl ?_
    exact k_4 0 (inR_k 0 rfl) h
  refine wa_if_ne C (tgt := 39) (inR_b rv_2) dX4_isFree_9 (by decide) (fun c_9 => ?_) (fun c_9 => ?_)
  · replace h := h.1 c_9
    refine wa_sub C [] rfl ?_
    exact k_8 h
  · replace h := h.2 c_9
    refine wa_iload_n C 1 rfl dX4_isFree_12 rfl ?_
    refine wa_aload_n C 0 rfl dX4_isFree_13 rfl ?_
    refine wa_callVi C (k := 11) (As := []) (rest := [.int (iI x1)]) (c_X4_firstCell l K ad  _ h) gw_617 gw_614 dW_11 rfl gw_616 gs_4 gw_11 q_X4_firstCell rfl rfl rfl ⟨by decide, by decide⟩ rfl (Nat.le_of_ble_eq_true rfl) dX4_isFree_14 (fun c_10 u9 rc_10 hp => ?_)
    obtain ⟨rfl, h⟩ := hp
    replace h := h rc_10
    refine wa_icmp_eq C (tgt := 39) rx1 rc_10 dX4_isFree_17 (by decide) (fun c_11 => ?_) (fun c_11 => ?_)
    · replace h := h.1 c_11
      refine wa_sub C [] rfl ?_
      exact k_8 h
    · replace h := h.2 c_11
      refine wa_aload_n C 0 rfl dX4_isFree_20 rfl ?_
      refine wa_getR C 11 1 dW_11 rfl rfl (by decide) okX4 gw_449 dX4_isFree_21 ?_
      refine wa_aload_n C 0 rfl dX4_isFree_24 rfl ?_
      refine wa_callVi C (k := 11) (As := []) (rest := [.ref (ad 2)]) (c_X4_firstCell l K ad  _ h) gw_617 gw_614 dW_11 rfl gw_616 gs_4 gw_11 q_X4_firstCell rfl rfl rfl ⟨by decide, by decide⟩ rfl (Nat.le_of_ble_eq_true rfl) dX4_isFree_25 (fun c_12 u9 rc_12 hp => ?_)
      obtain ⟨rfl, h⟩ := hp
      replace h := h rc_12
      refine wa_iload_n C 1 rfl dX4_isFree_28 rfl ?_
      refine wa_callVi C (k := 2) (As := [.int (iI c_12), .int (iI x1)]) (rest := []) (c_X3_areNear l K ad c_12 x1 rc_12 rx1 _ h) gw_622 gw_619 dW_2 rfl gw_620 gw_621 gw_3 q_X3_areNear rfl rfl rfl ⟨by decide, by decide⟩ rfl (Nat.le_of_ble_eq_true rfl) dX4_isFree_29 (fun c_13 u9 rc_13 hp => ?_)
      obtain ⟨bc_13, rfl, h⟩ := hp
      replace h := h bc_13
      refine wa_if_ne C (tgt := 39) (inR_b bc_13) dX4_isFree_32 (by decide) (fun c_14 => ?_) (fun c_14 => ?_)
      · replace h := h.1 c_14
        refine wa_sub C [] rfl ?_
        exact k_8 h
      · replace h := h.2 c_14
        refine wa_iconst C (z := 1) dX4_isFree_35 rfl ?_
        refine wa_goto C (tgt := 40) dX4_isFree_36 (by decide) ?_
        refine wa_sub C [] rfl ?_
        exact k_4 1 (inR_k 1 rfl) h
def P_X4_putOnFree (post : (Int) → (Int → Int) → (Int → Int) → Prop) (F_mines : Int) (G_width : Int) (G_height : Int) (G_size : Int) (F_mined : Int → Int) (F_number : Int → Int) (G_near : Int → Int) (G_nearEnd : Int → Int) (x1 : Int) : Prop :=
  ∃ Inv_1 : Nat → (Int) → (Int) → Prop, (∃ n_2 : Nat, Inv_1 n_2 0 0) ∧ ∀ (n_3 : Nat) (x2_6 : Int) (x3_7 : Int), inR x2_6 → inR x3_7 → Inv_1 n_3 x2_6 x3_7 → ((G_size ≤ x3_7 → (post F_mines F_mined F_number)) ∧ (¬ G_size ≤ x3_7 → (P_X4_isFree (fun (c_10 : Int) => (c_10 = 0 ∨ c_10 = 1) → (∃ J_11 : (Int) → Prop, ((¬ c_10 = 0 → ((¬ x2_6 = x1 → (inR (x2_6 + 1) ∧ (∀ x2_20 : Int, x2_20 = (x2_6 + 1) → (J_11 x2_20)))) ∧ (x2_6 = x1 → (P_X2_setMine (fun (F_mines_21 : Int) (F_mined_22 : Int → Int) (F_number_23 : Int → Int) => (post F_mines_21 F_mined_22 F_number_23)) F_mines F_mined F_number G_near G_nearEnd x3_7 1)))) ∧ (c_10 = 0 → (J_11 x2_6))) ∧ (∀ (x2_13 : Int), inR x2_13 → J_11 x2_13 → (inR (x3_7 + 1) ∧ (∀ x3_15 : Int, x3_15 = (x3_7 + 1) → (∃ n_16 : Nat, n_16 < n_3 ∧ Inv_1 n_16 x2_13 x3_15)))))) G_width G_height F_mined G_near G_nearEnd x3_7)))
set_option maxRecDepth 100000 in
set_option maxHeartbeats 4000000 in
theorem c_X4_putOnFree (l : Launch) (K : wK) (ad : Nat → Nat) {D_hasBoard : Int} {D_beganBlank : Int} {F_mines : Int} {F_moves : Int} {F_changes : Int} {G_width : Int} {G_height : Int} {G_size : Int} {B_parts : Int} {B_longest : Int} {S_groups : Int} {S_askedGroup : Int} {S_taken : Int} {R_waitingCount : Int} {R_metCount : Int} {A_grade : Int} {A_cell : Int} {A_mined : Int} {A_withTotal : Int} {A_numbers : Int} {X_low : Int} {X_high : Int} {Y_low : Int} {Y_high : Int} {F_mined : Int → Int} {F_number : Int → Int} {F_state : Int → Int} {F_cellsIn : Int → Int} {F_unknownNear : Int → Int} {F_hitNear : Int → Int} {F_moveStart : Int → Int} {F_changed : Int → Int} {F_waiting : Int → Int} {F_seen : Int → Int} {G_near : Int → Int} {G_nearEnd : Int → Int} {B_chosen : Int → Int} {B_partOf : Int → Int} {B_rest : Int → Int} {B_unknowns : Int → Int} {B_partStart : Int → Int} {B_cells : Int → Int} {S_minedSet : Int → Int} {S_safeSet : Int → Int} {S_partSet : Int → Int} {S_tally : Int → Int} {S_askedTally : Int → Int} {S_groupOf : Int → Int} {S_groupSize : Int → Int} {S_links : Int → Int} {S_linkEnd : Int → Int} {S_pick : Int → Int} {S_groupMinedSet : Int → Int} {S_groupSafeSet : Int → Int} {O_sums : Int → Int64} {O_nextSums : Int → Int64} {R_found : Int → Int} {R_openEnds : Int → Int} {R_need : Int → Int} {R_waiting : Int → Int} {R_waits : Int → Int} {R_common : Int → Int} {R_met : Int → Int} {A_number : Int → Int} {Q_mined : Int → Int64} {Q_all : Int → Int64} {Q_choices : Int → Int64} {Q_term : Int → Int64} {Q_divisor : Int → Int64} {Q_spare : Int → Int64} {X_limbs : Int → Int64} {X_sum : Int → Int64} {Y_limbs : Int → Int64} {Y_sum : Int → Int64} (x1 : Int) (rx1 : inR x1) (post : (Int) → (Int → Int) → (Int → Int) → Prop) (h : P_X4_putOnFree post F_mines G_width G_height G_size F_mined F_number G_near G_nearEnd x1) : mV l yX4_putOnFree (Cond.code yX4_putOnFree cX4_putOnFree 4 none :: GT) ({ frames := 5, cells := 0, slots := 0, locals := 300 } : Room) [.ref (ad 11), .int (iI x1)] K ad (dW D_hasBoard D_beganBlank F_mines F_moves F_changes G_width G_height G_size B_parts B_longest S_groups S_askedGroup S_taken R_waitingCount R_metCount A_grade A_cell A_mined A_withTotal A_numbers X_low X_high Y_low Y_high F_mined F_number F_state F_cellsIn F_unknownNear F_hitNear F_moveStart F_changed F_waiting F_seen G_near G_nearEnd B_chosen B_partOf B_rest B_unknowns B_partStart B_cells S_minedSet S_safeSet S_partSet S_tally S_askedTally S_groupOf S_groupSize S_links S_linkEnd S_pick S_groupMinedSet S_groupSafeSet O_sums O_nextSums R_found R_openEnds R_need R_waiting R_waits R_common R_met A_number Q_mined Q_all Q_choices Q_term Q_divisor Q_spare X_limbs X_sum Y_limbs Y_sum) (fun u9 => ∃ F_mines9 F_mined9 F_number9, u9 = (dW D_hasBoard D_beganBlank F_mines9 F_moves F_changes G_width G_height G_size B_parts B_longest S_groups S_askedGroup S_taken R_waitingCount R_metCount A_grade A_cell A_mined A_withTotal A_numbers X_low X_high Y_low Y_high F_mined9 F_number9 F_state F_cellsIn F_unknownNear F_hitNear F_moveStart F_changed F_waiting F_seen G_near G_nearEnd B_chosen B_partOf B_rest B_unknowns B_partStart B_cells S_minedSet S_safeSet S_partSet S_tally S_askedTally S_groupOf S_groupSize S_links S_linkEnd S_pick S_groupMinedSet S_groupSafeSet O_sums O_nextSums R_found R_openEnds R_need R_waiting R_waits R_common R_met A_number Q_mined Q_all Q_choices Q_term Q_divisor Q_spare X_limbs X_sum Y_limbs Y_sum) ∧ post F_mines9 F_mined9 F_number9) := by
  refine mV_of (lv0 := [(0, .ref (ad 11)), (1, .int (iI x1))]) (by decide) (Nat.le_of_ble_eq_true rfl) rfl ?_
  intro p e s m args below meth c Q A C ret
  replace C : Cx p ({ frames := 5, cells := 0, slots := 0, locals := 300 } : Room) m c 0 0 cX4_putOnFree 4 s args RX4 K A := C
  unfold P_X4_putOnFree at h
  refine wa_iconst C (z := 0) dX4_putOnFree_0 rfl ?_
  refine wa_istore_n C dX4_putOnFree_1 rfl (by decide) rfl ?_
  refine wa_iconst C (z := 0) dX4_putOnFree_2 rfl ?_
  refine wa_istore_n C dX4_putOnFree_3 rfl (by decide) rfl ?_
  obtain ⟨Inv_1, ⟨n_2, h0Inv_1⟩, hInv_1⟩ := h
  have k_5 : ∀ (n_3 : Nat) (x2_6 : Int) (x3_7 : Int), inR x2_6 → inR x3_7 → Inv_1 n_3 x2_6 x3_7 → WA p l e ({ frames := 5, cells := 0, slots := 0, locals := 300 } : Room) s m args below meth c 0 0 Q K ad 4 A 4 [(0, .ref (ad 11)), (1, .int (iI x1)), (2, .int (iI x2_6)), (3, .int (iI x3_7))] [] (dW D_hasBoard D_beganBlank F_mines F_moves F_changes G_width G_height G_size B_parts B_longest S_groups S_askedGroup S_taken R_waitingCount R_metCount A_grade A_cell A_mined A_withTotal A_numbers X_low X_high Y_low Y_high F_mined F_number F_state F_cellsIn F_unknownNear F_hitNear F_moveStart F_changed F_waiting F_seen G_near G_nearEnd B_chosen B_partOf B_rest B_unknowns B_partStart B_cells S_minedSet S_safeSet S_partSet S_tally S_askedTally S_groupOf S_groupSize S_links S_linkEnd S_pick S_groupMinedSet S_groupSafeSet O_sums O_nextSums R_found R_openEnds R_need R_waiting R_waits R_common R_met A_number Q_mined Q_all Q_choices Q_term Q_divisor Q_spare X_limbs X_sum Y_limbs Y_sum) := by
    intro n_3
    induction n_3 using Nat.strongRecOn with
    | ind n_3 ih_4 =>
      intro x2_6 x3_7 rx2_6 rx3_7 h
      replace h := hInv_1 n_3 x2_6 x3_7 rx2_6 rx3_7 h
      refine wa_iload_n C 3 rfl dX4_putOnFree_4 rfl ?_
      refine wa_aload_n C 0 rfl dX4_putOnFree_5 rfl ?_
      refine wa_getR C 11 1 dW_11 rfl rfl (by decide) okX4 gw_449 dX4_putOnFree_6 ?_
      refine wa_getI C 2 2 dW_2 rfl rfl (by decide) okX3 gw_53 dX4_putOnFree_9 (fun r_8 => ?_)
      refine wa_icmp_ge C (tgt := 50) rx3_7 r_8 dX4_putOnFree_12 (by decide) (fun c_9 => ?_) (fun c_9 => ?_)
      · replace h := h.1 c_9
        exact ret dX4_putOnFree_50 ⟨_, _, _, rfl, h⟩
      · replace h := h.2 c_9
        refine wa_aload_n C 0 rfl dX4_putOnFree_15 rfl ?_
        refine wa_iload_n C 3 rfl dX4_putOnFree_16 rfl ?_
        refine wa_callVi C (k := 11) (As := [.int (iI x3_7)]) (rest := []) (c_X4_isFree l K ad x3_7 rx3_7 _ h) gw_613 gw_610 dW_11 rfl gw_612 gs_3 gw_11 q_X4_isFree rfl rfl rfl ⟨by decide, by decide⟩ rfl (Nat.le_of_ble_eq_true rfl) dX4_putOnFree_17 (fun c_10 u9 rc_10 hp => ?_)
        obtain ⟨bc_10, rfl, h⟩ := hp
        replace h := h bc_10
        obtain ⟨J_11, h, hJ_11⟩ := h
        have k_12 : ∀ (x2_13 : Int), inR x2_13 → J_11 x2_13 → WA p l e ({ frames := 5, cells := 0, slots := 0, locals := 300 } : Room) s m args below meth c 0 0 Q K ad 4 A 44 [(0, .ref (ad 11)), (1, .int (iI x1)), (2, .int (iI x2_13)), (3, .int (iI x3_7))] [] (dW D_hasBoard D_beganBlank F_mines F_moves F_changes G_width G_height G_size B_parts B_longest S_groups S_askedGroup S_taken R_waitingCount R_metCount A_grade A_cell A_mined A_withTotal A_numbers X_low X_high Y_low Y_high F_mined F_number F_state F_cellsIn F_unknownNear F_hitNear F_moveStart F_changed F_waiting F_seen G_near G_nearEnd B_chosen B_partOf B_rest B_unknowns B_partStart B_cells S_minedSet S_safeSet S_partSet S_tally S_askedTally S_groupOf S_groupSize S_links S_linkEnd S_pick S_groupMinedSet S_groupSafeSet O_sums O_nextSums R_found R_openEnds R_need R_waiting R_waits R_common R_met A_number Q_mined Q_all Q_choices Q_term Q_divisor Q_spare X_limbs X_sum Y_limbs Y_sum) := by
          intro x2_13 rx2_13 h
          replace h := hJ_11 x2_13 rx2_13 h
          obtain ⟨r_14, h⟩ := h
          refine wa_iinc C (lv' := fun w9 => [(3, .int (iI w9)), (0, .ref (ad 11)), (1, .int (iI x1)), (2, .int (iI x2_13))]) 3 rfl dX4_putOnFree_44 (by decide) (fun _ => rfl) (fun x3_15 ex3_15 => ?_)
          replace h := h x3_15 ex3_15
          have rx3_15 : inR x3_15 := by rw [ex3_15]; exact r_14
          refine wa_goto C (tgt := 4) dX4_putOnFree_47 (by decide) ?_
          obtain ⟨n_16, ln_16, h⟩ := h
          refine wa_sub C [1, 2, 3, 0] rfl ?_
          exact ih_4 n_16 ln_16 x2_13 x3_15 rx2_13 rx3_15 h
        refine wa_if_ne C (tgt := 26) (inR_b bc_10) dX4_putOnFree_20 (by decide) (fun c_17 => ?_) (fun c_17 => ?_)
        · replace h := h.1 c_17
          refine wa_iload_n C 2 rfl dX4_putOnFree_26 rfl ?_
          refine wa_iload_n C 1 rfl dX4_putOnFree_27 rfl ?_
          refine wa_icmp_ne C (tgt := 41) rx2_6 rx1 dX4_putOnFree_28 (by decide) (fun c_18 => ?_) (fun c_18 => ?_)
          · replace h := h.1 c_18
            obtain ⟨r_19, h⟩ := h
            refine wa_iinc C (lv' := fun w9 => [(2, .int (iI w9)), (0, .ref (ad 11)), (1, .int (iI x1)), (3, .int (iI x3_7))]) 2 rfl dX4_putOnFree_41 (by decide) (fun _ => rfl) (fun x2_20 ex2_20 => ?_)
            replace h := h x2_20 ex2_20
            have rx2_20 : inR x2_20 := by rw [ex2_20]; exact r_19
            refine wa_sub C [1, 2, 0, 3] rfl ?_
            exact k_12 x2_20 rx2_20 h
          · replace h := h.2 c_18
            refine wa_aload_n C 0 rfl dX4_putOnFree_31 rfl ?_
            refine wa_getR C 11 0 dW_11 rfl rfl (by decide) okX4 gw_448 dX4_putOnFree_32 ?_
            refine wa_iload_n C 3 rfl dX4_putOnFree_35 rfl ?_
            refine wa_iconst C (z := 1) dX4_putOnFree_36 rfl ?_
            refine wa_callVv C (k := 1) (As := [.int (iI x3_7), .int (iI 1)]) (rest := []) (c_X2_setMine l K ad x3_7 1 rx3_7 (Or.inr rfl) _ h) gw_636 gw_633 dW_1 rfl gw_634 gw_635 gw_2 q_X2_setMine rfl rfl rfl ⟨by decide, by decide⟩ rfl (Nat.le_of_ble_eq_true rfl) dX4_putOnFree_37 (fun u9 hp => ?_)
            obtain ⟨F_mines_21, F_mined_22, F_number_23, rfl, h⟩ := hp
            exact ret dX4_putOnFree_40 ⟨_, _, _, rfl, h⟩
        · replace h := h.2 c_17
          refine wa_goto C (tgt := 44) dX4_putOnFree_23 (by decide) ?_
          refine wa_sub C [0, 1, 2, 3] rfl ?_
          exact k_12 x2_6 rx2_6 h
  refine wa_sub C [2, 3, 1, 0] rfl ?_
  exact k_5 n_2 0 0 (inR_k 0 rfl) (inR_k 0 rfl) h0Inv_1
def P_X4_scatter (post : (Int) → (Int → Int) → (Int → Int) → Prop) (F_mines : Int) (G_width : Int) (G_height : Int) (G_size : Int) (F_mined : Int → Int) (F_number : Int → Int) (G_near : Int → Int) (G_nearEnd : Int → Int) (x1 : Int) (x2 : Int) : Prop :=
  ∃ Inv_1 : Nat → (Int) → (Int) → Prop, (∃ n_2 : Nat, Inv_1 n_2 0 0) ∧ ∀ (n_3 : Nat) (x3_6 : Int) (x4_7 : Int), inR x3_6 → inR x4_7 → Inv_1 n_3 x3_6 x4_7 → ((G_size ≤ x4_7 → (∀ x4_10 : Int, x4_10 = (andI x2 2147483647) → (inR (if x3_6 < x1 then x3_6 else x1) ∧ (∀ x5_12 : Int, x5_12 = (if x3_6 < x1 then x3_6 else x1) → (∃ Inv_13 : Nat → (Int) → (Int) → (Int) → (Int) → (Int → Int) → (Int → Int) → Prop, (∃ n_14 : Nat, Inv_13 n_14 x3_6 x4_10 x5_12 F_mines F_mined F_number) ∧ ∀ (n_15 : Nat) (x3_18 : Int) (x4_19 : Int) (x5_20 : Int) (F_mines_21 : Int) (F_mined_22 : Int → Int) (F_number_23 : Int → Int), inR x3_18 → inR x4_19 → inR x5_20 → Inv_13 n_15 x3_18 x4_19 x5_20 F_mines_21 F_mined_22 F_number_23 → ((x5_20 ≤ 0 → (post F_mines_21 F_mined_22 F_number_23)) ∧ (¬ x5_20 ≤ 0 → ((x3_18 ≤ 0 → (post F_mines_21 F_mined_22 F_number_23)) ∧ (¬ x3_18 ≤ 0 → (∀ x4_26 : Int, x4_26 = (andI ((1103515245 * x4_19) + 12345) 2147483647) → (inR (x4_26.tdiv 65536) ∧ (x3_18 ≠ 0 ∧ (inR ((x4_26.tdiv 65536).tmod x3_18) ∧ (P_X4_putOnFree (fun (F_mines_30 : Int) (F_mined_31 : Int → Int) (F_number_32 : Int → Int) => (inR (x3_18 + (-1)) ∧ (∀ x3_34 : Int, x3_34 = (x3_18 + (-1)) → (inR (x5_20 + (-1)) ∧ (∀ x5_36 : Int, x5_36 = (x5_20 + (-1)) → (∃ n_37 : Nat, n_37 < n_15 ∧ Inv_13 n_37 x3_34 x4_26 x5_36 F_mines_30 F_mined_31 F_number_32)))))) F_mines_21 G_width G_height G_size F_mined_22 F_number_23 G_near G_nearEnd ((x4_26.tdiv 65536).tmod x3_18))))))))))))))) ∧ (¬ G_size ≤ x4_7 → (P_X4_isFree (fun (c_38 : Int) => (c_38 = 0 ∨ c_38 = 1) → (∃ J_39 : (Int) → Prop, ((c_38 = 0 → (J_39 x3_6)) ∧ (¬ c_38 = 0 → (inR (x3_6 + 1) ∧ (∀ x3_47 : Int, x3_47 = (x3_6 + 1) → (J_39 x3_47))))) ∧ (∀ (x3_41 : Int), inR x3_41 → J_39 x3_41 → (inR (x4_7 + 1) ∧ (∀ x4_43 : Int, x4_43 = (x4_7 + 1) → (∃ n_44 : Nat, n_44 < n_3 ∧ Inv_1 n_44 x3_41 x4_43)))))) G_width G_height F_mined G_near G_nearEnd x4_7)))
set_option maxRecDepth 100000 in
set_option maxHeartbeats 4000000 in
theorem c_X4_scatter (l : Launch) (K : wK) (ad : Nat → Nat) {D_hasBoard : Int} {D_beganBlank : Int} {F_mines : Int} {F_moves : Int} {F_changes : Int} {G_width : Int} {G_height : Int} {G_size : Int} {B_parts : Int} {B_longest : Int} {S_groups : Int} {S_askedGroup : Int} {S_taken : Int} {R_waitingCount : Int} {R_metCount : Int} {A_grade : Int} {A_cell : Int} {A_mined : Int} {A_withTotal : Int} {A_numbers : Int} {X_low : Int} {X_high : Int} {Y_low : Int} {Y_high : Int} {F_mined : Int → Int} {F_number : Int → Int} {F_state : Int → Int} {F_cellsIn : Int → Int} {F_unknownNear : Int → Int} {F_hitNear : Int → Int} {F_moveStart : Int → Int} {F_changed : Int → Int} {F_waiting : Int → Int} {F_seen : Int → Int} {G_near : Int → Int} {G_nearEnd : Int → Int} {B_chosen : Int → Int} {B_partOf : Int → Int} {B_rest : Int → Int} {B_unknowns : Int → Int} {B_partStart : Int → Int} {B_cells : Int → Int} {S_minedSet : Int → Int} {S_safeSet : Int → Int} {S_partSet : Int → Int} {S_tally : Int → Int} {S_askedTally : Int → Int} {S_groupOf : Int → Int} {S_groupSize : Int → Int} {S_links : Int → Int} {S_linkEnd : Int → Int} {S_pick : Int → Int} {S_groupMinedSet : Int → Int} {S_groupSafeSet : Int → Int} {O_sums : Int → Int64} {O_nextSums : Int → Int64} {R_found : Int → Int} {R_openEnds : Int → Int} {R_need : Int → Int} {R_waiting : Int → Int} {R_waits : Int → Int} {R_common : Int → Int} {R_met : Int → Int} {A_number : Int → Int} {Q_mined : Int → Int64} {Q_all : Int → Int64} {Q_choices : Int → Int64} {Q_term : Int → Int64} {Q_divisor : Int → Int64} {Q_spare : Int → Int64} {X_limbs : Int → Int64} {X_sum : Int → Int64} {Y_limbs : Int → Int64} {Y_sum : Int → Int64} (x1 : Int) (x2 : Int) (rx1 : inR x1) (rx2 : inR x2) (post : (Int) → (Int → Int) → (Int → Int) → Prop) (h : P_X4_scatter post F_mines G_width G_height G_size F_mined F_number G_near G_nearEnd x1 x2) : mV l yX4_scatter (Cond.code yX4_scatter cX4_scatter 6 none :: GT) ({ frames := 6, cells := 0, slots := 0, locals := 360 } : Room) [.ref (ad 11), .int (iI x1), .int (iI x2)] K ad (dW D_hasBoard D_beganBlank F_mines F_moves F_changes G_width G_height G_size B_parts B_longest S_groups S_askedGroup S_taken R_waitingCount R_metCount A_grade A_cell A_mined A_withTotal A_numbers X_low X_high Y_low Y_high F_mined F_number F_state F_cellsIn F_unknownNear F_hitNear F_moveStart F_changed F_waiting F_seen G_near G_nearEnd B_chosen B_partOf B_rest B_unknowns B_partStart B_cells S_minedSet S_safeSet S_partSet S_tally S_askedTally S_groupOf S_groupSize S_links S_linkEnd S_pick S_groupMinedSet S_groupSafeSet O_sums O_nextSums R_found R_openEnds R_need R_waiting R_waits R_common R_met A_number Q_mined Q_all Q_choices Q_term Q_divisor Q_spare X_limbs X_sum Y_limbs Y_sum) (fun u9 => ∃ F_mines9 F_mined9 F_number9, u9 = (dW D_hasBoard D_beganBlank F_mines9 F_moves F_changes G_width G_height G_size B_parts B_longest S_groups S_askedGroup S_taken R_waitingCount R_metCount A_grade A_cell A_mined A_withTotal A_numbers X_low X_high Y_low Y_high F_mined9 F_number9 F_state F_cellsIn F_unknownNear F_hitNear F_moveStart F_changed F_waiting F_seen G_near G_nearEnd B_chosen B_partOf B_rest B_unknowns B_partStart B_cells S_minedSet S_safeSet S_partSet S_tally S_askedTally S_groupOf S_groupSize S_links S_linkEnd S_pick S_groupMinedSet S_groupSafeSet O_sums O_nextSums R_found R_openEnds R_need R_waiting R_waits R_common R_met A_number Q_mined Q_all Q_choices Q_term Q_divisor Q_spare X_limbs X_sum Y_limbs Y_sum) ∧ post F_mines9 F_mined9 F_number9) := by
  refine mV_of (lv0 := [(0, .ref (ad 11)), (1, .int (iI x1)), (2, .int (iI x2))]) (by decide) (Nat.le_of_ble_eq_true rfl) rfl ?_
  intro p e s m args below meth c Q A C ret
  replace C : Cx p ({ frames := 6, cells := 0, slots := 0, locals := 360 } : Room) m c 0 0 cX4_scatter 6 s args RX4 K A := C
  unfold P_X4_scatter at h
  refine wa_iconst C (z := 0) dX4_scatter_0 rfl ?_
  refine wa_istore_n C dX4_scatter_1 rfl (by decide) rfl ?_
  refine wa_iconst C (z := 0) dX4_scatter_2 rfl ?_
  refine wa_istore C dX4_scatter_3 (by decide) rfl ?_
  obtain ⟨Inv_1, ⟨n_2, h0Inv_1⟩, hInv_1⟩ := h
  have k_5 : ∀ (n_3 : Nat) (x3_6 : Int) (x4_7 : Int), inR x3_6 → inR x4_7 → Inv_1 n_3 x3_6 x4_7 → WA p l e ({ frames := 6, cells := 0, slots := 0, locals := 360 } : Room) s m args below meth c 0 0 Q K ad 6 A 5 [(0, .ref (ad 11)), (1, .int (iI x1)), (2, .int (iI x2)), (3, .int (iI x3_6)), (4, .int (iI x4_7))] [] (dW D_hasBoard D_beganBlank F_mines F_moves F_changes G_width G_height G_size B_parts B_longest S_groups S_askedGroup S_taken R_waitingCount R_metCount A_grade A_cell A_mined A_withTotal A_numbers X_low X_high Y_low Y_high F_mined F_number F_state F_cellsIn F_unknownNear F_hitNear F_moveStart F_changed F_waiting F_seen G_near G_nearEnd B_chosen B_partOf B_rest B_unknowns B_partStart B_cells S_minedSet S_safeSet S_partSet S_tally S_askedTally S_groupOf S_groupSize S_links S_linkEnd S_pick S_groupMinedSet S_groupSafeSet O_sums O_nextSums R_found R_openEnds R_need R_waiting R_waits R_common R_met A_number Q_mined Q_all Q_choices Q_term Q_divisor Q_spare X_limbs X_sum Y_limbs Y_sum) := by
    intro n_3
    induction n_3 using Nat.strongRecOn with
    | ind n_3 ih_4 =>
      intro x3_6 x4_7 rx3_6 rx4_7 h
      replace h := hInv_1 n_3 x3_6 x4_7 rx3_6 rx4_7 h
      refine wa_iload C 4 rfl dX4_scatter_5 ?_
      refine wa_aload_n C 0 rfl dX4_scatter_7 rfl ?_
      refine wa_getR C 11 1 dW_11 rfl rfl (by decide) okX4 gw_449 dX4_scatter_8 ?_
      refine wa_getI C 2 2 dW_2 rfl rfl (by decide) okX3 gw_53 dX4_scatter_11 (fun r_8 => ?_)
      refine wa_icmp_ge C (tgt := 35) rx4_7 r_8 dX4_scatter_14 (by decide) (fun c_9 => ?_) (fun c_9 => ?_)
      · replace h := h.1 c_9
        refine wa_iload_n C 2 rfl dX4_scatter_35 rfl ?_
        refine wa_ldc C (z := 2147483647) gw_623 rfl dX4_scatter_36 ?_
        refine wa_iand C dX4_scatter_38 ?_
        refine wa_nmi (fun x4_10 ex4_10 => ?_)
        replace h := h x4_10 ex4_10
        have rx4_10 : inR x4_10 := by rw [ex4_10]; exact (andI_r _ _)
        refine wa_istore C dX4_scatter_39 (by decide) rfl ?_
        refine wa_iload_n C 2 rfl dX4_scatter_41 rfl ?_
        refine wa_iload_n C 4 rfl dX4_scatter_42 rfl ?_
        refine wa_min C rx1 rx3_6 gw_624 gw_625 gw_18 gw_626 (by decide) (Nat.le_of_ble_eq_true rfl) dX4_scatter_43 ?_
        obtain ⟨r_11, h⟩ := h
        refine wa_nmi (fun x5_12 ex5_12 => ?_)
        replace h := h x5_12 ex5_12
        have rx5_12 : inR x5_12 := by rw [ex5_12]; exact r_11
        refine wa_istore C dX4_scatter_46 (by decide) rfl ?_
        obtain ⟨Inv_13, ⟨n_14, h0Inv_13⟩, hInv_13⟩ := h
        have k_17 : ∀ (n_15 : Nat) (x3_18 : Int) (x4_19 : Int) (x5_20 : Int) (F_mines_21 : Int) (F_mined_22 : Int → Int) (F_number_23 : Int → Int), inR x3_18 → inR x4_19 → inR x5_20 → Inv_13 n_15 x3_18 x4_19 x5_20 F_mines_21 F_mined_22 F_number_23 → WA p l e ({ frames := 6, cells := 0, slots := 0, locals := 360 } : Room) s m args below meth c 0 0 Q K ad 6 A 48 [(0, .ref (ad 11)), (3, .int (iI x3_18)), (4, .int (iI x4_19)), (5, .int (iI x5_20))] [] (dW D_hasBoard D_beganBlank F_mines_21 F_moves F_changes G_width G_height G_size B_parts B_longest S_groups S_askedGroup S_taken R_waitingCount R_metCount A_grade A_cell A_mined A_withTotal A_numbers X_low X_high Y_low Y_high F_mined_22 F_number_23 F_state F_cellsIn F_unknownNear F_hitNear F_moveStart F_changed F_waiting F_seen G_near G_nearEnd B_chosen B_partOf B_rest B_unknowns B_partStart B_cells S_minedSet S_safeSet S_partSet S_tally S_askedTally S_groupOf S_groupSize S_links S_linkEnd S_pick S_groupMinedSet S_groupSafeSet O_sums O_nextSums R_found R_openEnds R_need R_waiting R_waits R_common R_met A_number Q_mined Q_all Q_choices Q_term Q_divisor Q_spare X_limbs X_sum Y_limbs Y_sum) := by
          intro n_15
          induction n_15 using Nat.strongRecOn with
          | ind n_15 ih_16 =>
            intro x3_18 x4_19 x5_20 F_mines_21 F_mined_22 F_number_23 rx3_18 rx4_19 rx5_20 h
            replace h := hInv_13 n_15 x3_18 x4_19 x5_20 F_mines_21 F_mined_22 F_number_23 rx3_18 rx4_19 rx5_20 h
            refine wa_iload C 3 rfl dX4_scatter_48 ?_
            refine wa_if_le C (tgt := 91) rx5_20 dX4_scatter_50 (by decide) (fun c_24 => ?_) (fun c_24 => ?_)
            · replace h := h.1 c_24
              exact ret dX4_scatter_91 ⟨_, _, _, rfl, h⟩
            · replace h := h.2 c_24
              refine wa_iload_n C 1 rfl dX4_scatter_53 rfl ?_
              refine wa_if_le C (tgt := 91) rx3_18 dX4_scatter_54 (by decide) (fun c_25 => ?_) (fun c_25 => ?_)
              · replace h := h.1 c_25
                exact ret dX4_scatter_91 ⟨_, _, _, rfl, h⟩
              · replace h := h.2 c_25
                refine wa_ldc C (z := 1103515245) gw_627 rfl dX4_scatter_57 ?_
                refine wa_iload C 2 rfl dX4_scatter_59 ?_
                refine wa_imul C dX4_scatter_61 ?_
                refine wa_sipush C (z := 12345) dX4_scatter_62 (by decide) ?_
                refine wa_iadd C dX4_scatter_65 ?_
                refine wa_ldc C (z := 2147483647) gw_623 rfl dX4_scatter_66 ?_
                refine wa_iand C dX4_scatter_68 ?_
                refine wa_nmi (fun x4_26 ex4_26 => ?_)
                replace h := h x4_26 ex4_26
                have rx4_26 : inR x4_26 := by rw [ex4_26]; exact (andI_r _ _)
                refine wa_istore C dX4_scatter_69 (by decide) rfl ?_
                refine wa_aload_n C 1 rfl dX4_scatter_71 rfl ?_
                refine wa_iload C 0 rfl dX4_scatter_72 ?_
                refine wa_ldc C (z := 65536) gw_628 rfl dX4_scatter_74 ?_
                refine wa_idiv C dX4_scatter_76 rx4_26 (inR_k 65536 rfl) (by decide) ?_
                refine wa_iload_n C 2 rfl dX4_scatter_77 rfl ?_
                obtain ⟨r_27, h⟩ := h
                obtain ⟨q_28, h⟩ := h
                refine wa_irem C dX4_scatter_78 r_27 rx3_18 q_28 ?_
                obtain ⟨r_29, h⟩ := h
                refine wa_callVv C (k := 11) (As := [.int (iI ((x4_26.tdiv 65536).tmod x3_18))]) (rest := []) (c_X4_putOnFree l K ad ((x4_26.tdiv 65536).tmod x3_18) r_29 _ h) gw_632 gw_629 dW_11 rfl gw_631 gs_5 gw_11 q_X4_putOnFree rfl rfl rfl ⟨by decide, by decide⟩ rfl (Nat.le_of_ble_eq_true rfl) dX4_scatter_79 (fun u9 hp => ?_)
                obtain ⟨F_mines_30, F_mined_31, F_number_32, rfl, h⟩ := hp
                obtain ⟨r_33, h⟩ := h
                refine wa_iinc C (lv' := fun w9 => [(3, .int (iI w9)), (4, .int (iI x4_26)), (0, .ref (ad 11)), (5, .int (iI x5_20))]) 2 rfl dX4_scatter_82 (by decide) (fun _ => rfl) (fun x3_34 ex3_34 => ?_)
                replace h := h x3_34 ex3_34
                have rx3_34 : inR x3_34 := by rw [ex3_34]; exact r_33
                obtain ⟨r_35, h⟩ := h
                refine wa_iinc C (lv' := fun w9 => [(5, .int (iI w9)), (3, .int (iI x3_34)), (4, .int (iI x4_26)), (0, .ref (ad 11))]) 3 rfl dX4_scatter_85 (by decide) (fun _ => rfl) (fun x5_36 ex5_36 => ?_)
                replace h := h x5_36 ex5_36
                have rx5_36 : inR x5_36 := by rw [ex5_36]; exact r_35
                refine wa_goto C (tgt := 48) dX4_scatter_88 (by decide) ?_
                obtain ⟨n_37, ln_37, h⟩ := h
                refine wa_sub C [3, 1, 2, 0] rfl ?_
                exact ih_16 n_37 ln_37 x3_34 x4_26 x5_36 F_mines_30 F_mined_31 F_number_32 rx3_34 rx4_26 rx5_36 h
        refine wa_sub C [2, 5, 1, 0] rfl ?_
        exact k_17 n_14 x3_6 x4_10 x5_12 F_mines F_mined F_number rx3_6 rx4_10 rx5_12 h0Inv_13
      · replace h := h.2 c_9
        refine wa_aload_n C 0 rfl dX4_scatter_17 rfl ?_
        refine wa_iload C 4 rfl dX4_scatter_18 ?_
        refine wa_callVi C (k := 11) (As := [.int (iI x4_7)]) (rest := []) (c_X4_isFree l K ad x4_7 rx4_7 _ h) gw_613 gw_610 dW_11 rfl gw_612 gs_3 gw_11 q_X4_isFree rfl rfl rfl ⟨by decide, by decide⟩ rfl (Nat.le_of_ble_eq_true rfl) dX4_scatter_20 (fun c_38 u9 rc_38 hp => ?_)
        obtain ⟨bc_38, rfl, h⟩ := hp
        replace h := h bc_38
        obtain ⟨J_39, h, hJ_39⟩ := h
        have k_40 : ∀ (x3_41 : Int), inR x3_41 → J_39 x3_41 → WA p l e ({ frames := 6, cells := 0, slots := 0, locals := 360 } : Room) s m args below meth c 0 0 Q K ad 6 A 29 [(0, .ref (ad 11)), (1, .int (iI x1)), (2, .int (iI x2)), (3, .int (iI x3_41)), (4, .int (iI x4_7))] [] (dW D_hasBoard D_beganBlank F_mines F_moves F_changes G_width G_height G_size B_parts B_longest S_groups S_askedGroup S_taken R_waitingCount R_metCount A_grade A_cell A_mined A_withTotal A_numbers X_low X_high Y_low Y_high F_mined F_number F_state F_cellsIn F_unknownNear F_hitNear F_moveStart F_changed F_waiting F_seen G_near G_nearEnd B_chosen B_partOf B_rest B_unknowns B_partStart B_cells S_minedSet S_safeSet S_partSet S_tally S_askedTally S_groupOf S_groupSize S_links S_linkEnd S_pick S_groupMinedSet S_groupSafeSet O_sums O_nextSums R_found R_openEnds R_need R_waiting R_waits R_common R_met A_number Q_mined Q_all Q_choices Q_term Q_divisor Q_spare X_limbs X_sum Y_limbs Y_sum) := by
          intro x3_41 rx3_41 h
          replace h := hJ_39 x3_41 rx3_41 h
          obtain ⟨r_42, h⟩ := h
          refine wa_iinc C (lv' := fun w9 => [(4, .int (iI w9)), (0, .ref (ad 11)), (1, .int (iI x1)), (2, .int (iI x2)), (3, .int (iI x3_41))]) 4 rfl dX4_scatter_29 (by decide) (fun _ => rfl) (fun x4_43 ex4_43 => ?_)
          replace h := h x4_43 ex4_43
          have rx4_43 : inR x4_43 := by rw [ex4_43]; exact r_42
          refine wa_goto C (tgt := 5) dX4_scatter_32 (by decide) ?_
          obtain ⟨n_44, ln_44, h⟩ := h
          refine wa_sub C [1, 2, 3, 4, 0] rfl ?_
          exact ih_4 n_44 ln_44 x3_41 x4_43 rx3_41 rx4_43 h
        refine wa_if_eq C (tgt := 29) (inR_b bc_38) dX4_scatter_23 (by decide) (fun c_45 => ?_) (fun c_45 => ?_)
        · replace h := h.1 c_45
          refine wa_sub C [0, 1, 2, 3, 4] rfl ?_
          exact k_40 x3_6 rx3_6 h
        · replace h := h.2 c_45
          obtain ⟨r_46, h⟩ := h
          refine wa_iinc C (lv' := fun w9 => [(3, .int (iI w9)), (0, .ref (ad 11)), (1, .int (iI x1)), (2, .int (iI x2)), (4, .int (iI x4_7))]) 3 rfl dX4_scatter_26 (by decide) (fun _ => rfl) (fun x3_47 ex3_47 => ?_)
          replace h := h x3_47 ex3_47
          have rx3_47 : inR x3_47 := by rw [ex3_47]; exact r_46
          refine wa_sub C [1, 2, 3, 0, 4] rfl ?_
          exact k_40 x3_47 rx3_47 h
  refine wa_sub C [2, 3, 4, 1, 0] rfl ?_
  exact k_5 n_2 0 0 (inR_k 0 rfl) (inR_k 0 rfl) h0Inv_1
def P_X4_playAnew (post : (Int) → (Int) → (Int → Int) → (Int → Int) → (Int → Int) → (Int → Int) → (Int → Int) → (Int → Int) → Prop) (F_moves : Int) (F_changes : Int) (G_width : Int) (G_height : Int) (G_size : Int) (F_mined : Int → Int) (F_number : Int → Int) (F_state : Int → Int) (F_cellsIn : Int → Int) (F_unknownNear : Int → Int) (F_hitNear : Int → Int) (F_changed : Int → Int) (F_waiting : Int → Int) (G_near : Int → Int) (G_nearEnd : Int → Int) : Prop :=
  P_X2_closeAll (fun (F_moves_1 : Int) (F_changes_2 : Int) (F_state_3 : Int → Int) (F_cellsIn_4 : Int → Int) (F_unknownNear_5 : Int → Int) (F_hitNear_6 : Int → Int) => (P_X4_firstCell (fun (c_7 : Int) => inR c_7 → (P_X2_uncover (fun (F_changes_8 : Int) (F_state_9 : Int → Int) (F_cellsIn_10 : Int → Int) (F_unknownNear_11 : Int → Int) (F_hitNear_12 : Int → Int) (F_changed_13 : Int → Int) (F_waiting_14 : Int → Int) => (post F_moves_1 F_changes_8 F_state_9 F_cellsIn_10 F_unknownNear_11 F_hitNear_12 F_changed_13 F_waiting_14)) F_changes_2 F_mined F_number F_state_3 F_cellsIn_4 F_unknownNear_5 F_hitNear_6 F_changed F_waiting G_near G_nearEnd c_7)) G_width G_height )) F_moves F_changes G_size F_state F_cellsIn F_unknownNear F_hitNear G_nearEnd 
set_option maxRecDepth 100000 in
set_option maxHeartbeats 4000000 in
theorem c_X4_playAnew (l : Launch) (K : wK) (ad : Nat → Nat) {D_hasBoard : Int} {D_beganBlank : Int} {F_mines : Int} {F_moves : Int} {F_changes : Int} {G_width : Int} {G_height : Int} {G_size : Int} {B_parts : Int} {B_longest : Int} {S_groups : Int} {S_askedGroup : Int} {S_taken : Int} {R_waitingCount : Int} {R_metCount : Int} {A_grade : Int} {A_cell : Int} {A_mined : Int} {A_withTotal : Int} {A_numbers : Int} {X_low : Int} {X_high : Int} {Y_low : Int} {Y_high : Int} {F_mined : Int → Int} {F_number : Int → Int} {F_state : Int → Int} {F_cellsIn : Int → Int} {F_unknownNear : Int → Int} {F_hitNear : Int → Int} {F_moveStart : Int → Int} {F_changed : Int → Int} {F_waiting : Int → Int} {F_seen : Int → Int} {G_near : Int → Int} {G_nearEnd : Int → Int} {B_chosen : Int → Int} {B_partOf : Int → Int} {B_rest : Int → Int} {B_unknowns : Int → Int} {B_partStart : Int → Int} {B_cells : Int → Int} {S_minedSet : Int → Int} {S_safeSet : Int → Int} {S_partSet : Int → Int} {S_tally : Int → Int} {S_askedTally : Int → Int} {S_groupOf : Int → Int} {S_groupSize : Int → Int} {S_links : Int → Int} {S_linkEnd : Int → Int} {S_pick : Int → Int} {S_groupMinedSet : Int → Int} {S_groupSafeSet : Int → Int} {O_sums : Int → Int64} {O_nextSums : Int → Int64} {R_found : Int → Int} {R_openEnds : Int → Int} {R_need : Int → Int} {R_waiting : Int → Int} {R_waits : Int → Int} {R_common : Int → Int} {R_met : Int → Int} {A_number : Int → Int} {Q_mined : Int → Int64} {Q_all : Int → Int64} {Q_choices : Int → Int64} {Q_term : Int → Int64} {Q_divisor : Int → Int64} {Q_spare : Int → Int64} {X_limbs : Int → Int64} {X_sum : Int → Int64} {Y_limbs : Int → Int64} {Y_sum : Int → Int64}   (post : (Int) → (Int) → (Int → Int) → (Int → Int) → (Int → Int) → (Int → Int) → (Int → Int) → (Int → Int) → Prop) (h : P_X4_playAnew post F_moves F_changes G_width G_height G_size F_mined F_number F_state F_cellsIn F_unknownNear F_hitNear F_changed F_waiting G_near G_nearEnd) : mV l yX4_playAnew (Cond.code yX4_playAnew cX4_playAnew 1 none :: GT) ({ frames := 6, cells := 0, slots := 0, locals := 360 } : Room) [.ref (ad 11)] K ad (dW D_hasBoard D_beganBlank F_mines F_moves F_changes G_width G_height G_size B_parts B_longest S_groups S_askedGroup S_taken R_waitingCount R_metCount A_grade A_cell A_mined A_withTotal A_numbers X_low X_high Y_low Y_high F_mined F_number F_state F_cellsIn F_unknownNear F_hitNear F_moveStart F_changed F_waiting F_seen G_near G_nearEnd B_chosen B_partOf B_rest B_unknowns B_partStart B_cells S_minedSet S_safeSet S_partSet S_tally S_askedTally S_groupOf S_groupSize S_links S_linkEnd S_pick S_groupMinedSet S_groupSafeSet O_sums O_nextSums R_found R_openEnds R_need R_waiting R_waits R_common R_met A_number Q_mined Q_all Q_choices Q_term Q_divisor Q_spare X_limbs X_sum Y_limbs Y_sum) (fun u9 => ∃ F_moves9 F_changes9 F_state9 F_cellsIn9 F_unknownNear9 F_hitNear9 F_changed9 F_waiting9, u9 = (dW D_hasBoard D_beganBlank F_mines F_moves9 F_changes9 G_width G_height G_size B_parts B_longest S_groups S_askedGroup S_taken R_waitingCount R_metCount A_grade A_cell A_mined A_withTotal A_numbers X_low X_high Y_low Y_high F_mined F_number F_state9 F_cellsIn9 F_unknownNear9 F_hitNear9 F_moveStart F_changed9 F_waiting9 F_seen G_near G_nearEnd B_chosen B_partOf B_rest B_unknowns B_partStart B_cells S_minedSet S_safeSet S_partSet S_tally S_askedTally S_groupOf S_groupSize S_links S_linkEnd S_pick S_groupMinedSet S_groupSafeSet O_sums O_nextSums R_found R_openEnds R_need R_waiting R_waits R_common R_met A_number Q_mined Q_all Q_choices Q_term Q_divisor Q_spare X_limbs X_sum Y_limbs Y_sum) ∧ post F_moves9 F_changes9 F_state9 F_cellsIn9 F_unknownNear9 F_hitNear9 F_changed9 F_waiting9) := by
  refine mV_of (lv0 := [(0, .ref (ad 11))]) (by decide) (Nat.le_of_ble_eq_true rfl) rfl ?_
  intro p e s m args below meth c Q A C ret
  replace C : Cx p ({ frames := 6, cells := 0, slots := 0, locals := 360 } : Room) m c 0 0 cX4_playAnew 1 s args RX4 K A := C
  unfold P_X4_playAnew at h
  refine wa_aload_n C 0 rfl dX4_playAnew_0 rfl ?_
  refine wa_getR C 11 0 dW_11 rfl rfl (by decide) okX4 gw_448 dX4_playAnew_1 ?_
  refine wa_callVv C (k := 1) (As := []) (rest := []) (c_X2_closeAll l K ad  _ h) gw_598 gw_645 dW_1 rfl gw_596 gw_597 gw_2 q_X2_closeAll rfl rfl rfl ⟨by decide, by decide⟩ rfl (Nat.le_of_ble_eq_true rfl) dX4_playAnew_4 (fun u9 hp => ?_)
  obtain ⟨F_moves_1, F_changes_2, F_state_3, F_cellsIn_4, F_unknownNear_5, F_hitNear_6, rfl, h⟩ := hp
  refine wa_aload_n C 0 rfl dX4_playAnew_7 rfl ?_
  refine wa_getR C 11 0 dW_11 rfl rfl (by decide) okX4 gw_448 dX4_playAnew_8 ?_
  refine wa_aload_n C 0 rfl dX4_playAnew_11 rfl ?_
  refine wa_callVi C (k := 11) (As := []) (rest := [.ref (ad 1)]) (c_X4_firstCell l K ad  _ h) gw_617 gw_614 dW_11 rfl gw_616 gs_4 gw_11 q_X4_firstCell rfl rfl rfl ⟨by decide, by decide⟩ rfl (Nat.le_of_ble_eq_true rfl) dX4_playAnew_12 (fun c_7 u9 rc_7 hp => ?_)
  obtain ⟨rfl, h⟩ := hp
  replace h := h rc_7
  refine wa_callVv C (k := 1) (As := [.int (iI c_7)]) (rest := []) (c_X2_uncover l K ad c_7 rc_7 _ h) gw_649 gw_646 dW_1 rfl gw_647 gw_648 gw_2 q_X2_uncover rfl rfl rfl ⟨by decide, by decide⟩ rfl (Nat.le_of_ble_eq_true rfl) dX4_playAnew_15 (fun u9 hp => ?_)
  obtain ⟨F_changes_8, F_state_9, F_cellsIn_10, F_unknownNear_11, F_hitNear_12, F_changed_13, F_waiting_14, rfl, h⟩ := hp
  exact ret dX4_playAnew_18 ⟨_, _, _, _, _, _, _, _, rfl, h⟩
def P_X4_isNextToNumber (post : Int → Prop) (F_state : Int → Int) (G_near : Int → Int) (G_nearEnd : Int → Int) (x1 : Int) : Prop :=
  inR (x1 * 8) ∧ (∀ x2_2 : Int, x2_2 = (x1 * 8) → (∃ Inv_3 : Nat → (Int) → Prop, (∃ n_4 : Nat, Inv_3 n_4 x2_2) ∧ ∀ (n_5 : Nat) (x2_8 : Int), inR x2_8 → Inv_3 n_5 x2_8 → ((0 ≤ x1 ∧ x1 < 144) ∧ (∀ v_10 : Int, v_10 = G_nearEnd x1 → inR v_10 → ((v_10 ≤ x2_8 → (post 0)) ∧ (¬ v_10 ≤ x2_8 → ((0 ≤ x2_8 ∧ x2_8 < 1152) ∧ (∀ v_13 : Int, v_13 = G_near x2_8 → inR v_13 → ((0 ≤ v_13 ∧ v_13 < 144) ∧ (∀ v_15 : Int, v_15 = F_state v_13 → inR v_15 → ((¬ v_15 = 2 → (inR (x2_8 + 1) ∧ (∀ x2_18 : Int, x2_18 = (x2_8 + 1) → (∃ n_19 : Nat, n_19 < n_5 ∧ Inv_3 n_19 x2_18)))) ∧ (v_15 = 2 → (post 1)))))))))))))
set_option maxRecDepth 100000 in
set_option maxHeartbeats 4000000 in
theorem c_X4_isNextToNumber (l : Launch) (K : wK) (ad : Nat → Nat) {D_hasBoard : Int} {D_beganBlank : Int} {F_mines : Int} {F_moves : Int} {F_changes : Int} {G_width : Int} {G_height : Int} {G_size : Int} {B_parts : Int} {B_longest : Int} {S_groups : Int} {S_askedGroup : Int} {S_taken : Int} {R_waitingCount : Int} {R_metCount : Int} {A_grade : Int} {A_cell : Int} {A_mined : Int} {A_withTotal : Int} {A_numbers : Int} {X_low : Int} {X_high : Int} {Y_low : Int} {Y_high : Int} {F_mined : Int → Int} {F_number : Int → Int} {F_state : Int → Int} {F_cellsIn : Int → Int} {F_unknownNear : Int → Int} {F_hitNear : Int → Int} {F_moveStart : Int → Int} {F_changed : Int → Int} {F_waiting : Int → Int} {F_seen : Int → Int} {G_near : Int → Int} {G_nearEnd : Int → Int} {B_chosen : Int → Int} {B_partOf : Int → Int} {B_rest : Int → Int} {B_unknowns : Int → Int} {B_partStart : Int → Int} {B_cells : Int → Int} {S_minedSet : Int → Int} {S_safeSet : Int → Int} {S_partSet : Int → Int} {S_tally : Int → Int} {S_askedTally : Int → Int} {S_groupOf : Int → Int} {S_groupSize : Int → Int} {S_links : Int → Int} {S_linkEnd : Int → Int} {S_pick : Int → Int} {S_groupMinedSet : Int → Int} {S_groupSafeSet : Int → Int} {O_sums : Int → Int64} {O_nextSums : Int → Int64} {R_found : Int → Int} {R_openEnds : Int → Int} {R_need : Int → Int} {R_waiting : Int → Int} {R_waits : Int → Int} {R_common : Int → Int} {R_met : Int → Int} {A_number : Int → Int} {Q_mined : Int → Int64} {Q_all : Int → Int64} {Q_choices : Int → Int64} {Q_term : Int → Int64} {Q_divisor : Int → Int64} {Q_spare : Int → Int64} {X_limbs : Int → Int64} {X_sum : Int → Int64} {Y_limbs : Int → Int64} {Y_sum : Int → Int64} (x1 : Int) (rx1 : inR x1) (post : Int → Prop) (h : P_X4_isNextToNumber post F_state G_near G_nearEnd x1) : mI l yX4_isNextToNumber (Cond.code yX4_isNextToNumber cX4_isNextToNumber 3 (some .boolean) :: GT) ({ frames := 2, cells := 0, slots := 0, locals := 120 } : Room) [.ref (ad 11), .int (iI x1)] K ad (dW D_hasBoard D_beganBlank F_mines F_moves F_changes G_width G_height G_size B_parts B_longest S_groups S_askedGroup S_taken R_waitingCount R_metCount A_grade A_cell A_mined A_withTotal A_numbers X_low X_high Y_low Y_high F_mined F_number F_state F_cellsIn F_unknownNear F_hitNear F_moveStart F_changed F_waiting F_seen G_near G_nearEnd B_chosen B_partOf B_rest B_unknowns B_partStart B_cells S_minedSet S_safeSet S_partSet S_tally S_askedTally S_groupOf S_groupSize S_links S_linkEnd S_pick S_groupMinedSet S_groupSafeSet O_sums O_nextSums R_found R_openEnds R_need R_waiting R_waits R_common R_met A_number Q_mined Q_all Q_choices Q_term Q_divisor Q_spare X_limbs X_sum Y_limbs Y_sum) (fun z9 u9 => (z9 = 0 ∨ z9 = 1) ∧ u9 = (dW D_hasBoard D_beganBlank F_mines F_moves F_changes G_width G_height G_size B_parts B_longest S_groups S_askedGroup S_taken R_waitingCount R_metCount A_grade A_cell A_mined A_withTotal A_numbers X_low X_high Y_low Y_high F_mined F_number F_state F_cellsIn F_unknownNear F_hitNear F_moveStart F_changed F_waiting F_seen G_near G_nearEnd B_chosen B_partOf B_rest B_unknowns B_partStart B_cells S_minedSet S_safeSet S_partSet S_tally S_askedTally S_groupOf S_groupSize S_links S_linkEnd S_pick S_groupMinedSet S_groupSafeSet O_sums O_nextSums R_found R_openEnds R_need R_waiting R_waits R_common R_met A_number Q_mined Q_all Q_choices Q_term Q_divisor Q_spare X_limbs X_sum Y_limbs Y_sum) ∧ post z9) := by
  refine mZ_of (lv0 := [(0, .ref (ad 11)), (1, .int (iI x1))]) (by decide) (Nat.le_of_ble_eq_true rfl) rfl ?_
  intro p e s m args below meth c Q A C ret
  replace C : Cx p ({ frames := 2, cells := 0, slots := 0, locals := 120 } : Room) m c 0 0 cX4_isNextToNumber 3 s args RX4 K A := C
  unfold P_X4_isNextToNumber at h
  refine wa_iload_n C 1 rfl dX4_isNextToNumber_0 rfl ?_
  refine wa_bipush C (z := 8) dX4_isNextToNumber_1 (by decide) ?_
  refine wa_imul C dX4_isNextToNumber_3 ?_
  obtain ⟨r_1, h⟩ := h
  refine wa_nmi (fun x2_2 ex2_2 => ?_)
  replace h := h x2_2 ex2_2
  have rx2_2 : inR x2_2 := by rw [ex2_2]; exact r_1
  refine wa_istore_n C dX4_isNextToNumber_4 rfl (by decide) rfl ?_
  obtain ⟨Inv_3, ⟨n_4, h0Inv_3⟩, hInv_3⟩ := h
  have k_7 : ∀ (n_5 : Nat) (x2_8 : Int), inR x2_8 → Inv_3 n_5 x2_8 → WA p l e ({ frames := 2, cells := 0, slots := 0, locals := 120 } : Room) s m args below meth c 0 0 Q K ad 3 A 5 [(0, .ref (ad 11)), (1, .int (iI x1)), (2, .int (iI x2_8))] [] (dW D_hasBoard D_beganBlank F_mines F_moves F_changes G_width G_height G_size B_parts B_longest S_groups S_askedGroup S_taken R_waitingCount R_metCount A_grade A_cell A_mined A_withTotal A_numbers X_low X_high Y_low Y_high F_mined F_number F_state F_cellsIn F_unknownNear F_hitNear F_moveStart F_changed F_waiting F_seen G_near G_nearEnd B_chosen B_partOf B_rest B_unknowns B_partStart B_cells S_minedSet S_safeSet S_partSet S_tally S_askedTally S_groupOf S_groupSize S_links S_linkEnd S_pick S_groupMinedSet S_groupSafeSet O_sums O_nextSums R_found R_openEnds R_need R_waiting R_waits R_common R_met A_number Q_mined Q_all Q_choices Q_term Q_divisor Q_spare X_limbs X_sum Y_limbs Y_sum) := by
    intro n_5
    induction n_5 using Nat.strongRecOn with
    | ind n_5 ih_6 =>
      intro x2_8 rx2_8 h
      replace h := hInv_3 n_5 x2_8 rx2_8 h
      refine wa_iload_n C 2 rfl dX4_isNextToNumber_5 rfl ?_
      refine wa_aload_n C 0 rfl dX4_isNextToNumber_6 rfl ?_
      refine wa_getR C 11 1 dW_11 rfl rfl (by decide) okX4 gw_449 dX4_isNextToNumber_7 ?_
      refine wa_getR C 2 4 dW_2 rfl rfl (by decide) okX3 gw_69 dX4_isNextToNumber_10 ?_
      refine wa_iload_n C 1 rfl dX4_isNextToNumber_13 rfl ?_
      obtain ⟨t_9, h⟩ := h
      refine wa_iald C 23 dW_23 dX4_isNextToNumber_14 t_9.1 t_9.2 (fun v_10 ev_10 rv_10 => ?_)
      replace h := h v_10 ev_10 rv_10
      refine wa_icmp_ge C (tgt := 47) rx2_8 rv_10 dX4_isNextToNumber_15 (by decide) (fun c_11 => ?_) (fun c_11 => ?_)
      · replace h := h.1 c_11
        refine wa_iconst C (z := 0) dX4_isNextToNumber_47 rfl ?_
        exact ret dX4_isNextToNumber_48 (Or.inl rfl) ⟨(Or.inl rfl), rfl, h⟩
      · replace h := h.2 c_11
        refine wa_aload_n C 0 rfl dX4_isNextToNumber_18 rfl ?_
        refine wa_getR C 11 0 dW_11 rfl rfl (by decide) okX4 gw_448 dX4_isNextToNumber_19 ?_
        refine wa_getR C 1 3 dW_1 rfl rfl (by decide) okX2 gw_101 dX4_isNextToNumber_22 ?_
        refine wa_aload_n C 0 rfl dX4_isNextToNumber_25 rfl ?_
        refine wa_getR C 11 1 dW_11 rfl rfl (by decide) okX4 gw_449 dX4_isNextToNumber_26 ?_
        refine wa_getR C 2 3 dW_2 rfl rfl (by decide) okX3 gw_63 dX4_isNextToNumber_29 ?_
        refine wa_iload_n C 2 rfl dX4_isNextToNumber_32 rfl ?_
        obtain ⟨t_12, h⟩ := h
        refine wa_iald C 22 dW_22 dX4_isNextToNumber_33 t_12.1 t_12.2 (fun v_13 ev_13 rv_13 => ?_)
        replace h := h v_13 ev_13 rv_13
        obtain ⟨t_14, h⟩ := h
        refine wa_iald C 14 dW_14 dX4_isNextToNumber_34 t_14.1 t_14.2 (fun v_15 ev_15 rv_15 => ?_)
        replace h := h v_15 ev_15 rv_15
        refine wa_iconst C (z := 2) dX4_isNextToNumber_35 rfl ?_
        refine wa_icmp_ne C (tgt := 41) rv_15 (inR_k 2 rfl) dX4_isNextToNumber_36 (by decide) (fun c_16 => ?_) (fun c_16 => ?_)
        · replace h := h.1 c_16
          obtain ⟨r_17, h⟩ := h
          refine wa_iinc C (lv' := fun w9 => [(2, .int (iI w9)), (0, .ref (ad 11)), (1, .int (iI x1))]) 2 rfl dX4_isNextToNumber_41 (by decide) (fun _ => rfl) (fun x2_18 ex2_18 => ?_)
          replace h := h x2_18 ex2_18
          have rx2_18 : inR x2_18 := by rw [ex2_18]; exact r_17
          refine wa_goto C (tgt := 5) dX4_isNextToNumber_44 (by decide) ?_
          obtain ⟨n_19, ln_19, h⟩ := h
          refine wa_sub C [1, 2, 0] rfl ?_
          exact ih_6 n_19 ln_19 x2_18 rx2_18 h
        · replace h := h.2 c_16
          refine wa_iconst C (z := 1) dX4_isNextToNumber_39 rfl ?_
          exact ret dX4_isNextToNumber_40 (Or.inr rfl) ⟨(Or.inr rfl), rfl, h⟩
  refine wa_sub C [1, 2, 0] rfl ?_
  exact k_7 n_4 x2_2 rx2_2 h0Inv_3
def P_X4_firstUnknown (post : Int → Prop) (G_size : Int) (F_mined : Int → Int) (F_state : Int → Int) (G_near : Int → Int) (G_nearEnd : Int → Int) (x1 : Int) (x2 : Int) : Prop :=
  ∃ Inv_1 : Nat → (Int) → Prop, (∃ n_2 : Nat, Inv_1 n_2 0) ∧ ∀ (n_3 : Nat) (x3_6 : Int), inR x3_6 → Inv_1 n_3 x3_6 → ((G_size ≤ x3_6 → (post (-1))) ∧ (¬ G_size ≤ x3_6 → (P_X2_isUnknown (fun (c_9 : Int) => (c_9 = 0 ∨ c_9 = 1) → (∃ J_10 : Prop, ((c_9 = 0 → (J_10)) ∧ (¬ c_9 = 0 → ((0 ≤ x3_6 ∧ x3_6 < 144) ∧ (∀ v_17 : Int, v_17 = F_mined x3_6 → (v_17 = 0 ∨ v_17 = 1) → ((¬ v_17 = x1 → (J_10)) ∧ (v_17 = x1 → (P_X4_isNextToNumber (fun (c_19 : Int) => (c_19 = 0 ∨ c_19 = 1) → ((¬ c_19 = x2 → (J_10)) ∧ (c_19 = x2 → (post x3_6)))) F_state G_near G_nearEnd x3_6))))))) ∧ (J_10 → (inR (x3_6 + 1) ∧ (∀ x3_13 : Int, x3_13 = (x3_6 + 1) → (∃ n_14 : Nat, n_14 < n_3 ∧ Inv_1 n_14 x3_13)))))) F_state x3_6)))
set_option maxRecDepth 100000 in
set_option maxHeartbeats 4000000 in
theorem c_X4_firstUnknown (l : Launch) (K : wK) (ad : Nat → Nat) {D_hasBoard : Int} {D_beganBlank : Int} {F_mines : Int} {F_moves : Int} {F_changes : Int} {G_width : Int} {G_height : Int} {G_size : Int} {B_parts : Int} {B_longest : Int} {S_groups : Int} {S_askedGroup : Int} {S_taken : Int} {R_waitingCount : Int} {R_metCount : Int} {A_grade : Int} {A_cell : Int} {A_mined : Int} {A_withTotal : Int} {A_numbers : Int} {X_low : Int} {X_high : Int} {Y_low : Int} {Y_high : Int} {F_mined : Int → Int} {F_number : Int → Int} {F_state : Int → Int} {F_cellsIn : Int → Int} {F_unknownNear : Int → Int} {F_hitNear : Int → Int} {F_moveStart : Int → Int} {F_changed : Int → Int} {F_waiting : Int → Int} {F_seen : Int → Int} {G_near : Int → Int} {G_nearEnd : Int → Int} {B_chosen : Int → Int} {B_partOf : Int → Int} {B_rest : Int → Int} {B_unknowns : Int → Int} {B_partStart : Int → Int} {B_cells : Int → Int} {S_minedSet : Int → Int} {S_safeSet : Int → Int} {S_partSet : Int → Int} {S_tally : Int → Int} {S_askedTally : Int → Int} {S_groupOf : Int → Int} {S_groupSize : Int → Int} {S_links : Int → Int} {S_linkEnd : Int → Int} {S_pick : Int → Int} {S_groupMinedSet : Int → Int} {S_groupSafeSet : Int → Int} {O_sums : Int → Int64} {O_nextSums : Int → Int64} {R_found : Int → Int} {R_openEnds : Int → Int} {R_need : Int → Int} {R_waiting : Int → Int} {R_waits : Int → Int} {R_common : Int → Int} {R_met : Int → Int} {A_number : Int → Int} {Q_mined : Int → Int64} {Q_all : Int → Int64} {Q_choices : Int → Int64} {Q_term : Int → Int64} {Q_divisor : Int → Int64} {Q_spare : Int → Int64} {X_limbs : Int → Int64} {X_sum : Int → Int64} {Y_limbs : Int → Int64} {Y_sum : Int → Int64} (x1 : Int) (x2 : Int) (bx1 : x1 = 0 ∨ x1 = 1) (bx2 : x2 = 0 ∨ x2 = 1) (post : Int → Prop) (h : P_X4_firstUnknown post G_size F_mined F_state G_near G_nearEnd x1 x2) : mI l yX4_firstUnknown (Cond.code yX4_firstUnknown cX4_firstUnknown 4 (some .int) :: GT) ({ frames := 3, cells := 0, slots := 0, locals := 180 } : Room) [.ref (ad 11), .int (iI x1), .int (iI x2)] K ad (dW D_hasBoard D_beganBlank F_mines F_moves F_changes G_width G_height G_size B_parts B_longest S_groups S_askedGroup S_taken R_waitingCount R_metCount A_grade A_cell A_mined A_withTotal A_numbers X_low X_high Y_low Y_high F_mined F_number F_state F_cellsIn F_unknownNear F_hitNear F_moveStart F_changed F_waiting F_seen G_near G_nearEnd B_chosen B_partOf B_rest B_unknowns B_partStart B_cells S_minedSet S_safeSet S_partSet S_tally S_askedTally S_groupOf S_groupSize S_links S_linkEnd S_pick S_groupMinedSet S_groupSafeSet O_sums O_nextSums R_found R_openEnds R_need R_waiting R_waits R_common R_met A_number Q_mined Q_all Q_choices Q_term Q_divisor Q_spare X_limbs X_sum Y_limbs Y_sum) (fun z9 u9 => u9 = (dW D_hasBoard D_beganBlank F_mines F_moves F_changes G_width G_height G_size B_parts B_longest S_groups S_askedGroup S_taken R_waitingCount R_metCount A_grade A_cell A_mined A_withTotal A_numbers X_low X_high Y_low Y_high F_mined F_number F_state F_cellsIn F_unknownNear F_hitNear F_moveStart F_changed F_waiting F_seen G_near G_nearEnd B_chosen B_partOf B_rest B_unknowns B_partStart B_cells S_minedSet S_safeSet S_partSet S_tally S_askedTally S_groupOf S_groupSize S_links S_linkEnd S_pick S_groupMinedSet S_groupSafeSet O_sums O_nextSums R_found R_openEnds R_need R_waiting R_waits R_common R_met A_number Q_mined Q_all Q_choices Q_term Q_divisor Q_spare X_limbs X_sum Y_limbs Y_sum) ∧ post z9) := by
  refine mI_of (lv0 := [(0, .ref (ad 11)), (1, .int (iI x1)), (2, .int (iI x2))]) (by decide) (Nat.le_of_ble_eq_true rfl) rfl ?_
  intro p e s m args below meth c Q A C ret
  replace C : Cx p ({ frames := 3, cells := 0, slots := 0, locals := 180 } : Room) m c 0 0 cX4_firstUnknown 4 s args RX4 K A := C
  unfold P_X4_firstUnknown at h
  refine wa_iconst C (z := 0) dX4_firstUnknown_0 rfl ?_
  refine wa_istore_n C dX4_firstUnknown_1 rfl (by decide) rfl ?_
  obtain ⟨Inv_1, ⟨n_2, h0Inv_1⟩, hInv_1⟩ := h
  have k_5 : ∀ (n_3 : Nat) (x3_6 : Int), inR x3_6 → Inv_1 n_3 x3_6 → WA p l e ({ frames := 3, cells := 0, slots := 0, locals := 180 } : Room) s m args below meth c 0 0 Q K ad 4 A 2 [(0, .ref (ad 11)), (1, .int (iI x1)), (2, .int (iI x2)), (3, .int (iI x3_6))] [] (dW D_hasBoard D_beganBlank F_mines F_moves F_changes G_width G_height G_size B_parts B_longest S_groups S_askedGroup S_taken R_waitingCount R_metCount A_grade A_cell A_mined A_withTotal A_numbers X_low X_high Y_low Y_high F_mined F_number F_state F_cellsIn F_unknownNear F_hitNear F_moveStart F_changed F_waiting F_seen G_near G_nearEnd B_chosen B_partOf B_rest B_unknowns B_partStart B_cells S_minedSet S_safeSet S_partSet S_tally S_askedTally S_groupOf S_groupSize S_links S_linkEnd S_pick S_groupMinedSet S_groupSafeSet O_sums O_nextSums R_found R_openEnds R_need R_waiting R_waits R_common R_met A_number Q_mined Q_all Q_choices Q_term Q_divisor Q_spare X_limbs X_sum Y_limbs Y_sum) := by
    intro n_3
    induction n_3 using Nat.strongRecOn with
    | ind n_3 ih_4 =>
      intro x3_6 rx3_6 h
      replace h := hInv_1 n_3 x3_6 rx3_6 h
      refine wa_iload_n C 3 rfl dX4_firstUnknown_2 rfl ?_
      refine wa_aload_n C 0 rfl dX4_firstUnknown_3 rfl ?_
      refine wa_getR C 11 1 dW_11 rfl rfl (by decide) okX4 gw_449 dX4_firstUnknown_4 ?_
      refine wa_getI C 2 2 dW_2 rfl rfl (by decide) okX3 gw_53 dX4_firstUnknown_7 (fun r_7 => ?_)
      refine wa_icmp_ge C (tgt := 54) rx3_6 r_7 dX4_firstUnknown_10 (by decide) (fun c_8 => ?_) (fun c_8 => ?_)
      · replace h := h.1 c_8
        refine wa_iconst C (z := -1) dX4_firstUnknown_54 rfl ?_
        exact ret dX4_firstUnknown_55 (inR_k (-1) rfl) ⟨rfl, h⟩
      · replace h := h.2 c_8
        refine wa_aload_n C 0 rfl dX4_firstUnknown_13 rfl ?_
        refine wa_getR C 11 0 dW_11 rfl rfl (by decide) okX4 gw_448 dX4_firstUnknown_14 ?_
        refine wa_iload_n C 3 rfl dX4_firstUnknown_17 rfl ?_
        refine wa_callVi C (k := 1) (As := [.int (iI x3_6)]) (rest := []) (c_X2_isUnknown l K ad x3_6 rx3_6 _ h) gw_665 gw_846 dW_1 rfl gw_663 gw_664 gw_2 q_X2_isUnknown rfl rfl rfl ⟨by decide, by decide⟩ rfl (Nat.le_of_ble_eq_true rfl) dX4_firstUnknown_18 (fun c_9 u9 rc_9 hp => ?_)
        obtain ⟨bc_9, rfl, h⟩ := hp
        replace h := h bc_9
        obtain ⟨J_10, h, hJ_10⟩ := h
        have k_11 : J_10 → WA p l e ({ frames := 3, cells := 0, slots := 0, locals := 180 } : Room) s m args below meth c 0 0 Q K ad 4 A 48 [(0, .ref (ad 11)), (1, .int (iI x1)), (2, .int (iI x2)), (3, .int (iI x3_6))] [] (dW D_hasBoard D_beganBlank F_mines F_moves F_changes G_width G_height G_size B_parts B_longest S_groups S_askedGroup S_taken R_waitingCount R_metCount A_grade A_cell A_mined A_withTotal A_numbers X_low X_high Y_low Y_high F_mined F_number F_state F_cellsIn F_unknownNear F_hitNear F_moveStart F_changed F_waiting F_seen G_near G_nearEnd B_chosen B_partOf B_rest B_unknowns B_partStart B_cells S_minedSet S_safeSet S_partSet S_tally S_askedTally S_groupOf S_groupSize S_links S_linkEnd S_pick S_groupMinedSet S_groupSafeSet O_sums O_nextSums R_found R_openEnds R_need R_waiting R_waits R_common R_met A_number Q_mined Q_all Q_choices Q_term Q_divisor Q_spare X_limbs X_sum Y_limbs Y_sum) := by
          intro h
          replace h := hJ_10 h
          obtain ⟨r_12, h⟩ := h
          refine wa_iinc C (lv' := fun w9 => [(3, .int (iI w9)), (0, .ref (ad 11)), (1, .int (iI x1)), (2, .int (iI x2))]) 3 rfl dX4_firstUnknown_48 (by decide) (fun _ => rfl) (fun x3_13 ex3_13 => ?_)
          replace h := h x3_13 ex3_13
          have rx3_13 : inR x3_13 := by rw [ex3_13]; exact r_12
          refine wa_goto C (tgt := 2) dX4_firstUnknown_51 (by decide) ?_
          obtain ⟨n_14, ln_14, h⟩ := h
          refine wa_sub C [1, 2, 3, 0] rfl ?_
          exact ih_4 n_14 ln_14 x3_13 rx3_13 h
        refine wa_if_eq C (tgt := 48) (inR_b bc_9) dX4_firstUnknown_21 (by decide) (fun c_15 => ?_) (fun c_15 => ?_)
        · replace h := h.1 c_15
          refine wa_sub C [0, 1, 2, 3] rfl ?_
          exact k_11 h
        · replace h := h.2 c_15
          refine wa_aload_n C 0 rfl dX4_firstUnknown_24 rfl ?_
          refine wa_getR C 11 0 dW_11 rfl rfl (by decide) okX4 gw_448 dX4_firstUnknown_25 ?_
          refine wa_getR C 1 1 dW_1 rfl rfl (by decide) okX2 gw_91 dX4_firstUnknown_28 ?_
          refine wa_iload_n C 3 rfl dX4_firstUnknown_31 rfl ?_
          obtain ⟨t_16, h⟩ := h
          refine wa_bald C 12 dW_12 dX4_firstUnknown_32 t_16.1 t_16.2 (fun v_17 ev_17 rv_17 => ?_)
          replace h := h v_17 ev_17 rv_17
          refine wa_iload_n C 1 rfl dX4_firstUnknown_33 rfl ?_
          refine wa_icmp_ne C (tgt := 48) (inR_b rv_17) (inR_b bx1) dX4_firstUnknown_34 (by decide) (fun c_18 => ?_) (fun c_18 => ?_)
          · replace h := h.1 c_18
            refine wa_sub C [0, 1, 2, 3] rfl ?_
            exact k_11 h
          · replace h := h.2 c_18
            refine wa_aload_n C 0 rfl dX4_firstUnknown_37 rfl ?_
            refine wa_iload_n C 3 rfl dX4_firstUnknown_38 rfl ?_
            refine wa_callVi C (k := 11) (As := [.int (iI x3_6)]) (rest := []) (c_X4_isNextToNumber l K ad x3_6 rx3_6 _ h) gw_858 gw_855 dW_11 rfl gw_857 gs_37 gw_11 q_X4_isNextToNumber rfl rfl rfl ⟨by decide, by decide⟩ rfl (Nat.le_of_ble_eq_true rfl) dX4_firstUnknown_39 (fun c_19 u9 rc_19 hp => ?_)
            obtain ⟨bc_19, rfl, h⟩ := hp
            replace h := h bc_19
            refine wa_iload_n C 2 rfl dX4_firstUnknown_42 rfl ?_
            refine wa_icmp_ne C (tgt := 48) (inR_b bc_19) (inR_b bx2) dX4_firstUnknown_43 (by decide) (fun c_20 => ?_) (fun c_20 => ?_)
            · replace h := h.1 c_20
              refine wa_sub C [0, 1, 2, 3] rfl ?_
              exact k_11 h
            · replace h := h.2 c_20
              refine wa_iload_n C 3 rfl dX4_firstUnknown_46 rfl ?_
              exact ret dX4_firstUnknown_47 rx3_6 ⟨rfl, h⟩
  refine wa_sub C [1, 2, 3, 0] rfl ?_
  exact k_5 n_2 0 (inR_k 0 rfl) h0Inv_1
def P_X4_shiftMine (post : Int → (Int) → (Int → Int) → (Int → Int) → Prop) (F_mines : Int) (G_size : Int) (F_mined : Int → Int) (F_number : Int → Int) (F_state : Int → Int) (G_near : Int → Int) (G_nearEnd : Int → Int) : Prop :=
  P_X4_firstUnknown (fun (c_1 : Int) => inR c_1 → (P_X4_firstUnknown (fun (c_2 : Int) => inR c_2 → ((c_1 = (-1) → (post 0 F_mines F_mined F_number)) ∧ (¬ c_1 = (-1) → ((¬ c_2 = (-1) → (P_X2_setMine (fun (F_mines_5 : Int) (F_mined_6 : Int → Int) (F_number_7 : Int → Int) => (P_X2_setMine (fun (F_mines_8 : Int) (F_mined_9 : Int → Int) (F_number_10 : Int → Int) => (post 1 F_mines_8 F_mined_9 F_number_10)) F_mines_5 F_mined_6 F_number_7 G_near G_nearEnd c_2 1)) F_mines F_mined F_number G_near G_nearEnd c_1 0)) ∧ (c_2 = (-1) → (post 0 F_mines F_mined F_number)))))) G_size F_mined F_state G_near G_nearEnd 0 0)) G_size F_mined F_state G_near G_nearEnd 1 1
set_option maxRecDepth 100000 in
set_option maxHeartbeats 4000000 in
theorem c_X4_shiftMine (l : Launch) (K : wK) (ad : Nat → Nat) {D_hasBoard : Int} {D_beganBlank : Int} {F_mines : Int} {F_moves : Int} {F_changes : Int} {G_width : Int} {G_height : Int} {G_size : Int} {B_parts : Int} {B_longest : Int} {S_groups : Int} {S_askedGroup : Int} {S_taken : Int} {R_waitingCount : Int} {R_metCount : Int} {A_grade : Int} {A_cell : Int} {A_mined : Int} {A_withTotal : Int} {A_numbers : Int} {X_low : Int} {X_high : Int} {Y_low : Int} {Y_high : Int} {F_mined : Int → Int} {F_number : Int → Int} {F_state : Int → Int} {F_cellsIn : Int → Int} {F_unknownNear : Int → Int} {F_hitNear : Int → Int} {F_moveStart : Int → Int} {F_changed : Int → Int} {F_waiting : Int → Int} {F_seen : Int → Int} {G_near : Int → Int} {G_nearEnd : Int → Int} {B_chosen : Int → Int} {B_partOf : Int → Int} {B_rest : Int → Int} {B_unknowns : Int → Int} {B_partStart : Int → Int} {B_cells : Int → Int} {S_minedSet : Int → Int} {S_safeSet : Int → Int} {S_partSet : Int → Int} {S_tally : Int → Int} {S_askedTally : Int → Int} {S_groupOf : Int → Int} {S_groupSize : Int → Int} {S_links : Int → Int} {S_linkEnd : Int → Int} {S_pick : Int → Int} {S_groupMinedSet : Int → Int} {S_groupSafeSet : Int → Int} {O_sums : Int → Int64} {O_nextSums : Int → Int64} {R_found : Int → Int} {R_openEnds : Int → Int} {R_need : Int → Int} {R_waiting : Int → Int} {R_waits : Int → Int} {R_common : Int → Int} {R_met : Int → Int} {A_number : Int → Int} {Q_mined : Int → Int64} {Q_all : Int → Int64} {Q_choices : Int → Int64} {Q_term : Int → Int64} {Q_divisor : Int → Int64} {Q_spare : Int → Int64} {X_limbs : Int → Int64} {X_sum : Int → Int64} {Y_limbs : Int → Int64} {Y_sum : Int → Int64}   (post : Int → (Int) → (Int → Int) → (Int → Int) → Prop) (h : P_X4_shiftMine post F_mines G_size F_mined F_number F_state G_near G_nearEnd) : mI l yX4_shiftMine (Cond.code yX4_shiftMine cX4_shiftMine 3 (some .boolean) :: GT) ({ frames := 4, cells := 0, slots := 0, locals := 240 } : Room) [.ref (ad 11)] K ad (dW D_hasBoard D_beganBlank F_mines F_moves F_changes G_width G_height G_size B_parts B_longest S_groups S_askedGroup S_taken R_waitingCount R_metCount A_grade A_cell A_mined A_withTotal A_numbers X_low X_high Y_low Y_high F_mined F_number F_state F_cellsIn F_unknownNear F_hitNear F_moveStart F_changed F_waiting F_seen G_near G_nearEnd B_chosen B_partOf B_rest B_unknowns B_partStart B_cells S_minedSet S_safeSet S_partSet S_tally S_askedTally S_groupOf S_groupSize S_links S_linkEnd S_pick S_groupMinedSet S_groupSafeSet O_sums O_nextSums R_found R_openEnds R_need R_waiting R_waits R_common R_met A_number Q_mined Q_all Q_choices Q_term Q_divisor Q_spare X_limbs X_sum Y_limbs Y_sum) (fun z9 u9 => (z9 = 0 ∨ z9 = 1) ∧ ∃ F_mines9 F_mined9 F_number9, u9 = (dW D_hasBoard D_beganBlank F_mines9 F_moves F_changes G_width G_height G_size B_parts B_longest S_groups S_askedGroup S_taken R_waitingCount R_metCount A_grade A_cell A_mined A_withTotal A_numbers X_low X_high Y_low Y_high F_mined9 F_number9 F_state F_cellsIn F_unknownNear F_hitNear F_moveStart F_changed F_waiting F_seen G_near G_nearEnd B_chosen B_partOf B_rest B_unknowns B_partStart B_cells S_minedSet S_safeSet S_partSet S_tally S_askedTally S_groupOf S_groupSize S_links S_linkEnd S_pick S_groupMinedSet S_groupSafeSet O_sums O_nextSums R_found R_openEnds R_need R_waiting R_waits R_common R_met A_number Q_mined Q_all Q_choices Q_term Q_divisor Q_spare X_limbs X_sum Y_limbs Y_sum) ∧ post z9 F_mines9 F_mined9 F_number9) := by
  refine mZ_of (lv0 := [(0, .ref (ad 11))]) (by decide) (Nat.le_of_ble_eq_true rfl) rfl ?_
  intro p e s m args below meth c Q A C ret
  replace C : Cx p ({ frames := 4, cells := 0, slots := 0, locals := 240 } : Room) m c 0 0 cX4_shiftMine 3 s args RX4 K A := C
  unfold P_X4_shiftMine at h
  refine wa_aload_n C 0 rfl dX4_shiftMine_0 rfl ?_
  refine wa_iconst C (z := 1) dX4_shiftMine_1 rfl ?_
  refine wa_iconst C (z := 1) dX4_shiftMine_2 rfl ?_
  refine wa_callVi C (k := 11) (As := [.int (iI 1), .int (iI 1)]) (rest := []) (c_X4_firstUnknown l K ad 1 1 (Or.inr rfl) (Or.inr rfl) _ h) gw_854 gw_851 dW_11 rfl gw_853 gs_36 gw_11 q_X4_firstUnknown rfl rfl rfl ⟨by decide, by decide⟩ rfl (Nat.le_of_ble_eq_true rfl) dX4_shiftMine_3 (fun c_1 u9 rc_1 hp => ?_)
  obtain ⟨rfl, h⟩ := hp
  replace h := h rc_1
  refine wa_istore_n C dX4_shiftMine_6 rfl (by decide) rfl ?_
  refine wa_aload_n C 1 rfl dX4_shiftMine_7 rfl ?_
  refine wa_iconst C (z := 0) dX4_shiftMine_8 rfl ?_
  refine wa_iconst C (z := 0) dX4_shiftMine_9 rfl ?_
  refine wa_callVi C (k := 11) (As := [.int (iI 0), .int (iI 0)]) (rest := []) (c_X4_firstUnknown l K ad 0 0 (Or.inl rfl) (Or.inl rfl) _ h) gw_854 gw_851 dW_11 rfl gw_853 gs_36 gw_11 q_X4_firstUnknown rfl rfl rfl ⟨by decide, by decide⟩ rfl (Nat.le_of_ble_eq_true rfl) dX4_shiftMine_10 (fun c_2 u9 rc_2 hp => ?_)
  obtain ⟨rfl, h⟩ := hp
  replace h := h rc_2
  refine wa_istore_n C dX4_shiftMine_13 rfl (by decide) rfl ?_
  refine wa_iload_n C 1 rfl dX4_shiftMine_14 rfl ?_
  refine wa_iconst C (z := -1) dX4_shiftMine_15 rfl ?_
  refine wa_icmp_eq C (tgt := 24) rc_1 (inR_k (-1) rfl) dX4_shiftMine_16 (by decide) (fun c_3 => ?_) (fun c_3 => ?_)
  · replace h := h.1 c_3
    refine wa_iconst C (z := 0) dX4_shiftMine_24 rfl ?_
    exact ret dX4_shiftMine_25 (Or.inl rfl) ⟨(Or.inl rfl), _, _, _, rfl, h⟩
  · replace h := h.2 c_3
    refine wa_iload_n C 0 rfl dX4_shiftMine_19 rfl ?_
    refine wa_iconst C (z := -1) dX4_shiftMine_20 rfl ?_
    refine wa_icmp_ne C (tgt := 26) rc_2 (inR_k (-1) rfl) dX4_shiftMine_21 (by decide) (fun c_4 => ?_) (fun c_4 => ?_)
    · replace h := h.1 c_4
      refine wa_aload_n C 2 rfl dX4_shiftMine_26 rfl ?_
      refine wa_getR C 11 0 dW_11 rfl rfl (by decide) okX4 gw_448 dX4_shiftMine_27 ?_
      refine wa_iload_n C 1 rfl dX4_shiftMine_30 rfl ?_
      refine wa_iconst C (z := 0) dX4_shiftMine_31 rfl ?_
      refine wa_callVv C (k := 1) (As := [.int (iI c_1), .int (iI 0)]) (rest := []) (c_X2_setMine l K ad c_1 0 rc_1 (Or.inl rfl) _ h) gw_636 gw_633 dW_1 rfl gw_634 gw_635 gw_2 q_X2_setMine rfl rfl rfl ⟨by decide, by decide⟩ rfl (Nat.le_of_ble_eq_true rfl) dX4_shiftMine_32 (fun u9 hp => ?_)
      obtain ⟨F_mines_5, F_mined_6, F_number_7, rfl, h⟩ := hp
      refine wa_aload_n C 2 rfl dX4_shiftMine_35 rfl ?_
      refine wa_getR C 11 0 dW_11 rfl rfl (by decide) okX4 gw_448 dX4_shiftMine_36 ?_
      refine wa_iload_n C 0 rfl dX4_shiftMine_39 rfl ?_
      refine wa_iconst C (z := 1) dX4_shiftMine_40 rfl ?_
      refine wa_callVv C (k := 1) (As := [.int (iI c_2), .int (iI 1)]) (rest := []) (c_X2_setMine l K ad c_2 1 rc_2 (Or.inr rfl) _ h) gw_636 gw_633 dW_1 rfl gw_634 gw_635 gw_2 q_X2_setMine rfl rfl rfl ⟨by decide, by decide⟩ rfl (Nat.le_of_ble_eq_true rfl) dX4_shiftMine_41 (fun u9 hp => ?_)
      obtain ⟨F_mines_8, F_mined_9, F_number_10, rfl, h⟩ := hp
      refine wa_iconst C (z := 1) dX4_shiftMine_44 rfl ?_
      exact ret dX4_shiftMine_45 (Or.inr rfl) ⟨(Or.inr rfl), _, _, _, rfl, h⟩
    · replace h := h.2 c_4
      refine wa_iconst C (z := 0) dX4_shiftMine_24 rfl ?_
      exact ret dX4_shiftMine_25 (Or.inl rfl) ⟨(Or.inl rfl), _, _, _, rfl, h⟩
def P_X4_uncoverSafe (post : Int → (Int) → (Int → Int) → (Int → Int) → (Int → Int) → (Int → Int) → (Int → Int) → (Int → Int) → Prop) (F_changes : Int) (G_size : Int) (F_mined : Int → Int) (F_number : Int → Int) (F_state : Int → Int) (F_cellsIn : Int → Int) (F_unknownNear : Int → Int) (F_hitNear : Int → Int) (F_changed : Int → Int) (F_waiting : Int → Int) (G_near : Int → Int) (G_nearEnd : Int → Int) (R_found : Int → Int) : Prop :=
  ∃ Inv_1 : Nat → (Int) → (Int) → (Int) → (Int → Int) → (Int → Int) → (Int → Int) → (Int → Int) → (Int → Int) → (Int → Int) → Prop, (∃ n_2 : Nat, Inv_1 n_2 0 0 F_changes F_state F_cellsIn F_unknownNear F_hitNear F_changed F_waiting) ∧ ∀ (n_3 : Nat) (x1_6 : Int) (x2_7 : Int) (F_changes_8 : Int) (F_state_9 : Int → Int) (F_cellsIn_10 : Int → Int) (F_unknownNear_11 : Int → Int) (F_hitNear_12 : Int → Int) (F_changed_13 : Int → Int) (F_waiting_14 : Int → Int), inR x1_6 → inR x2_7 → Inv_1 n_3 x1_6 x2_7 F_changes_8 F_state_9 F_cellsIn_10 F_unknownNear_11 F_hitNear_12 F_changed_13 F_waiting_14 → ((G_size ≤ x2_7 → ((x1_6 = 0 ∨ x1_6 = 1) ∧ (post x1_6 F_changes_8 F_state_9 F_cellsIn_10 F_unknownNear_11 F_hitNear_12 F_changed_13 F_waiting_14))) ∧ (¬ G_size ≤ x2_7 → ((0 ≤ x2_7 ∧ x2_7 < 144) ∧ (∀ v_19 : Int, v_19 = R_found x2_7 → inR v_19 → (∃ J_20 : (Int) → (Int) → (Int → Int) → (Int → Int) → (Int → Int) → (Int → Int) → (Int → Int) → (Int → Int) → Prop, ((¬ v_19 = 1 → (J_20 x1_6 F_changes_8 F_state_9 F_cellsIn_10 F_unknownNear_11 F_hitNear_12 F_changed_13 F_waiting_14)) ∧ (v_19 = 1 → (P_X2_isUnknown (fun (c_34 : Int) => (c_34 = 0 ∨ c_34 = 1) → ((c_34 = 0 → (J_20 x1_6 F_changes_8 F_state_9 F_cellsIn_10 F_unknownNear_11 F_hitNear_12 F_changed_13 F_waiting_14)) ∧ (¬ c_34 = 0 → (P_X2_uncover (fun (F_changes_36 : Int) (F_state_37 : Int → Int) (F_cellsIn_38 : Int → Int) (F_unknownNear_39 : Int → Int) (F_hitNear_40 : Int → Int) (F_changed_41 : Int → Int) (F_waiting_42 : Int → Int) => (J_20 1 F_changes_36 F_state_37 F_cellsIn_38 F_unknownNear_39 F_hitNear_40 F_changed_41 F_waiting_42)) F_changes_8 F_mined F_number F_state_9 F_cellsIn_10 F_unknownNear_11 F_hitNear_12 F_changed_13 F_waiting_14 G_near G_nearEnd x2_7)))) F_state_9 x2_7))) ∧ (∀ (x1_22 : Int) (F_changes_23 : Int) (F_state_24 : Int → Int) (F_cellsIn_25 : Int → Int) (F_unknownNear_26 : Int → Int) (F_hitNear_27 : Int → Int) (F_changed_28 : Int → Int) (F_waiting_29 : Int → Int), inR x1_22 → J_20 x1_22 F_changes_23 F_state_24 F_cellsIn_25 F_unknownNear_26 F_hitNear_27 F_changed_28 F_waiting_29 → (inR (x2_7 + 1) ∧ (∀ x2_31 : Int, x2_31 = (x2_7 + 1) → (∃ n_32 : Nat, n_32 < n_3 ∧ Inv_1 n_32 x1_22 x2_31 F_changes_23 F_state_24 F_cellsIn_25 F_unknownNear_26 F_hitNear_27 F_changed_28 F_waiting_29)))))))))
set_option maxRecDepth 100000 in
set_option maxHeartbeats 4000000 in
theorem c_X4_uncoverSafe (l : Launch) (K : wK) (ad : Nat → Nat) {D_hasBoard : Int} {D_beganBlank : Int} {F_mines : Int} {F_moves : Int} {F_changes : Int} {G_width : Int} {G_height : Int} {G_size : Int} {B_parts : Int} {B_longest : Int} {S_groups : Int} {S_askedGroup : Int} {S_taken : Int} {R_waitingCount : Int} {R_metCount : Int} {A_grade : Int} {A_cell : Int} {A_mined : Int} {A_withTotal : Int} {A_numbers : Int} {X_low : Int} {X_high : Int} {Y_low : Int} {Y_high : Int} {F_mined : Int → Int} {F_number : Int → Int} {F_state : Int → Int} {F_cellsIn : Int → Int} {F_unknownNear : Int → Int} {F_hitNear : Int → Int} {F_moveStart : Int → Int} {F_changed : Int → Int} {F_waiting : Int → Int} {F_seen : Int → Int} {G_near : Int → Int} {G_nearEnd : Int → Int} {B_chosen : Int → Int} {B_partOf : Int → Int} {B_rest : Int → Int} {B_unknowns : Int → Int} {B_partStart : Int → Int} {B_cells : Int → Int} {S_minedSet : Int → Int} {S_safeSet : Int → Int} {S_partSet : Int → Int} {S_tally : Int → Int} {S_askedTally : Int → Int} {S_groupOf : Int → Int} {S_groupSize : Int → Int} {S_links : Int → Int} {S_linkEnd : Int → Int} {S_pick : Int → Int} {S_groupMinedSet : Int → Int} {S_groupSafeSet : Int → Int} {O_sums : Int → Int64} {O_nextSums : Int → Int64} {R_found : Int → Int} {R_openEnds : Int → Int} {R_need : Int → Int} {R_waiting : Int → Int} {R_waits : Int → Int} {R_common : Int → Int} {R_met : Int → Int} {A_number : Int → Int} {Q_mined : Int → Int64} {Q_all : Int → Int64} {Q_choices : Int → Int64} {Q_term : Int → Int64} {Q_divisor : Int → Int64} {Q_spare : Int → Int64} {X_limbs : Int → Int64} {X_sum : Int → Int64} {Y_limbs : Int → Int64} {Y_sum : Int → Int64}   (post : Int → (Int) → (Int → Int) → (Int → Int) → (Int → Int) → (Int → Int) → (Int → Int) → (Int → Int) → Prop) (h : P_X4_uncoverSafe post F_changes G_size F_mined F_number F_state F_cellsIn F_unknownNear F_hitNear F_changed F_waiting G_near G_nearEnd R_found) : mI l yX4_uncoverSafe (Cond.code yX4_uncoverSafe cX4_uncoverSafe 3 (some .boolean) :: GT) ({ frames := 6, cells := 0, slots := 0, locals := 360 } : Room) [.ref (ad 11)] K ad (dW D_hasBoard D_beganBlank F_mines F_moves F_changes G_width G_height G_size B_parts B_longest S_groups S_askedGroup S_taken R_waitingCount R_metCount A_grade A_cell A_mined A_withTotal A_numbers X_low X_high Y_low Y_high F_mined F_number F_state F_cellsIn F_unknownNear F_hitNear F_moveStart F_changed F_waiting F_seen G_near G_nearEnd B_chosen B_partOf B_rest B_unknowns B_partStart B_cells S_minedSet S_safeSet S_partSet S_tally S_askedTally S_groupOf S_groupSize S_links S_linkEnd S_pick S_groupMinedSet S_groupSafeSet O_sums O_nextSums R_found R_openEnds R_need R_waiting R_waits R_common R_met A_number Q_mined Q_all Q_choices Q_term Q_divisor Q_spare X_limbs X_sum Y_limbs Y_sum) (fun z9 u9 => (z9 = 0 ∨ z9 = 1) ∧ ∃ F_changes9 F_state9 F_cellsIn9 F_unknownNear9 F_hitNear9 F_changed9 F_waiting9, u9 = (dW D_hasBoard D_beganBlank F_mines F_moves F_changes9 G_width G_height G_size B_parts B_longest S_groups S_askedGroup S_taken R_waitingCount R_metCount A_grade A_cell A_mined A_withTotal A_numbers X_low X_high Y_low Y_high F_mined F_number F_state9 F_cellsIn9 F_unknownNear9 F_hitNear9 F_moveStart F_changed9 F_waiting9 F_seen G_near G_nearEnd B_chosen B_partOf B_rest B_unknowns B_partStart B_cells S_minedSet S_safeSet S_partSet S_tally S_askedTally S_groupOf S_groupSize S_links S_linkEnd S_pick S_groupMinedSet S_groupSafeSet O_sums O_nextSums R_found R_openEnds R_need R_waiting R_waits R_common R_met A_number Q_mined Q_all Q_choices Q_term Q_divisor Q_spare X_limbs X_sum Y_limbs Y_sum) ∧ post z9 F_changes9 F_state9 F_cellsIn9 F_unknownNear9 F_hitNear9 F_changed9 F_waiting9) := by
  refine mZ_of (lv0 := [(0, .ref (ad 11))]) (by decide) (Nat.le_of_ble_eq_true rfl) rfl ?_
  intro p e s m args below meth c Q A C ret
  replace C : Cx p ({ frames := 6, cells := 0, slots := 0, locals := 360 } : Room) m c 0 0 cX4_uncoverSafe 3 s args RX4 K A := C
  unfold P_X4_uncoverSafe at h
  refine wa_iconst C (z := 0) dX4_uncoverSafe_0 rfl ?_
  refine wa_istore_n C dX4_uncoverSafe_1 rfl (by decide) rfl ?_
  refine wa_iconst C (z := 0) dX4_uncoverSafe_2 rfl ?_
  refine wa_istore_n C dX4_uncoverSafe_3 rfl (by decide) rfl ?_
  obtain ⟨Inv_1, ⟨n_2, h0Inv_1⟩, hInv_1⟩ := h
  have k_5 : ∀ (n_3 : Nat) (x1_6 : Int) (x2_7 : Int) (F_changes_8 : Int) (F_state_9 : Int → Int) (F_cellsIn_10 : Int → Int) (F_unknownNear_11 : Int → Int) (F_hitNear_12 : Int → Int) (F_changed_13 : Int → Int) (F_waiting_14 : Int → Int), inR x1_6 → inR x2_7 → Inv_1 n_3 x1_6 x2_7 F_changes_8 F_state_9 F_cellsIn_10 F_unknownNear_11 F_hitNear_12 F_changed_13 F_waiting_14 → WA p l e ({ frames := 6, cells := 0, slots := 0, locals := 360 } : Room) s m args below meth c 0 0 Q K ad 3 A 4 [(0, .ref (ad 11)), (1, .int (iI x1_6)), (2, .int (iI x2_7))] [] (dW D_hasBoard D_beganBlank F_mines F_moves F_changes_8 G_width G_height G_size B_parts B_longest S_groups S_askedGroup S_taken R_waitingCount R_metCount A_grade A_cell A_mined A_withTotal A_numbers X_low X_high Y_low Y_high F_mined F_number F_state_9 F_cellsIn_10 F_unknownNear_11 F_hitNear_12 F_moveStart F_changed_13 F_waiting_14 F_seen G_near G_nearEnd B_chosen B_partOf B_rest B_unknowns B_partStart B_cells S_minedSet S_safeSet S_partSet S_tally S_askedTally S_groupOf S_groupSize S_links S_linkEnd S_pick S_groupMinedSet S_groupSafeSet O_sums O_nextSums R_found R_openEnds R_need R_waiting R_waits R_common R_met A_number Q_mined Q_all Q_choices Q_term Q_divisor Q_spare X_limbs X_sum Y_limbs Y_sum) := by
    intro n_3
    induction n_3 using Nat.strongRecOn with
    | ind n_3 ih_4 =>
      intro x1_6 x2_7 F_changes_8 F_state_9 F_cellsIn_10 F_unknownNear_11 F_hitNear_12 F_changed_13 F_waiting_14 rx1_6 rx2_7 h
      replace h := hInv_1 n_3 x1_6 x2_7 F_changes_8 F_state_9 F_cellsIn_10 F_unknownNear_11 F_hitNear_12 F_changed_13 F_waiting_14 rx1_6 rx2_7 h
      refine wa_iload_n C 2 rfl dX4_uncoverSafe_4 rfl ?_
      refine wa_aload_n C 0 rfl dX4_uncoverSafe_5 rfl ?_
      refine wa_getR C 11 1 dW_11 rfl rfl (by decide) okX4 gw_449 dX4_uncoverSafe_6 ?_
      refine wa_getI C 2 2 dW_2 rfl rfl (by decide) okX3 gw_53 dX4_uncoverSafe_9 (fun r_15 => ?_)
      refine wa_icmp_ge C (tgt := 55) rx2_7 r_15 dX4_uncoverSafe_12 (by decide) (fun c_16 => ?_) (fun c_16 => ?_)
      · replace h := h.1 c_16
        refine wa_iload_n C 1 rfl dX4_uncoverSafe_55 rfl ?_
        obtain ⟨b_17, h⟩ := h
        exact ret dX4_uncoverSafe_56 b_17 ⟨b_17, _, _, _, _, _, _, _, rfl, h⟩
      · replace h := h.2 c_16
        refine wa_aload_n C 0 rfl dX4_uncoverSafe_15 rfl ?_
        refine wa_getR C 11 2 dW_11 rfl rfl (by decide) okX4 gw_450 dX4_uncoverSafe_16 ?_
        refine wa_getR C 6 0 dW_6 rfl rfl (by decide) okX7 gw_297 dX4_uncoverSafe_19 ?_
        refine wa_iload_n C 2 rfl dX4_uncoverSafe_22 rfl ?_
        obtain ⟨t_18, h⟩ := h
        refine wa_iald C 44 dW_44 dX4_uncoverSafe_23 t_18.1 t_18.2 (fun v_19 ev_19 rv_19 => ?_)
        replace h := h v_19 ev_19 rv_19
        refine wa_iconst C (z := 1) dX4_uncoverSafe_24 rfl ?_
        obtain ⟨J_20, h, hJ_20⟩ := h
        have k_21 : ∀ (x1_22 : Int) (F_changes_23 : Int) (F_state_24 : Int → Int) (F_cellsIn_25 : Int → Int) (F_unknownNear_26 : Int → Int) (F_hitNear_27 : Int → Int) (F_changed_28 : Int → Int) (F_waiting_29 : Int → Int), inR x1_22 → J_20 x1_22 F_changes_23 F_state_24 F_cellsIn_25 F_unknownNear_26 F_hitNear_27 F_changed_28 F_waiting_29 → WA p l e ({ frames := 6, cells := 0, slots := 0, locals := 360 } : Room) s m args below meth c 0 0 Q K ad 3 A 49 [(0, .ref (ad 11)), (1, .int (iI x1_22)), (2, .int (iI x2_7))] [] (dW D_hasBoard D_beganBlank F_mines F_moves F_changes_23 G_width G_height G_size B_parts B_longest S_groups S_askedGroup S_taken R_waitingCount R_metCount A_grade A_cell A_mined A_withTotal A_numbers X_low X_high Y_low Y_high F_mined F_number F_state_24 F_cellsIn_25 F_unknownNear_26 F_hitNear_27 F_moveStart F_changed_28 F_waiting_29 F_seen G_near G_nearEnd B_chosen B_partOf B_rest B_unknowns B_partStart B_cells S_minedSet S_safeSet S_partSet S_tally S_askedTally S_groupOf S_groupSize S_links S_linkEnd S_pick S_groupMinedSet S_groupSafeSet O_sums O_nextSums R_found R_openEnds R_need R_waiting R_waits R_common R_met A_number Q_mined Q_all Q_choices Q_term Q_divisor Q_spare X_limbs X_sum Y_limbs Y_sum) := by
          intro x1_22 F_changes_23 F_state_24 F_cellsIn_25 F_unknownNear_26 F_hitNear_27 F_changed_28 F_waiting_29 rx1_22 h
          replace h := hJ_20 x1_22 F_changes_23 F_state_24 F_cellsIn_25 F_unknownNear_26 F_hitNear_27 F_changed_28 F_waiting_29 rx1_22 h
          obtain ⟨r_30, h⟩ := h
          refine wa_iinc C (lv' := fun w9 => [(2, .int (iI w9)), (0, .ref (ad 11)), (1, .int (iI x1_22))]) 2 rfl dX4_uncoverSafe_49 (by decide) (fun _ => rfl) (fun x2_31 ex2_31 => ?_)
          replace h := h x2_31 ex2_31
          have rx2_31 : inR x2_31 := by rw [ex2_31]; exact r_30
          refine wa_goto C (tgt := 4) dX4_uncoverSafe_52 (by decide) ?_
          obtain ⟨n_32, ln_32, h⟩ := h
          refine wa_sub C [1, 2, 0] rfl ?_
          exact ih_4 n_32 ln_32 x1_22 x2_31 F_changes_23 F_state_24 F_cellsIn_25 F_unknownNear_26 F_hitNear_27 F_changed_28 F_waiting_29 rx1_22 rx2_31 h
        refine wa_icmp_ne C (tgt := 49) rv_19 (inR_k 1 rfl) dX4_uncoverSafe_25 (by decide) (fun c_33 => ?_) (fun c_33 => ?_)
        · replace h := h.1 c_33
          refine wa_sub C [0, 1, 2] rfl ?_
          exact k_21 x1_6 F_changes_8 F_state_9 F_cellsIn_10 F_unknownNear_11 F_hitNear_12 F_changed_13 F_waiting_14 rx1_6 h
        · replace h := h.2 c_33
          refine wa_aload_n C 0 rfl dX4_uncoverSafe_28 rfl ?_
          refine wa_getR C 11 0 dW_11 rfl rfl (by decide) okX4 gw_448 dX4_uncoverSafe_29 ?_
          refine wa_iload_n C 2 rfl dX4_uncoverSafe_32 rfl ?_
          refine wa_callVi C (k := 1) (As := [.int (iI x2_7)]) (rest := []) (c_X2_isUnknown l K ad x2_7 rx2_7 _ h) gw_665 gw_846 dW_1 rfl gw_663 gw_664 gw_2 q_X2_isUnknown rfl rfl rfl ⟨by decide, by decide⟩ rfl (Nat.le_of_ble_eq_true rfl) dX4_uncoverSafe_33 (fun c_34 u9 rc_34 hp => ?_)
          obtain ⟨bc_34, rfl, h⟩ := hp
          replace h := h bc_34
          refine wa_if_eq C (tgt := 49) (inR_b bc_34) dX4_uncoverSafe_36 (by decide) (fun c_35 => ?_) (fun c_35 => ?_)
          · replace h := h.1 c_35
            refine wa_sub C [0, 1, 2] rfl ?_
            exact k_21 x1_6 F_changes_8 F_state_9 F_cellsIn_10 F_unknownNear_11 F_hitNear_12 F_changed_13 F_waiting_14 rx1_6 h
          · replace h := h.2 c_35
            refine wa_aload_n C 0 rfl dX4_uncoverSafe_39 rfl ?_
            refine wa_getR C 11 0 dW_11 rfl rfl (by decide) okX4 gw_448 dX4_uncoverSafe_40 ?_
            refine wa_iload_n C 2 rfl dX4_uncoverSafe_43 rfl ?_
            refine wa_callVv C (k := 1) (As := [.int (iI x2_7)]) (rest := []) (c_X2_uncover l K ad x2_7 rx2_7 _ h) gw_649 gw_646 dW_1 rfl gw_647 gw_648 gw_2 q_X2_uncover rfl rfl rfl ⟨by decide, by decide⟩ rfl (Nat.le_of_ble_eq_true rfl) dX4_uncoverSafe_44 (fun u9 hp => ?_)
            obtain ⟨F_changes_36, F_state_37, F_cellsIn_38, F_unknownNear_39, F_hitNear_40, F_changed_41, F_waiting_42, rfl, h⟩ := hp
            refine wa_iconst C (z := 1) dX4_uncoverSafe_47 rfl ?_
            refine wa_istore_n C dX4_uncoverSafe_48 rfl (by decide) rfl ?_
            refine wa_sub C [1, 0, 2] rfl ?_
            exact k_21 1 F_changes_36 F_state_37 F_cellsIn_38 F_unknownNear_39 F_hitNear_40 F_changed_41 F_waiting_42 (inR_k 1 rfl) h
  refine wa_sub C [2, 1, 0] rfl ?_
  exact k_5 n_2 0 0 F_changes F_state F_cellsIn F_unknownNear F_hitNear F_changed F_waiting (inR_k 0 rfl) (inR_k 0 rfl) h0Inv_1
def P_X4_settle (post : Int → (Int) → (Int) → (Int) → (Int) → (Int) → (Int) → (Int) → (Int) → (Int) → (Int) → (Int → Int) → (Int → Int) → (Int → Int) → (Int → Int) → (Int → Int) → (Int → Int) → (Int → Int) → (Int → Int) → (Int → Int) → (Int → Int) → (Int → Int) → (Int → Int) → (Int → Int) → (Int → Int) → (Int → Int) → (Int → Int) → (Int → Int) → (Int → Int) → (Int → Int) → (Int → Int) → (Int → Int) → (Int → Int) → (Int → Int) → (Int → Int) → (Int → Int) → (Int → Int) → (Int → Int64) → (Int → Int64) → (Int → Int) → (Int → Int) → (Int → Int) → (Int → Int) → (Int → Int) → (Int → Int) → (Int → Int) → Prop) (F_mines : Int) (F_moves : Int) (F_changes : Int) (G_width : Int) (G_height : Int) (G_size : Int) (B_parts : Int) (B_longest : Int) (S_groups : Int) (S_askedGroup : Int) (S_taken : Int) (R_waitingCount : Int) (R_metCount : Int) (F_mined : Int → Int) (F_number : Int → Int) (F_state : Int → Int) (F_cellsIn : Int → Int) (F_unknownNear : Int → Int) (F_hitNear : Int → Int) (F_changed : Int → Int) (F_waiting : Int → Int) (G_near : Int → Int) (G_nearEnd : Int → Int) (B_chosen : Int → Int) (B_partOf : Int → Int) (B_rest : Int → Int) (B_unknowns : Int → Int) (B_partStart : Int → Int) (B_cells : Int → Int) (S_minedSet : Int → Int) (S_safeSet : Int → Int) (S_partSet : Int → Int) (S_tally : Int → Int) (S_askedTally : Int → Int) (S_groupOf : Int → Int) (S_groupSize : Int → Int) (S_links : Int → Int) (S_linkEnd : Int → Int) (S_pick : Int → Int) (S_groupMinedSet : Int → Int) (S_groupSafeSet : Int → Int) (O_sums : Int → Int64) (O_nextSums : Int → Int64) (R_found : Int → Int) (R_openEnds : Int → Int) (R_need : Int → Int) (R_waiting : Int → Int) (R_waits : Int → Int) (R_common : Int → Int) (R_met : Int → Int) (x1 : Int) : Prop :=
  P_X4_playAnew (fun (F_moves_1 : Int) (F_changes_2 : Int) (F_state_3 : Int → Int) (F_cellsIn_4 : Int → Int) (F_unknownNear_5 : Int → Int) (F_hitNear_6 : Int → Int) (F_changed_7 : Int → Int) (F_waiting_8 : Int → Int) => (∃ Inv_9 : Nat → (Int) → (Int) → (Int) → (Int) → (Int) → (Int) → (Int) → (Int) → (Int) → (Int) → (Int) → (Int) → (Int) → (Int → Int) → (Int → Int) → (Int → Int) → (Int → Int) → (Int → Int) → (Int → Int) → (Int → Int) → (Int → Int) → (Int → Int) → (Int → Int) → (Int → Int) → (Int → Int) → (Int → Int) → (Int → Int) → (Int → Int) → (Int → Int) → (Int → Int) → (Int → Int) → (Int → Int) → (Int → Int) → (Int → Int) → (Int → Int) → (Int → Int) → (Int → Int) → (Int → Int) → (Int → Int) → (Int → Int64) → (Int → Int64) → (Int → Int) → (Int → Int) → (Int → Int) → (Int → Int) → (Int → Int) → (Int → Int) → (Int → Int) → Prop, (∃ n_10 : Nat, Inv_9 n_10 0 1 0 F_mines F_moves_1 F_changes_2 B_parts B_longest S_groups S_askedGroup S_taken R_waitingCount R_metCount F_mined F_number F_state_3 F_cellsIn_4 F_unknownNear_5 F_hitNear_6 F_changed_7 F_waiting_8 B_chosen B_partOf B_rest B_unknowns B_partStart B_cells S_minedSet S_safeSet S_partSet S_tally S_askedTally S_groupOf S_groupSize S_links S_linkEnd S_pick S_groupMinedSet S_groupSafeSet O_sums O_nextSums R_found R_openEnds R_need R_waiting R_waits R_common R_met) ∧ ∀ (n_11 : Nat) (x2_14 : Int) (x3_15 : Int) (x4_16 : Int) (F_mines_17 : Int) (F_moves_18 : Int) (F_changes_19 : Int) (B_parts_20 : Int) (B_longest_21 : Int) (S_groups_22 : Int) (S_askedGroup_23 : Int) (S_taken_24 : Int) (R_waitingCount_25 : Int) (R_metCount_26 : Int) (F_mined_27 : Int → Int) (F_number_28 : Int → Int) (F_state_29 : Int → Int) (F_cellsIn_30 : Int → Int) (F_unknownNear_31 : Int → Int) (F_hitNear_32 : Int → Int) (F_changed_33 : Int → Int) (F_waiting_34 : Int → Int) (B_chosen_35 : Int → Int) (B_partOf_36 : Int → Int) (B_rest_37 : Int → Int) (B_unknowns_38 : Int → Int) (B_partStart_39 : Int → Int) (B_cells_40 : Int → Int) (S_minedSet_41 : Int → Int) (S_safeSet_42 : Int → Int) (S_partSet_43 : Int → Int) (S_tally_44 : Int → Int) (S_askedTally_45 : Int → Int) (S_groupOf_46 : Int → Int) (S_groupSize_47 : Int → Int) (S_links_48 : Int → Int) (S_linkEnd_49 : Int → Int) (S_pick_50 : Int → Int) (S_groupMinedSet_51 : Int → Int) (S_groupSafeSet_52 : Int → Int) (O_sums_53 : Int → Int64) (O_nextSums_54 : Int → Int64) (R_found_55 : Int → Int) (R_openEnds_56 : Int → Int) (R_need_57 : Int → Int) (R_waiting_58 : Int → Int) (R_waits_59 : Int → Int) (R_common_60 : Int → Int) (R_met_61 : Int → Int), inR x2_14 → inR x3_15 → inR x4_16 → Inv_9 n_11 x2_14 x3_15 x4_16 F_mines_17 F_moves_18 F_changes_19 B_parts_20 B_longest_21 S_groups_22 S_askedGroup_23 S_taken_24 R_waitingCount_25 R_metCount_26 F_mined_27 F_number_28 F_state_29 F_cellsIn_30 F_unknownNear_31 F_hitNear_32 F_changed_33 F_waiting_34 B_chosen_35 B_partOf_36 B_rest_37 B_unknowns_38 B_partStart_39 B_cells_40 S_minedSet_41 S_safeSet_42 S_partSet_43 S_tally_44 S_askedTally_45 S_groupOf_46 S_groupSize_47 S_links_48 S_linkEnd_49 S_pick_50 S_groupMinedSet_51 S_groupSafeSet_52 O_sums_53 O_nextSums_54 R_found_55 R_openEnds_56 R_need_57 R_waiting_58 R_waits_59 R_common_60 R_met_61 → (∃ J_62 : Prop, ((43935 ≤ x4_16 → (J_62)) ∧ (¬ 43935 ≤ x4_16 → (P_X2_isSolved (fun (c_66 : Int) => (c_66 = 0 ∨ c_66 = 1) → ((¬ c_66 = 0 → (J_62)) ∧ (c_66 = 0 → (∃ J_68 : (Int) → (Int) → (Int) → (Int) → (Int) → (Int) → (Int) → (Int) → (Int) → (Int) → (Int) → (Int) → (Int → Int) → (Int → Int) → (Int → Int) → (Int → Int) → (Int → Int) → (Int → Int) → (Int → Int) → (Int → Int) → (Int → Int) → (Int → Int) → (Int → Int) → (Int → Int) → (Int → Int) → (Int → Int) → (Int → Int) → (Int → Int) → (Int → Int) → (Int → Int) → (Int → Int) → (Int → Int) → (Int → Int) → (Int → Int) → (Int → Int) → (Int → Int) → (Int → Int) → (Int → Int) → (Int → Int64) → (Int → Int64) → (Int → Int) → (Int → Int) → (Int → Int) → (Int → Int) → (Int → Int) → (Int → Int) → (Int → Int) → Prop, ((x1 < x3_15 → ((100 ≤ x2_14 → (post 0 F_mines_17 F_moves_18 F_changes_19 B_parts_20 B_longest_21 S_groups_22 S_askedGroup_23 S_taken_24 R_waitingCount_25 R_metCount_26 F_mined_27 F_number_28 F_state_29 F_cellsIn_30 F_unknownNear_31 F_hitNear_32 F_changed_33 F_waiting_34 B_chosen_35 B_partOf_36 B_rest_37 B_unknowns_38 B_partStart_39 B_cells_40 S_minedSet_41 S_safeSet_42 S_partSet_43 S_tally_44 S_askedTally_45 S_groupOf_46 S_groupSize_47 S_links_48 S_linkEnd_49 S_pick_50 S_groupMinedSet_51 S_groupSafeSet_52 O_sums_53 O_nextSums_54 R_found_55 R_openEnds_56 R_need_57 R_waiting_58 R_waits_59 R_common_60 R_met_61)) ∧ (¬ 100 ≤ x2_14 → (P_X4_shiftMine (fun (c_122 : Int) (F_mines_123 : Int) (F_mined_124 : Int → Int) (F_number_125 : Int → Int) => (c_122 = 0 ∨ c_122 = 1) → ((¬ c_122 = 0 → (inR (x2_14 + 1) ∧ (∀ x2_128 : Int, x2_128 = (x2_14 + 1) → (P_X4_playAnew (fun (F_moves_129 : Int) (F_changes_130 : Int) (F_state_131 : Int → Int) (F_cellsIn_132 : Int → Int) (F_unknownNear_133 : Int → Int) (F_hitNear_134 : Int → Int) (F_changed_135 : Int → Int) (F_waiting_136 : Int → Int) => (J_68 x2_128 1 F_mines_123 F_moves_129 F_changes_130 B_parts_20 B_longest_21 S_groups_22 S_askedGroup_23 S_taken_24 R_waitingCount_25 R_metCount_26 F_mined_124 F_number_125 F_state_131 F_cellsIn_132 F_unknownNear_133 F_hitNear_134 F_changed_135 F_waiting_136 B_chosen_35 B_partOf_36 B_rest_37 B_unknowns_38 B_partStart_39 B_cells_40 S_minedSet_41 S_safeSet_42 S_partSet_43 S_tally_44 S_askedTally_45 S_groupOf_46 S_groupSize_47 S_links_48 S_linkEnd_49 S_pick_50 S_groupMinedSet_51 S_groupSafeSet_52 O_sums_53 O_nextSums_54 R_found_55 R_openEnds_56 R_need_57 R_waiting_58 R_waits_59 R_common_60 R_met_61)) F_moves_18 F_changes_19 G_width G_height G_size F_mined_124 F_number_125 F_state_29 F_cellsIn_30 F_unknownNear_31 F_hitNear_32 F_changed_33 F_waiting_34 G_near G_nearEnd )))) ∧ (c_122 = 0 → (post 0 F_mines_123 F_moves_18 F_changes_19 B_parts_20 B_longest_21 S_groups_22 S_askedGroup_23 S_taken_24 R_waitingCount_25 R_metCount_26 F_mined_124 F_number_125 F_state_29 F_cellsIn_30 F_unknownNear_31 F_hitNear_32 F_changed_33 F_waiting_34 B_chosen_35 B_partOf_36 B_rest_37 B_unknowns_38 B_partStart_39 B_cells_40 S_minedSet_41 S_safeSet_42 S_partSet_43 S_tally_44 S_askedTally_45 S_groupOf_46 S_groupSize_47 S_links_48 S_linkEnd_49 S_pick_50 S_groupMinedSet_51 S_groupSafeSet_52 O_sums_53 O_nextSums_54 R_found_55 R_openEnds_56 R_need_57 R_waiting_58 R_waits_59 R_common_60 R_met_61)))) F_mines_17 G_size F_mined_27 F_number_28 F_state_29 G_near G_nearEnd )))) ∧ (¬ x1 < x3_15 → (P_X7_raise (fun (B_parts_137 : Int) (B_longest_138 : Int) (S_groups_139 : Int) (S_askedGroup_140 : Int) (S_taken_141 : Int) (R_waitingCount_142 : Int) (R_metCount_143 : Int) (B_chosen_144 : Int → Int) (B_partOf_145 : Int → Int) (B_rest_146 : Int → Int) (B_unknowns_147 : Int → Int) (B_partStart_148 : Int → Int) (B_cells_149 : Int → Int) (S_minedSet_150 : Int → Int) (S_safeSet_151 : Int → Int) (S_partSet_152 : Int → Int) (S_tally_153 : Int → Int) (S_askedTally_154 : Int → Int) (S_groupOf_155 : Int → Int) (S_groupSize_156 : Int → Int) (S_links_157 : Int → Int) (S_linkEnd_158 : Int → Int) (S_pick_159 : Int → Int) (S_groupMinedSet_160 : Int → Int) (S_groupSafeSet_161 : Int → Int) (O_sums_162 : Int → Int64) (O_nextSums_163 : Int → Int64) (R_found_164 : Int → Int) (R_openEnds_165 : Int → Int) (R_need_166 : Int → Int) (R_waiting_167 : Int → Int) (R_waits_168 : Int → Int) (R_common_169 : Int → Int) (R_met_170 : Int → Int) => (P_X4_uncoverSafe (fun (c_171 : Int) (F_changes_172 : Int) (F_state_173 : Int → Int) (F_cellsIn_174 : Int → Int) (F_unknownNear_175 : Int → Int) (F_hitNear_176 : Int → Int) (F_changed_177 : Int → Int) (F_waiting_178 : Int → Int) => (c_171 = 0 ∨ c_171 = 1) → (∃ J_179 : (Int) → Prop, ((c_171 = 0 → (inR (x3_15 + 1) ∧ (J_179 (x3_15 + 1)))) ∧ (¬ c_171 = 0 → (J_179 1))) ∧ (∀ (z_181 : Int), inR z_181 → J_179 z_181 → (J_68 x2_14 z_181 F_mines_17 F_moves_18 F_changes_172 B_parts_137 B_longest_138 S_groups_139 S_askedGroup_140 S_taken_141 R_waitingCount_142 R_metCount_143 F_mined_27 F_number_28 F_state_173 F_cellsIn_174 F_unknownNear_175 F_hitNear_176 F_changed_177 F_waiting_178 B_chosen_144 B_partOf_145 B_rest_146 B_unknowns_147 B_partStart_148 B_cells_149 S_minedSet_150 S_safeSet_151 S_partSet_152 S_tally_153 S_askedTally_154 S_groupOf_155 S_groupSize_156 S_links_157 S_linkEnd_158 S_pick_159 S_groupMinedSet_160 S_groupSafeSet_161 O_sums_162 O_nextSums_163 R_found_164 R_openEnds_165 R_need_166 R_waiting_167 R_waits_168 R_common_169 R_met_170)))) F_changes_19 G_size F_mined_27 F_number_28 F_state_29 F_cellsIn_30 F_unknownNear_31 F_hitNear_32 F_changed_33 F_waiting_34 G_near G_nearEnd R_found_164 )) F_mines_17 G_size B_parts_20 B_longest_21 S_groups_22 S_askedGroup_23 S_taken_24 R_waitingCount_25 R_metCount_26 F_number_28 F_state_29 F_cellsIn_30 F_unknownNear_31 F_hitNear_32 G_near G_nearEnd B_chosen_35 B_partOf_36 B_rest_37 B_unknowns_38 B_partStart_39 B_cells_40 S_minedSet_41 S_safeSet_42 S_partSet_43 S_tally_44 S_askedTally_45 S_groupOf_46 S_groupSize_47 S_links_48 S_linkEnd_49 S_pick_50 S_groupMinedSet_51 S_groupSafeSet_52 O_sums_53 O_nextSums_54 R_found_55 R_openEnds_56 R_need_57 R_waiting_58 R_waits_59 R_common_60 R_met_61 x3_15))) ∧ (∀ (x2_70 : Int) (x3_71 : Int) (F_mines_72 : Int) (F_moves_73 : Int) (F_changes_74 : Int) (B_parts_75 : Int) (B_longest_76 : Int) (S_groups_77 : Int) (S_askedGroup_78 : Int) (S_taken_79 : Int) (R_waitingCount_80 : Int) (R_metCount_81 : Int) (F_mined_82 : Int → Int) (F_number_83 : Int → Int) (F_state_84 : Int → Int) (F_cellsIn_85 : Int → Int) (F_unknownNear_86 : Int → Int) (F_hitNear_87 : Int → Int) (F_changed_88 : Int → Int) (F_waiting_89 : Int → Int) (B_chosen_90 : Int → Int) (B_partOf_91 : Int → Int) (B_rest_92 : Int → Int) (B_unknowns_93 : Int → Int) (B_partStart_94 : Int → Int) (B_cells_95 : Int → Int) (S_minedSet_96 : Int → Int) (S_safeSet_97 : Int → Int) (S_partSet_98 : Int → Int) (S_tally_99 : Int → Int) (S_askedTally_100 : Int → Int) (S_groupOf_101 : Int → Int) (S_groupSize_102 : Int → Int) (S_links_103 : Int → Int) (S_linkEnd_104 : Int → Int) (S_pick_105 : Int → Int) (S_groupMinedSet_106 : Int → Int) (S_groupSafeSet_107 : Int → Int) (O_sums_108 : Int → Int64) (O_nextSums_109 : Int → Int64) (R_found_110 : Int → Int) (R_openEnds_111 : Int → Int) (R_need_112 : Int → Int) (R_waiting_113 : Int → Int) (R_waits_114 : Int → Int) (R_common_115 : Int → Int) (R_met_116 : Int → Int), inR x2_70 → inR x3_71 → J_68 x2_70 x3_71 F_mines_72 F_moves_73 F_changes_74 B_parts_75 B_longest_76 S_groups_77 S_askedGroup_78 S_taken_79 R_waitingCount_80 R_metCount_81 F_mined_82 F_number_83 F_state_84 F_cellsIn_85 F_unknownNear_86 F_hitNear_87 F_changed_88 F_waiting_89 B_chosen_90 B_partOf_91 B_rest_92 B_unknowns_93 B_partStart_94 B_cells_95 S_minedSet_96 S_safeSet_97 S_partSet_98 S_tally_99 S_askedTally_100 S_groupOf_101 S_groupSize_102 S_links_103 S_linkEnd_104 S_pick_105 S_groupMinedSet_106 S_groupSafeSet_107 O_sums_108 O_nextSums_109 R_found_110 R_openEnds_111 R_need_112 R_waiting_113 R_waits_114 R_common_115 R_met_116 → (inR (x4_16 + 1) ∧ (∀ x4_118 : Int, x4_118 = (x4_16 + 1) → (∃ n_119 : Nat, n_119 < n_11 ∧ Inv_9 n_119 x2_70 x3_71 x4_118 F_mines_72 F_moves_73 F_changes_74 B_parts_75 B_longest_76 S_groups_77 S_askedGroup_78 S_taken_79 R_waitingCount_80 R_metCount_81 F_mined_82 F_number_83 F_state_84 F_cellsIn_85 F_unknownNear_86 F_hitNear_87 F_changed_88 F_waiting_89 B_chosen_90 B_partOf_91 B_rest_92 B_unknowns_93 B_partStart_94 B_cells_95 S_minedSet_96 S_safeSet_97 S_partSet_98 S_tally_99 S_askedTally_100 S_groupOf_101 S_groupSize_102 S_links_103 S_linkEnd_104 S_pick_105 S_groupMinedSet_106 S_groupSafeSet_107 O_sums_108 O_nextSums_109 R_found_110 R_openEnds_111 R_need_112 R_waiting_113 R_waits_114 R_common_115 R_met_116)))))))) F_mines_17 G_size F_cellsIn_30 ))) ∧ (J_62 → (P_X2_isSolved (fun (c_64 : Int) => (c_64 = 0 ∨ c_64 = 1) → (post c_64 F_mines_17 F_moves_18 F_changes_19 B_parts_20 B_longest_21 S_groups_22 S_askedGroup_23 S_taken_24 R_waitingCount_25 R_metCount_26 F_mined_27 F_number_28 F_state_29 F_cellsIn_30 F_unknownNear_31 F_hitNear_32 F_changed_33 F_waiting_34 B_chosen_35 B_partOf_36 B_rest_37 B_unknowns_38 B_partStart_39 B_cells_40 S_minedSet_41 S_safeSet_42 S_partSet_43 S_tally_44 S_askedTally_45 S_groupOf_46 S_groupSize_47 S_links_48 S_linkEnd_49 S_pick_50 S_groupMinedSet_51 S_groupSafeSet_52 O_sums_53 O_nextSums_54 R_found_55 R_openEnds_56 R_need_57 R_waiting_58 R_waits_59 R_common_60 R_met_61)) F_mines_17 G_size F_cellsIn_30 ))))) F_moves F_changes G_width G_height G_size F_mined F_number F_state F_cellsIn F_unknownNear F_hitNear F_changed F_waiting G_near G_nearEnd 
set_option maxRecDepth 100000 in
set_option maxHeartbeats 4000000 in
theorem c_X4_settle (l : Launch) (K : wK) (ad : Nat → Nat) {D_hasBoard : Int} {D_beganBlank : Int} {F_mines : Int} {F_moves : Int} {F_changes : Int} {G_width : Int} {G_height : Int} {G_size : Int} {B_parts : Int} {B_longest : Int} {S_groups : Int} {S_askedGroup : Int} {S_taken : Int} {R_waitingCount : Int} {R_metCount : Int} {A_grade : Int} {A_cell : Int} {A_mined : Int} {A_withTotal : Int} {A_numbers : Int} {X_low : Int} {X_high : Int} {Y_low : Int} {Y_high : Int} {F_mined : Int → Int} {F_number : Int → Int} {F_state : Int → Int} {F_cellsIn : Int → Int} {F_unknownNear : Int → Int} {F_hitNear : Int → Int} {F_moveStart : Int → Int} {F_changed : Int → Int} {F_waiting : Int → Int} {F_seen : Int → Int} {G_near : Int → Int} {G_nearEnd : Int → Int} {B_chosen : Int → Int} {B_partOf : Int → Int} {B_rest : Int → Int} {B_unknowns : Int → Int} {B_partStart : Int → Int} {B_cells : Int → Int} {S_minedSet : Int → Int} {S_safeSet : Int → Int} {S_partSet : Int → Int} {S_tally : Int → Int} {S_askedTally : Int → Int} {S_groupOf : Int → Int} {S_groupSize : Int → Int} {S_links : Int → Int} {S_linkEnd : Int → Int} {S_pick : Int → Int} {S_groupMinedSet : Int → Int} {S_groupSafeSet : Int → Int} {O_sums : Int → Int64} {O_nextSums : Int → Int64} {R_found : Int → Int} {R_openEnds : Int → Int} {R_need : Int → Int} {R_waiting : Int → Int} {R_waits : Int → Int} {R_common : Int → Int} {R_met : Int → Int} {A_number : Int → Int} {Q_mined : Int → Int64} {Q_all : Int → Int64} {Q_choices : Int → Int64} {Q_term : Int → Int64} {Q_divisor : Int → Int64} {Q_spare : Int → Int64} {X_limbs : Int → Int64} {X_sum : Int → Int64} {Y_limbs : Int → Int64} {Y_sum : Int → Int64} (x1 : Int) (rx1 : inR x1) (post : Int → (Int) → (Int) → (Int) → (Int) → (Int) → (Int) → (Int) → (Int) → (Int) → (Int) → (Int → Int) → (Int → Int) → (Int → Int) → (Int → Int) → (Int → Int) → (Int → Int) → (Int → Int) → (Int → Int) → (Int → Int) → (Int → Int) → (Int → Int) → (Int → Int) → (Int → Int) → (Int → Int) → (Int → Int) → (Int → Int) → (Int → Int) → (Int → Int) → (Int → Int) → (Int → Int) → (Int → Int) → (Int → Int) → (Int → Int) → (Int → Int) → (Int → Int) → (Int → Int) → (Int → Int64) → (Int → Int64) → (Int → Int) → (Int → Int) → (Int → Int) → (Int → Int) → (Int → Int) → (Int → Int) → (Int → Int) → Prop) (h : P_X4_settle post F_mines F_moves F_changes G_width G_height G_size B_parts B_longest S_groups S_askedGroup S_taken R_waitingCount R_metCount F_mined F_number F_state F_cellsIn F_unknownNear F_hitNear F_changed F_waiting G_near G_nearEnd B_chosen B_partOf B_rest B_unknowns B_partStart B_cells S_minedSet S_safeSet S_partSet S_tally S_askedTally S_groupOf S_groupSize S_links S_linkEnd S_pick S_groupMinedSet S_groupSafeSet O_sums O_nextSums R_found R_openEnds R_need R_waiting R_waits R_common R_met x1) : mI l yX4_settle (Cond.code yX4_settle cX4_settle 5 (some .boolean) :: GT) ({ frames := 26, cells := 0, slots := 0, locals := 1560 } : Room) [.ref (ad 11), .int (iI x1)] K ad (dW D_hasBoard D_beganBlank F_mines F_moves F_changes G_width G_height G_size B_parts B_longest S_groups S_askedGroup S_taken R_waitingCount R_metCount A_grade A_cell A_mined A_withTotal A_numbers X_low X_high Y_low Y_high F_mined F_number F_state F_cellsIn F_unknownNear F_hitNear F_moveStart F_changed F_waiting F_seen G_near G_nearEnd B_chosen B_partOf B_rest B_unknowns B_partStart B_cells S_minedSet S_safeSet S_partSet S_tally S_askedTally S_groupOf S_groupSize S_links S_linkEnd S_pick S_groupMinedSet S_groupSafeSet O_sums O_nextSums R_found R_openEnds R_need R_waiting R_waits R_common R_met A_number Q_mined Q_all Q_choices Q_term Q_divisor Q_spare X_limbs X_sum Y_limbs Y_sum) (fun z9 u9 => (z9 = 0 ∨ z9 = 1) ∧ ∃ F_mines9 F_moves9 F_changes9 B_parts9 B_longest9 S_groups9 S_askedGroup9 S_taken9 R_waitingCount9 R_metCount9 F_mined9 F_number9 F_state9 F_cellsIn9 F_unknownNear9 F_hitNear9 F_changed9 F_waiting9 B_chosen9 B_partOf9 B_rest9 B_unknowns9 B_partStart9 B_cells9 S_minedSet9 S_safeSet9 S_partSet9 S_tally9 S_askedTally9 S_groupOf9 S_groupSize9 S_links9 S_linkEnd9 S_pick9 S_groupMinedSet9 S_groupSafeSet9 O_sums9 O_nextSums9 R_found9 R_openEnds9 R_need9 R_waiting9 R_waits9 R_common9 R_met9, u9 = (dW D_hasBoard D_beganBlank F_mines9 F_moves9 F_changes9 G_width G_height G_size B_parts9 B_longest9 S_groups9 S_askedGroup9 S_taken9 R_waitingCount9 R_metCount9 A_grade A_cell A_mined A_withTotal A_numbers X_low X_high Y_low Y_high F_mined9 F_number9 F_state9 F_cellsIn9 F_unknownNear9 F_hitNear9 F_moveStart F_changed9 F_waiting9 F_seen G_near G_nearEnd B_chosen9 B_partOf9 B_rest9 B_unknowns9 B_partStart9 B_cells9 S_minedSet9 S_safeSet9 S_partSet9 S_tally9 S_askedTally9 S_groupOf9 S_groupSize9 S_links9 S_linkEnd9 S_pick9 S_groupMinedSet9 S_groupSafeSet9 O_sums9 O_nextSums9 R_found9 R_openEnds9 R_need9 R_waiting9 R_waits9 R_common9 R_met9 A_number Q_mined Q_all Q_choices Q_term Q_divisor Q_spare X_limbs X_sum Y_limbs Y_sum) ∧ post z9 F_mines9 F_moves9 F_changes9 B_parts9 B_longest9 S_groups9 S_askedGroup9 S_taken9 R_waitingCount9 R_metCount9 F_mined9 F_number9 F_state9 F_cellsIn9 F_unknownNear9 F_hitNear9 F_changed9 F_waiting9 B_chosen9 B_partOf9 B_rest9 B_unknowns9 B_partStart9 B_cells9 S_minedSet9 S_safeSet9 S_partSet9 S_tally9 S_askedTally9 S_groupOf9 S_groupSize9 S_links9 S_linkEnd9 S_pick9 S_groupMinedSet9 S_groupSafeSet9 O_sums9 O_nextSums9 R_found9 R_openEnds9 R_need9 R_waiting9 R_waits9 R_common9 R_met9) := by
  refine mZ_of (lv0 := [(0, .ref (ad 11)), (1, .int (iI x1))]) (by decide) (Nat.le_of_ble_eq_true rfl) rfl ?_
  intro p e s m args below meth c Q A C ret
  replace C : Cx p ({ frames := 26, cells := 0, slots := 0, locals := 1560 } : Room) m c 0 0 cX4_settle 5 s args RX4 K A := C
  unfold P_X4_settle at h
  refine wa_aload_n C 0 rfl dX4_settle_0 rfl ?_
  refine wa_callVv C (k := 11) (As := []) (rest := []) (c_X4_playAnew l K ad  _ h) gw_644 gw_641 dW_11 rfl gw_643 gs_6 gw_11 q_X4_playAnew rfl rfl rfl ⟨by decide, by decide⟩ rfl (Nat.le_of_ble_eq_true rfl) dX4_settle_1 (fun u9 hp => ?_)
  obtain ⟨F_moves_1, F_changes_2, F_state_3, F_cellsIn_4, F_unknownNear_5, F_hitNear_6, F_changed_7, F_waiting_8, rfl, h⟩ := hp
  refine wa_iconst C (z := 0) dX4_settle_4 rfl ?_
  refine wa_istore_n C dX4_settle_5 rfl (by decide) rfl ?_
  refine wa_iconst C (z := 1) dX4_settle_6 rfl ?_
  refine wa_istore_n C dX4_settle_7 rfl (by decide) rfl ?_
  refine wa_iconst C (z := 0) dX4_settle_8 rfl ?_
  refine wa_istore C dX4_settle_9 (by decide) rfl ?_
  obtain ⟨Inv_9, ⟨n_10, h0Inv_9⟩, hInv_9⟩ := h
  have k_13 : ∀ (n_11 : Nat) (x2_14 : Int) (x3_15 : Int) (x4_16 : Int) (F_mines_17 : Int) (F_moves_18 : Int) (F_changes_19 : Int) (B_parts_20 : Int) (B_longest_21 : Int) (S_groups_22 : Int) (S_askedGroup_23 : Int) (S_taken_24 : Int) (R_waitingCount_25 : Int) (R_metCount_26 : Int) (F_mined_27 : Int → Int) (F_number_28 : Int → Int) (F_state_29 : Int → Int) (F_cellsIn_30 : Int → Int) (F_unknownNear_31 : Int → Int) (F_hitNear_32 : Int → Int) (F_changed_33 : Int → Int) (F_waiting_34 : Int → Int) (B_chosen_35 : Int → Int) (B_partOf_36 : Int → Int) (B_rest_37 : Int → Int) (B_unknowns_38 : Int → Int) (B_partStart_39 : Int → Int) (B_cells_40 : Int → Int) (S_minedSet_41 : Int → Int) (S_safeSet_42 : Int → Int) (S_partSet_43 : Int → Int) (S_tally_44 : Int → Int) (S_askedTally_45 : Int → Int) (S_groupOf_46 : Int → Int) (S_groupSize_47 : Int → Int) (S_links_48 : Int → Int) (S_linkEnd_49 : Int → Int) (S_pick_50 : Int → Int) (S_groupMinedSet_51 : Int → Int) (S_groupSafeSet_52 : Int → Int) (O_sums_53 : Int → Int64) (O_nextSums_54 : Int → Int64) (R_found_55 : Int → Int) (R_openEnds_56 : Int → Int) (R_need_57 : Int → Int) (R_waiting_58 : Int → Int) (R_waits_59 : Int → Int) (R_common_60 : Int → Int) (R_met_61 : Int → Int), inR x2_14 → inR x3_15 → inR x4_16 → Inv_9 n_11 x2_14 x3_15 x4_16 F_mines_17 F_moves_18 F_changes_19 B_parts_20 B_longest_21 S_groups_22 S_askedGroup_23 S_taken_24 R_waitingCount_25 R_metCount_26 F_mined_27 F_number_28 F_state_29 F_cellsIn_30 F_unknownNear_31 F_hitNear_32 F_changed_33 F_waiting_34 B_chosen_35 B_partOf_36 B_rest_37 B_unknowns_38 B_partStart_39 B_cells_40 S_minedSet_41 S_safeSet_42 S_partSet_43 S_tally_44 S_askedTally_45 S_groupOf_46 S_groupSize_47 S_links_48 S_linkEnd_49 S_pick_50 S_groupMinedSet_51 S_groupSafeSet_52 O_sums_53 O_nextSums_54 R_found_55 R_openEnds_56 R_need_57 R_waiting_58 R_waits_59 R_common_60 R_met_61 → WA p l e ({ frames := 26, cells := 0, slots := 0, locals := 1560 } : Room) s m args below meth c 0 0 Q K ad 5 A 11 [(0, .ref (ad 11)), (1, .int (iI x1)), (2, .int (iI x2_14)), (3, .int (iI x3_15)), (4, .int (iI x4_16))] [] (dW D_hasBoard D_beganBlank F_mines_17 F_moves_18 F_changes_19 G_width G_height G_size B_parts_20 B_longest_21 S_groups_22 S_askedGroup_23 S_taken_24 R_waitingCount_25 R_metCount_26 A_grade A_cell A_mined A_withTotal A_numbers X_low X_high Y_low Y_high F_mined_27 F_number_28 F_state_29 F_cellsIn_30 F_unknownNear_31 F_hitNear_32 F_moveStart F_changed_33 F_waiting_34 F_seen G_near G_nearEnd B_chosen_35 B_partOf_36 B_rest_37 B_unknowns_38 B_partStart_39 B_cells_40 S_minedSet_41 S_safeSet_42 S_partSet_43 S_tally_44 S_askedTally_45 S_groupOf_46 S_groupSize_47 S_links_48 S_linkEnd_49 S_pick_50 S_groupMinedSet_51 S_groupSafeSet_52 O_sums_53 O_nextSums_54 R_found_55 R_openEnds_56 R_need_57 R_waiting_58 R_waits_59 R_common_60 R_met_61 A_number Q_mined Q_all Q_choices Q_term Q_divisor Q_spare X_limbs X_sum Y_limbs Y_sum) := by
    intro n_11
    induction n_11 using Nat.strongRecOn with
    | ind n_11 ih_12 =>
      intro x2_14 x3_15 x4_16 F_mines_17 F_moves_18 F_changes_19 B_parts_20 B_longest_21 S_groups_22 S_askedGroup_23 S_taken_24 R_waitingCount_25 R_metCount_26 F_mined_27 F_number_28 F_state_29 F_cellsIn_30 F_unknownNear_31 F_hitNear_32 F_changed_33 F_waiting_34 B_chosen_35 B_partOf_36 B_rest_37 B_unknowns_38 B_partStart_39 B_cells_40 S_minedSet_41 S_safeSet_42 S_partSet_43 S_tally_44 S_askedTally_45 S_groupOf_46 S_groupSize_47 S_links_48 S_linkEnd_49 S_pick_50 S_groupMinedSet_51 S_groupSafeSet_52 O_sums_53 O_nextSums_54 R_found_55 R_openEnds_56 R_need_57 R_waiting_58 R_waits_59 R_common_60 R_met_61 rx2_14 rx3_15 rx4_16 h
      replace h := hInv_9 n_11 x2_14 x3_15 x4_16 F_mines_17 F_moves_18 F_changes_19 B_parts_20 B_longest_21 S_groups_22 S_askedGroup_23 S_taken_24 R_waitingCount_25 R_metCount_26 F_mined_27 F_number_28 F_state_29 F_cellsIn_30 F_unknownNear_31 F_hitNear_32 F_changed_33 F_waiting_34 B_chosen_35 B_partOf_36 B_rest_37 B_unknowns_38 B_partStart_39 B_cells_40 S_minedSet_41 S_safeSet_42 S_partSet_43 S_tally_44 S_askedTally_45 S_groupOf_46 S_groupSize_47 S_links_48 S_linkEnd_49 S_pick_50 S_groupMinedSet_51 S_groupSafeSet_52 O_sums_53 O_nextSums_54 R_found_55 R_openEnds_56 R_need_57 R_waiting_58 R_waits_59 R_common_60 R_met_61 rx2_14 rx3_15 rx4_16 h
      refine wa_iload C 4 rfl dX4_settle_11 ?_
      refine wa_ldc C (z := 43935) gw_666 rfl dX4_settle_13 ?_
      obtain ⟨J_62, h, hJ_62⟩ := h
      have k_63 : J_62 → WA p l e ({ frames := 26, cells := 0, slots := 0, locals := 1560 } : Room) s m args below meth c 0 0 Q K ad 5 A 89 [(0, .ref (ad 11))] [] (dW D_hasBoard D_beganBlank F_mines_17 F_moves_18 F_changes_19 G_width G_height G_size B_parts_20 B_longest_21 S_groups_22 S_askedGroup_23 S_taken_24 R_waitingCount_25 R_metCount_26 A_grade A_cell A_mined A_withTotal A_numbers X_low X_high Y_low Y_high F_mined_27 F_number_28 F_state_29 F_cellsIn_30 F_unknownNear_31 F_hitNear_32 F_moveStart F_changed_33 F_waiting_34 F_seen G_near G_nearEnd B_chosen_35 B_partOf_36 B_rest_37 B_unknowns_38 B_partStart_39 B_cells_40 S_minedSet_41 S_safeSet_42 S_partSet_43 S_tally_44 S_askedTally_45 S_groupOf_46 S_groupSize_47 S_links_48 S_linkEnd_49 S_pick_50 S_groupMinedSet_51 S_groupSafeSet_52 O_sums_53 O_nextSums_54 R_found_55 R_openEnds_56 R_need_57 R_waiting_58 R_waits_59 R_common_60 R_met_61 A_number Q_mined Q_all Q_choices Q_term Q_divisor Q_spare X_limbs X_sum Y_limbs Y_sum) := by
        intro h
        replace h := hJ_62 h
        refine wa_aload_n C 0 rfl dX4_settle_89 rfl ?_
        refine wa_getR C 11 0 dW_11 rfl rfl (by decide) okX4 gw_448 dX4_settle_90 ?_
        refine wa_callVi C (k := 1) (As := []) (rest := []) (c_X2_isSolved l K ad  _ h) gw_670 gw_667 dW_1 rfl gw_668 gw_669 gw_2 q_X2_isSolved rfl rfl rfl ⟨by decide, by decide⟩ rfl (Nat.le_of_ble_eq_true rfl) dX4_settle_93 (fun c_64 u9 rc_64 hp => ?_)
        obtain ⟨bc_64, rfl, h⟩ := hp
        replace h := h bc_64
        exact ret dX4_settle_96 bc_64 ⟨bc_64, _, _, _, _, _, _, _, _, _, _, _, _, _, _, _, _, _, _, _, _, _, _, _, _, _, _, _, _, _, _, _, _, _, _, _, _, _, _, _, _, _, _, _, _, _, rfl, h⟩
      refine wa_icmp_ge C (tgt := 89) rx4_16 (inR_k 43935 rfl) dX4_settle_15 (by decide) (fun c_65 => ?_) (fun c_65 => ?_)
      · replace h := h.1 c_65
        refine wa_sub C [0] rfl ?_
        exact k_63 h
      · replace h := h.2 c_65
        refine wa_aload_n C 0 rfl dX4_settle_18 rfl ?_
        refine wa_getR C 11 0 dW_11 rfl rfl (by decide) okX4 gw_448 dX4_settle_19 ?_
        refine wa_callVi C (k := 1) (As := []) (rest := []) (c_X2_isSolved l K ad  _ h) gw_670 gw_667 dW_1 rfl gw_668 gw_669 gw_2 q_X2_isSolved rfl rfl rfl ⟨by decide, by decide⟩ rfl (Nat.le_of_ble_eq_true rfl) dX4_settle_22 (fun c_66 u9 rc_66 hp => ?_)
        obtain ⟨bc_66, rfl, h⟩ := hp
        replace h := h bc_66
        refine wa_if_ne C (tgt := 89) (inR_b bc_66) dX4_settle_25 (by decide) (fun c_67 => ?_) (fun c_67 => ?_)
        · replace h := h.1 c_67
          refine wa_sub C [0] rfl ?_
          exact k_63 h
        · replace h := h.2 c_67
          refine wa_iload_n C 3 rfl dX4_settle_28 rfl ?_
          refine wa_iload_n C 1 rfl dX4_settle_29 rfl ?_
          obtain ⟨J_68, h, hJ_68⟩ := h
          have k_69 : ∀ (x2_70 : Int) (x3_71 : Int) (F_mines_72 : Int) (F_moves_73 : Int) (F_changes_74 : Int) (B_parts_75 : Int) (B_longest_76 : Int) (S_groups_77 : Int) (S_askedGroup_78 : Int) (S_taken_79 : Int) (R_waitingCount_80 : Int) (R_metCount_81 : Int) (F_mined_82 : Int → Int) (F_number_83 : Int → Int) (F_state_84 : Int → Int) (F_cellsIn_85 : Int → Int) (F_unknownNear_86 : Int → Int) (F_hitNear_87 : Int → Int) (F_changed_88 : Int → Int) (F_waiting_89 : Int → Int) (B_chosen_90 : Int → Int) (B_partOf_91 : Int → Int) (B_rest_92 : Int → Int) (B_unknowns_93 : Int → Int) (B_partStart_94 : Int → Int) (B_cells_95 : Int → Int) (S_minedSet_96 : Int → Int) (S_safeSet_97 : Int → Int) (S_partSet_98 : Int → Int) (S_tally_99 : Int → Int) (S_askedTally_100 : Int → Int) (S_groupOf_101 : Int → Int) (S_groupSize_102 : Int → Int) (S_links_103 : Int → Int) (S_linkEnd_104 : Int → Int) (S_pick_105 : Int → Int) (S_groupMinedSet_106 : Int → Int) (S_groupSafeSet_107 : Int → Int) (O_sums_108 : Int → Int64) (O_nextSums_109 : Int → Int64) (R_found_110 : Int → Int) (R_openEnds_111 : Int → Int) (R_need_112 : Int → Int) (R_waiting_113 : Int → Int) (R_waits_114 : Int → Int) (R_common_115 : Int → Int) (R_met_116 : Int → Int), inR x2_70 → inR x3_71 → J_68 x2_70 x3_71 F_mines_72 F_moves_73 F_changes_74 B_parts_75 B_longest_76 S_groups_77 S_askedGroup_78 S_taken_79 R_waitingCount_80 R_metCount_81 F_mined_82 F_number_83 F_state_84 F_cellsIn_85 F_unknownNear_86 F_hitNear_87 F_changed_88 F_waiting_89 B_chosen_90 B_partOf_91 B_rest_92 B_unknowns_93 B_partStart_94 B_cells_95 S_minedSet_96 S_safeSet_97 S_partSet_98 S_tally_99 S_askedTally_100 S_groupOf_101 S_groupSize_102 S_links_103 S_linkEnd_104 S_pick_105 S_groupMinedSet_106 S_groupSafeSet_107 O_sums_108 O_nextSums_109 R_found_110 R_openEnds_111 R_need_112 R_waiting_113 R_waits_114 R_common_115 R_met_116 → WA p l e ({ frames := 26, cells := 0, slots := 0, locals := 1560 } : Room) s m args below meth c 0 0 Q K ad 5 A 83 [(0, .ref (ad 11)), (1, .int (iI x1)), (2, .int (iI x2_70)), (3, .int (iI x3_71)), (4, .int (iI x4_16))] [] (dW D_hasBoard D_beganBlank F_mines_72 F_moves_73 F_changes_74 G_width G_height G_size B_parts_75 B_longest_76 S_groups_77 S_askedGroup_78 S_taken_79 R_waitingCount_80 R_metCount_81 A_grade A_cell A_mined A_withTotal A_numbers X_low X_high Y_low Y_high F_mined_82 F_number_83 F_state_84 F_cellsIn_85 F_unknownNear_86 F_hitNear_87 F_moveStart F_changed_88 F_waiting_89 F_seen G_near G_nearEnd B_chosen_90 B_partOf_91 B_rest_92 B_unknowns_93 B_partStart_94 B_cells_95 S_minedSet_96 S_safeSet_97 S_partSet_98 S_tally_99 S_askedTally_100 S_groupOf_101 S_groupSize_102 S_links_103 S_linkEnd_104 S_pick_105 S_groupMinedSet_106 S_groupSafeSet_107 O_sums_108 O_nextSums_109 R_found_110 R_openEnds_111 R_need_112 R_waiting_113 R_waits_114 R_common_115 R_met_116 A_number Q_mined Q_all Q_choices Q_term Q_divisor Q_spare X_limbs X_sum Y_limbs Y_sum) := by
            intro x2_70 x3_71 F_mines_72 F_moves_73 F_changes_74 B_parts_75 B_longest_76 S_groups_77 S_askedGroup_78 S_taken_79 R_waitingCount_80 R_metCount_81 F_mined_82 F_number_83 F_state_84 F_cellsIn_85 F_unknownNear_86 F_hitNear_87 F_changed_88 F_waiting_89 B_chosen_90 B_partOf_91 B_rest_92 B_unknowns_93 B_partStart_94 B_cells_95 S_minedSet_96 S_safeSet_97 S_partSet_98 S_tally_99 S_askedTally_100 S_groupOf_101 S_groupSize_102 S_links_103 S_linkEnd_104 S_pick_105 S_groupMinedSet_106 S_groupSafeSet_107 O_sums_108 O_nextSums_109 R_found_110 R_openEnds_111 R_need_112 R_waiting_113 R_waits_114 R_common_115 R_met_116 rx2_70 rx3_71 h
            replace h := hJ_68 x2_70 x3_71 F_mines_72 F_moves_73 F_changes_74 B_parts_75 B_longest_76 S_groups_77 S_askedGroup_78 S_taken_79 R_waitingCount_80 R_metCount_81 F_mined_82 F_number_83 F_state_84 F_cellsIn_85 F_unknownNear_86 F_hitNear_87 F_changed_88 F_waiting_89 B_chosen_90 B_partOf_91 B_rest_92 B_unknowns_93 B_partStart_94 B_cells_95 S_minedSet_96 S_safeSet_97 S_partSet_98 S_tally_99 S_askedTally_100 S_groupOf_101 S_groupSize_102 S_links_103 S_linkEnd_104 S_pick_105 S_groupMinedSet_106 S_groupSafeSet_107 O_sums_108 O_nextSums_109 R_found_110 R_openEnds_111 R_need_112 R_waiting_113 R_waits_114 R_common_115 R_met_116 rx2_70 rx3_71 h
            obtain ⟨r_117, h⟩ := h
            refine wa_iinc C (lv' := fun w9 => [(4, .int (iI w9)), (0, .ref (ad 11)), (1, .int (iI x1)), (2, .int (iI x2_70)), (3, .int (iI x3_71))]) 4 rfl dX4_settle_83 (by decide) (fun _ => rfl) (fun x4_118 ex4_118 => ?_)
            replace h := h x4_118 ex4_118
            have rx4_118 : inR x4_118 := by rw [ex4_118]; exact r_117
            refine wa_goto C (tgt := 11) dX4_settle_86 (by decide) ?_
            obtain ⟨n_119, ln_119, h⟩ := h
            refine wa_sub C [1, 2, 3, 4, 0] rfl ?_
            exact ih_12 n_119 ln_119 x2_70 x3_71 x4_118 F_mines_72 F_moves_73 F_changes_74 B_parts_75 B_longest_76 S_groups_77 S_askedGroup_78 S_taken_79 R_waitingCount_80 R_metCount_81 F_mined_82 F_number_83 F_state_84 F_cellsIn_85 F_unknownNear_86 F_hitNear_87 F_changed_88 F_waiting_89 B_chosen_90 B_partOf_91 B_rest_92 B_unknowns_93 B_partStart_94 B_cells_95 S_minedSet_96 S_safeSet_97 S_partSet_98 S_tally_99 S_askedTally_100 S_groupOf_101 S_groupSize_102 S_links_103 S_linkEnd_104 S_pick_105 S_groupMinedSet_106 S_groupSafeSet_107 O_sums_108 O_nextSums_109 R_found_110 R_openEnds_111 R_need_112 R_waiting_113 R_waits_114 R_common_115 R_met_116 rx2_70 rx3_71 rx4_118 h
          refine wa_icmp_gt C (tgt := 59) rx3_15 rx1 dX4_settle_30 (by decide) (fun c_120 => ?_) (fun c_120 => ?_)
          · replace h := h.1 c_120
            refine wa_iload_n C 2 rfl dX4_settle_59 rfl ?_
            refine wa_bipush C (z := 100) dX4_settle_60 (by decide) ?_
            refine wa_icmp_ge C (tgt := 72) rx2_14 (inR_k 100 rfl) dX4_settle_62 (by decide) (fun c_121 => ?_) (fun c_121 => ?_)
            · replace h := h.1 c_121
              refine wa_iconst C (z := 0) dX4_settle_72 rfl ?_
              exact ret dX4_settle_73 (Or.inl rfl) ⟨(Or.inl rfl), _, _, _, _, _, _, _, _, _, _, _, _, _, _, _, _, _, _, _, _, _, _, _, _, _, _, _, _, _, _, _, _, _, _, _, _, _, _, _, _, _, _, _, _, _, rfl, h⟩
            · replace h := h.2 c_121
              refine wa_aload_n C 0 rfl dX4_settle_65 rfl ?_
              refine wa_callVi C (k := 11) (As := []) (rest := []) (c_X4_shiftMine l K ad  _ h) gw_850 gw_847 dW_11 rfl gw_849 gs_35 gw_11 q_X4_shiftMine rfl rfl rfl ⟨by decide, by decide⟩ rfl (Nat.le_of_ble_eq_true rfl) dX4_settle_66 (fun c_122 u9 rc_122 hp => ?_)
              obtain ⟨bc_122, F_mines_123, F_mined_124, F_number_125, rfl, h⟩ := hp
              replace h := h bc_122
              refine wa_if_ne C (tgt := 74) (inR_b bc_122) dX4_settle_69 (by decide) (fun c_126 => ?_) (fun c_126 => ?_)
              · replace h := h.1 c_126
                obtain ⟨r_127, h⟩ := h
                refine wa_iinc C (lv' := fun w9 => [(2, .int (iI w9)), (0, .ref (ad 11)), (1, .int (iI x1)), (3, .int (iI x3_15)), (4, .int (iI x4_16))]) 2 rfl dX4_settle_74 (by decide) (fun _ => rfl) (fun x2_128 ex2_128 => ?_)
                replace h := h x2_128 ex2_128
                have rx2_128 : inR x2_128 := by rw [ex2_128]; exact r_127
                refine wa_aload_n C 1 rfl dX4_settle_77 rfl ?_
                refine wa_callVv C (k := 11) (As := []) (rest := []) (c_X4_playAnew l K ad  _ h) gw_644 gw_641 dW_11 rfl gw_643 gs_6 gw_11 q_X4_playAnew rfl rfl rfl ⟨by decide, by decide⟩ rfl (Nat.le_of_ble_eq_true rfl) dX4_settle_78 (fun u9 hp => ?_)
                obtain ⟨F_moves_129, F_changes_130, F_state_131, F_cellsIn_132, F_unknownNear_133, F_hitNear_134, F_changed_135, F_waiting_136, rfl, h⟩ := hp
                refine wa_iconst C (z := 1) dX4_settle_81 rfl ?_
                refine wa_istore_n C dX4_settle_82 rfl (by decide) rfl ?_
                refine wa_sub C [2, 3, 1, 0, 4] rfl ?_
                exact k_69 x2_128 1 F_mines_123 F_moves_129 F_changes_130 B_parts_20 B_longest_21 S_groups_22 S_askedGroup_23 S_taken_24 R_waitingCount_25 R_metCount_26 F_mined_124 F_number_125 F_state_131 F_cellsIn_132 F_unknownNear_133 F_hitNear_134 F_changed_135 F_waiting_136 B_chosen_35 B_partOf_36 B_rest_37 B_unknowns_38 B_partStart_39 B_cells_40 S_minedSet_41 S_safeSet_42 S_partSet_43 S_tally_44 S_askedTally_45 S_groupOf_46 S_groupSize_47 S_links_48 S_linkEnd_49 S_pick_50 S_groupMinedSet_51 S_groupSafeSet_52 O_sums_53 O_nextSums_54 R_found_55 R_openEnds_56 R_need_57 R_waiting_58 R_waits_59 R_common_60 R_met_61 rx2_128 (inR_k 1 rfl) h
              · replace h := h.2 c_126
                refine wa_iconst C (z := 0) dX4_settle_72 rfl ?_
                exact ret dX4_settle_73 (Or.inl rfl) ⟨(Or.inl rfl), _, _, _, _, _, _, _, _, _, _, _, _, _, _, _, _, _, _, _, _, _, _, _, _, _, _, _, _, _, _, _, _, _, _, _, _, _, _, _, _, _, _, _, _, _, rfl, h⟩
          · replace h := h.2 c_120
            refine wa_aload_n C 0 rfl dX4_settle_33 rfl ?_
            refine wa_getR C 11 2 dW_11 rfl rfl (by decide) okX4 gw_450 dX4_settle_34 ?_
            refine wa_iload_n C 3 rfl dX4_settle_37 rfl ?_
            refine wa_callVv C (k := 6) (As := [.int (iI x3_15)]) (rest := []) (c_X7_raise l K ad x3_15 rx3_15 _ h) gw_674 gw_671 dW_6 rfl gw_672 gw_673 gw_7 q_X7_raise rfl rfl rfl ⟨by decide, by decide⟩ rfl (Nat.le_of_ble_eq_true rfl) dX4_settle_38 (fun u9 hp => ?_)
            obtain ⟨B_parts_137, B_longest_138, S_groups_139, S_askedGroup_140, S_taken_141, R_waitingCount_142, R_metCount_143, B_chosen_144, B_partOf_145, B_rest_146, B_unknowns_147, B_partStart_148, B_cells_149, S_minedSet_150, S_safeSet_151, S_partSet_152, S_tally_153, S_askedTally_154, S_groupOf_155, S_groupSize_156, S_links_157, S_linkEnd_158, S_pick_159, S_groupMinedSet_160, S_groupSafeSet_161, O_sums_162, O_nextSums_163, R_found_164, R_openEnds_165, R_need_166, R_waiting_167, R_waits_168, R_common_169, R_met_170, rfl, h⟩ := hp
            refine wa_aload_n C 0 rfl dX4_settle_41 rfl ?_
            refine wa_callVi C (k := 11) (As := []) (rest := []) (c_X4_uncoverSafe l K ad  _ h) gw_845 gw_842 dW_11 rfl gw_844 gs_34 gw_11 q_X4_uncoverSafe rfl rfl rfl ⟨by decide, by decide⟩ rfl (Nat.le_of_ble_eq_true rfl) dX4_settle_42 (fun c_171 u9 rc_171 hp => ?_)
            obtain ⟨bc_171, F_changes_172, F_state_173, F_cellsIn_174, F_unknownNear_175, F_hitNear_176, F_changed_177, F_waiting_178, rfl, h⟩ := hp
            replace h := h bc_171
            obtain ⟨J_179, h, hJ_179⟩ := h
            have k_180 : ∀ (z_181 : Int), inR z_181 → J_179 z_181 → WA p l e ({ frames := 26, cells := 0, slots := 0, locals := 1560 } : Room) s m args below meth c 0 0 Q K ad 5 A 55 [(0, .ref (ad 11)), (1, .int (iI x1)), (2, .int (iI x2_14)), (4, .int (iI x4_16))] [.int (iI z_181)] (dW D_hasBoard D_beganBlank F_mines_17 F_moves_18 F_changes_172 G_width G_height G_size B_parts_137 B_longest_138 S_groups_139 S_askedGroup_140 S_taken_141 R_waitingCount_142 R_metCount_143 A_grade A_cell A_mined A_withTotal A_numbers X_low X_high Y_low Y_high F_mined_27 F_number_28 F_state_173 F_cellsIn_174 F_unknownNear_175 F_hitNear_176 F_moveStart F_changed_177 F_waiting_178 F_seen G_near G_nearEnd B_chosen_144 B_partOf_145 B_rest_146 B_unknowns_147 B_partStart_148 B_cells_149 S_minedSet_150 S_safeSet_151 S_partSet_152 S_tally_153 S_askedTally_154 S_groupOf_155 S_groupSize_156 S_links_157 S_linkEnd_158 S_pick_159 S_groupMinedSet_160 S_groupSafeSet_161 O_sums_162 O_nextSums_163 R_found_164 R_openEnds_165 R_need_166 R_waiting_167 R_waits_168 R_common_169 R_met_170 A_number Q_mined Q_all Q_choices Q_term Q_divisor Q_spare X_limbs X_sum Y_limbs Y_sum) := by
              intro z_181 rz_181 h
              replace h := hJ_179 z_181 rz_181 h
              refine wa_istore_n C dX4_settle_55 rfl (by decide) rfl ?_
              refine wa_goto C (tgt := 83) dX4_settle_56 (by decide) ?_
              refine wa_sub C [1, 2, 3, 0, 4] rfl ?_
              exact k_69 x2_14 z_181 F_mines_17 F_moves_18 F_changes_172 B_parts_137 B_longest_138 S_groups_139 S_askedGroup_140 S_taken_141 R_waitingCount_142 R_metCount_143 F_mined_27 F_number_28 F_state_173 F_cellsIn_174 F_unknownNear_175 F_hitNear_176 F_changed_177 F_waiting_178 B_chosen_144 B_partOf_145 B_rest_146 B_unknowns_147 B_partStart_148 B_cells_149 S_minedSet_150 S_safeSet_151 S_partSet_152 S_tally_153 S_askedTally_154 S_groupOf_155 S_groupSize_156 S_links_157 S_linkEnd_158 S_pick_159 S_groupMinedSet_160 S_groupSafeSet_161 O_sums_162 O_nextSums_163 R_found_164 R_openEnds_165 R_need_166 R_waiting_167 R_waits_168 R_common_169 R_met_170 rx2_14 rz_181 h
            refine wa_if_eq C (tgt := 52) (inR_b bc_171) dX4_settle_45 (by decide) (fun c_182 => ?_) (fun c_182 => ?_)
            · replace h := h.1 c_182
              refine wa_iload_n C 3 rfl dX4_settle_52 rfl ?_
              refine wa_iconst C (z := 1) dX4_settle_53 rfl ?_
              refine wa_iadd C dX4_settle_54 ?_
              obtain ⟨r_183, h⟩ := h
              refine wa_sub C [0, 1, 2, 4] rfl ?_
              exact k_180 (x3_15 + 1) r_183 h
            · replace h := h.2 c_182
              refine wa_iconst C (z := 1) dX4_settle_48 rfl ?_
              refine wa_goto C (tgt := 55) dX4_settle_49 (by decide) ?_
              refine wa_sub C [0, 1, 2, 4] rfl ?_
              exact k_180 1 (inR_k 1 rfl) h
  refine wa_sub C [3, 4, 2, 1, 0] rfl ?_
  exact k_13 n_10 0 1 0 F_mines F_moves_1 F_changes_2 B_parts B_longest S_groups S_askedGroup S_taken R_waitingCount R_metCount F_mined F_number F_state_3 F_cellsIn_4 F_unknownNear_5 F_hitNear_6 F_changed_7 F_waiting_8 B_chosen B_partOf B_rest B_unknowns B_partStart B_cells S_minedSet S_safeSet S_partSet S_tally S_askedTally S_groupOf S_groupSize S_links S_linkEnd S_pick S_groupMinedSet S_groupSafeSet O_sums O_nextSums R_found R_openEnds R_need R_waiting R_waits R_common R_met (inR_k 0 rfl) (inR_k 1 rfl) (inR_k 0 rfl) h0Inv_9
