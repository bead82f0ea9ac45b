theorem dX3_isPossible_0 : decode cX3_isPossible 0 = .ok (.iload_n 0, 1) := by decide +kernel
theorem dX3_isPossible_1 : decode cX3_isPossible 1 = .ok (.iconst 3, 1) := by decide +kernel
theorem dX3_isPossible_2 : decode cX3_isPossible 2 = .ok (.if_icmp .lt 44, 3) := by decide +kernel
theorem dX3_isPossible_5 : decode cX3_isPossible 5 = .ok (.iload_n 0, 1) := by decide +kernel
theorem dX3_isPossible_6 : decode cX3_isPossible 6 = .ok (.bipush 12, 2) := by decide +kernel
theorem dX3_isPossible_8 : decode cX3_isPossible 8 = .ok (.if_icmp .gt 38, 3) := by decide +kernel
theorem dX3_isPossible_11 : decode cX3_isPossible 11 = .ok (.iload_n 1, 1) := by decide +kernel
theorem dX3_isPossible_12 : decode cX3_isPossible 12 = .ok (.iconst 3, 1) := by decide +kernel
theorem dX3_isPossible_13 : decode cX3_isPossible 13 = .ok (.if_icmp .lt 33, 3) := by decide +kernel
theorem dX3_isPossible_16 : decode cX3_isPossible 16 = .ok (.iload_n 1, 1) := by decide +kernel
theorem dX3_isPossible_17 : decode cX3_isPossible 17 = .ok (.bipush 12, 2) := by decide +kernel
theorem dX3_isPossible_19 : decode cX3_isPossible 19 = .ok (.if_icmp .gt 27, 3) := by decide +kernel
theorem dX3_isPossible_22 : decode cX3_isPossible 22 = .ok (.iload_n 2, 1) := by decide +kernel
theorem dX3_isPossible_23 : decode cX3_isPossible 23 = .ok (.ifCond .lt 23, 3) := by decide +kernel
theorem dX3_isPossible_26 : decode cX3_isPossible 26 = .ok (.iload_n 2, 1) := by decide +kernel
theorem dX3_isPossible_27 : decode cX3_isPossible 27 = .ok (.iconst 3, 1) := by decide +kernel
theorem dX3_isPossible_28 : decode cX3_isPossible 28 = .ok (.if_icmp .gt 18, 3) := by decide +kernel
theorem dX3_isPossible_31 : decode cX3_isPossible 31 = .ok (.iload_n 2, 1) := by decide +kernel
theorem dX3_isPossible_32 : decode cX3_isPossible 32 = .ok (.iconst 3, 1) := by decide +kernel
theorem dX3_isPossible_33 : decode cX3_isPossible 33 = .ok (.if_icmp .ne 9, 3) := by decide +kernel
theorem dX3_isPossible_36 : decode cX3_isPossible 36 = .ok (.iload_n 1, 1) := by decide +kernel
theorem dX3_isPossible_37 : decode cX3_isPossible 37 = .ok (.iconst 2, 1) := by decide +kernel
theorem dX3_isPossible_38 : decode cX3_isPossible 38 = .ok (.irem, 1) := by decide +kernel
theorem dX3_isPossible_39 : decode cX3_isPossible 39 = .ok (.ifCond .ne 7, 3) := by decide +kernel
theorem dX3_isPossible_42 : decode cX3_isPossible 42 = .ok (.iconst 1, 1) := by decide +kernel
theorem dX3_isPossible_43 : decode cX3_isPossible 43 = .ok (.goto 4, 3) := by decide +kernel
theorem dX3_isPossible_46 : decode cX3_isPossible 46 = .ok (.iconst 0, 1) := by decide +kernel
theorem dX3_isPossible_47 : decode cX3_isPossible 47 = .ok (.ireturn, 1) := by decide +kernel
theorem dX3_isComb_0 : decode cX3_isComb 0 = .ok (.iload_n 0, 1) := by decide +kernel
theorem dX3_isComb_1 : decode cX3_isComb 1 = .ok (.iconst 2, 1) := by decide +kernel
theorem dX3_isComb_2 : decode cX3_isComb 2 = .ok (.if_icmp .lt 7, 3) := by decide +kernel
theorem dX3_isComb_5 : decode cX3_isComb 5 = .ok (.iconst 1, 1) := by decide +kernel
theorem dX3_isComb_6 : decode cX3_isComb 6 = .ok (.goto 4, 3) := by decide +kernel
theorem dX3_isComb_9 : decode cX3_isComb 9 = .ok (.iconst 0, 1) := by decide +kernel
theorem dX3_isComb_10 : decode cX3_isComb 10 = .ok (.ireturn, 1) := by decide +kernel
theorem dX3_cell_0 : decode cX3_cell 0 = .ok (.iload_n 1, 1) := by decide +kernel
theorem dX3_cell_1 : decode cX3_cell 1 = .ok (.aload_n 0, 1) := by decide +kernel
theorem dX3_cell_2 : decode cX3_cell 2 = .ok (.getfield 18, 3) := by decide +kernel
theorem dX3_cell_5 : decode cX3_cell 5 = .ok (.imul, 1) := by decide +kernel
theorem dX3_cell_6 : decode cX3_cell 6 = .ok (.iload_n 2, 1) := by decide +kernel
theorem dX3_cell_7 : decode cX3_cell 7 = .ok (.iadd, 1) := by decide +kernel
theorem dX3_cell_8 : decode cX3_cell 8 = .ok (.ireturn, 1) := by decide +kernel
theorem dX3_reaches_0 : decode cX3_reaches 0 = .ok (.iload_n 1, 1) := by decide +kernel
theorem dX3_reaches_1 : decode cX3_reaches 1 = .ok (.ifCond .ne 9, 3) := by decide +kernel
theorem dX3_reaches_4 : decode cX3_reaches 4 = .ok (.iload_n 2, 1) := by decide +kernel
theorem dX3_reaches_5 : decode cX3_reaches 5 = .ok (.ifCond .ne 5, 3) := by decide +kernel
theorem dX3_reaches_8 : decode cX3_reaches 8 = .ok (.iconst 0, 1) := by decide +kernel
theorem dX3_reaches_9 : decode cX3_reaches 9 = .ok (.ireturn, 1) := by decide +kernel
theorem dX3_reaches_10 : decode cX3_reaches 10 = .ok (.iload_n 3, 1) := by decide +kernel
theorem dX3_reaches_11 : decode cX3_reaches 11 = .ok (.ifCond .eq 26, 3) := by decide +kernel
theorem dX3_reaches_14 : decode cX3_reaches 14 = .ok (.iload_n 1, 1) := by decide +kernel
theorem dX3_reaches_15 : decode cX3_reaches 15 = .ok (.ifCond .eq 22, 3) := by decide +kernel
theorem dX3_reaches_18 : decode cX3_reaches 18 = .ok (.iload_n 2, 1) := by decide +kernel
theorem dX3_reaches_19 : decode cX3_reaches 19 = .ok (.ifCond .eq 18, 3) := by decide +kernel
theorem dX3_reaches_22 : decode cX3_reaches 22 = .ok (.iload_n 2, 1) := by decide +kernel
theorem dX3_reaches_23 : decode cX3_reaches 23 = .ok (.iload_n 0, 1) := by decide +kernel
theorem dX3_reaches_24 : decode cX3_reaches 24 = .ok (.iconst 2, 1) := by decide +kernel
theorem dX3_reaches_25 : decode cX3_reaches 25 = .ok (.irem, 1) := by decide +kernel
theorem dX3_reaches_26 : decode cX3_reaches 26 = .ok (.ifCond .ne 7, 3) := by decide +kernel
theorem dX3_reaches_29 : decode cX3_reaches 29 = .ok (.iconst (-1), 1) := by decide +kernel
theorem dX3_reaches_30 : decode cX3_reaches 30 = .ok (.goto 4, 3) := by decide +kernel
theorem dX3_reaches_33 : decode cX3_reaches 33 = .ok (.iconst 1, 1) := by decide +kernel
theorem dX3_reaches_34 : decode cX3_reaches 34 = .ok (.if_icmp .ne 7, 3) := by decide +kernel
theorem dX3_reaches_37 : decode cX3_reaches 37 = .ok (.iconst 1, 1) := by decide +kernel
theorem dX3_reaches_38 : decode cX3_reaches 38 = .ok (.goto 4, 3) := by decide +kernel
theorem dX3_reaches_41 : decode cX3_reaches 41 = .ok (.iconst 0, 1) := by decide +kernel
theorem dX3_reaches_42 : decode cX3_reaches 42 = .ok (.ireturn, 1) := by decide +kernel
theorem dX3_has_0 : decode cX3_has 0 = .ok (.iload_n 1, 1) := by decide +kernel
theorem dX3_has_1 : decode cX3_has 1 = .ok (.ifCond .lt 27, 3) := by decide +kernel
theorem dX3_has_4 : decode cX3_has 4 = .ok (.iload_n 1, 1) := by decide +kernel
theorem dX3_has_5 : decode cX3_has 5 = .ok (.aload_n 0, 1) := by decide +kernel
theorem dX3_has_6 : decode cX3_has 6 = .ok (.getfield 22, 3) := by decide +kernel
theorem dX3_has_9 : decode cX3_has 9 = .ok (.if_icmp .ge 19, 3) := by decide +kernel
theorem dX3_has_12 : decode cX3_has 12 = .ok (.iload_n 2, 1) := by decide +kernel
theorem dX3_has_13 : decode cX3_has 13 = .ok (.ifCond .lt 15, 3) := by decide +kernel
theorem dX3_has_16 : decode cX3_has 16 = .ok (.iload_n 2, 1) := by decide +kernel
theorem dX3_has_17 : decode cX3_has 17 = .ok (.aload_n 0, 1) := by decide +kernel
theorem dX3_has_18 : decode cX3_has 18 = .ok (.getfield 18, 3) := by decide +kernel
theorem dX3_has_21 : decode cX3_has 21 = .ok (.if_icmp .ge 7, 3) := by decide +kernel
theorem dX3_has_24 : decode cX3_has 24 = .ok (.iconst 1, 1) := by decide +kernel
theorem dX3_has_25 : decode cX3_has 25 = .ok (.goto 4, 3) := by decide +kernel
theorem dX3_has_28 : decode cX3_has 28 = .ok (.iconst 0, 1) := by decide +kernel
theorem dX3_has_29 : decode cX3_has 29 = .ok (.ireturn, 1) := by decide +kernel
theorem dX3_addNear_0 : decode cX3_addNear 0 = .ok (.aload_n 0, 1) := by decide +kernel
theorem dX3_addNear_1 : decode cX3_addNear 1 = .ok (.getfield 15, 3) := by decide +kernel
theorem dX3_addNear_4 : decode cX3_addNear 4 = .ok (.iload_n 1, 1) := by decide +kernel
theorem dX3_addNear_5 : decode cX3_addNear 5 = .ok (.iaload, 1) := by decide +kernel
theorem dX3_addNear_6 : decode cX3_addNear 6 = .ok (.istore_n 3, 1) := by decide +kernel
theorem dX3_addNear_7 : decode cX3_addNear 7 = .ok (.iload_n 3, 1) := by decide +kernel
theorem dX3_addNear_8 : decode cX3_addNear 8 = .ok (.iload_n 1, 1) := by decide +kernel
theorem dX3_addNear_9 : decode cX3_addNear 9 = .ok (.bipush 8, 2) := by decide +kernel
theorem dX3_addNear_11 : decode cX3_addNear 11 = .ok (.imul, 1) := by decide +kernel
theorem dX3_addNear_12 : decode cX3_addNear 12 = .ok (.if_icmp .le 35, 3) := by decide +kernel
theorem dX3_addNear_15 : decode cX3_addNear 15 = .ok (.aload_n 0, 1) := by decide +kernel
theorem dX3_addNear_16 : decode cX3_addNear 16 = .ok (.getfield 11, 3) := by decide +kernel
theorem dX3_addNear_19 : decode cX3_addNear 19 = .ok (.iload_n 3, 1) := by decide +kernel
theorem dX3_addNear_20 : decode cX3_addNear 20 = .ok (.iconst 1, 1) := by decide +kernel
theorem dX3_addNear_21 : decode cX3_addNear 21 = .ok (.isub, 1) := by decide +kernel
theorem dX3_addNear_22 : decode cX3_addNear 22 = .ok (.iaload, 1) := by decide +kernel
theorem dX3_addNear_23 : decode cX3_addNear 23 = .ok (.iload_n 2, 1) := by decide +kernel
theorem dX3_addNear_24 : decode cX3_addNear 24 = .ok (.if_icmp .le 23, 3) := by decide +kernel
theorem dX3_addNear_27 : decode cX3_addNear 27 = .ok (.aload_n 0, 1) := by decide +kernel
theorem dX3_addNear_28 : decode cX3_addNear 28 = .ok (.getfield 11, 3) := by decide +kernel
theorem dX3_addNear_31 : decode cX3_addNear 31 = .ok (.iload_n 3, 1) := by decide +kernel
theorem dX3_addNear_32 : decode cX3_addNear 32 = .ok (.aload_n 0, 1) := by decide +kernel
theorem dX3_addNear_33 : decode cX3_addNear 33 = .ok (.getfield 11, 3) := by decide +kernel
theorem dX3_addNear_36 : decode cX3_addNear 36 = .ok (.iload_n 3, 1) := by decide +kernel
theorem dX3_addNear_37 : decode cX3_addNear 37 = .ok (.iconst 1, 1) := by decide +kernel
theorem dX3_addNear_38 : decode cX3_addNear 38 = .ok (.isub, 1) := by decide +kernel
theorem dX3_addNear_39 : decode cX3_addNear 39 = .ok (.iaload, 1) := by decide +kernel
theorem dX3_addNear_40 : decode cX3_addNear 40 = .ok (.iastore, 1) := by decide +kernel
theorem dX3_addNear_41 : decode cX3_addNear 41 = .ok (.iinc 3 (-1), 3) := by decide +kernel
theorem dX3_addNear_44 : decode cX3_addNear 44 = .ok (.goto (-37), 3) := by decide +kernel
theorem dX3_addNear_47 : decode cX3_addNear 47 = .ok (.aload_n 0, 1) := by decide +kernel
theorem dX3_addNear_48 : decode cX3_addNear 48 = .ok (.getfield 11, 3) := by decide +kernel
theorem dX3_addNear_51 : decode cX3_addNear 51 = .ok (.iload_n 3, 1) := by decide +kernel
theorem dX3_addNear_52 : decode cX3_addNear 52 = .ok (.iload_n 2, 1) := by decide +kernel
theorem dX3_addNear_53 : decode cX3_addNear 53 = .ok (.iastore, 1) := by decide +kernel
theorem dX3_addNear_54 : decode cX3_addNear 54 = .ok (.aload_n 0, 1) := by decide +kernel
theorem dX3_addNear_55 : decode cX3_addNear 55 = .ok (.getfield 15, 3) := by decide +kernel
theorem dX3_addNear_58 : decode cX3_addNear 58 = .ok (.iload_n 1, 1) := by decide +kernel
theorem dX3_addNear_59 : decode cX3_addNear 59 = .ok (.dup2, 1) := by decide +kernel
theorem dX3_addNear_60 : decode cX3_addNear 60 = .ok (.iaload, 1) := by decide +kernel
theorem dX3_addNear_61 : decode cX3_addNear 61 = .ok (.iconst 1, 1) := by decide +kernel
theorem dX3_addNear_62 : decode cX3_addNear 62 = .ok (.iadd, 1) := by decide +kernel
theorem dX3_addNear_63 : decode cX3_addNear 63 = .ok (.iastore, 1) := by decide +kernel
theorem dX3_addNear_64 : decode cX3_addNear 64 = .ok (.return_, 1) := by decide +kernel
theorem dX3_wrap_0 : decode cX3_wrap 0 = .ok (.iload_n 0, 1) := by decide +kernel
theorem dX3_wrap_1 : decode cX3_wrap 1 = .ok (.ifCond .ge 7, 3) := by decide +kernel
theorem dX3_wrap_4 : decode cX3_wrap 4 = .ok (.iload_n 0, 1) := by decide +kernel
theorem dX3_wrap_5 : decode cX3_wrap 5 = .ok (.iload_n 1, 1) := by decide +kernel
theorem dX3_wrap_6 : decode cX3_wrap 6 = .ok (.iadd, 1) := by decide +kernel
theorem dX3_wrap_7 : decode cX3_wrap 7 = .ok (.ireturn, 1) := by decide +kernel
theorem dX3_wrap_8 : decode cX3_wrap 8 = .ok (.iload_n 0, 1) := by decide +kernel
theorem dX3_wrap_9 : decode cX3_wrap 9 = .ok (.iload_n 1, 1) := by decide +kernel
theorem dX3_wrap_10 : decode cX3_wrap 10 = .ok (.if_icmp .lt 9, 3) := by decide +kernel
theorem dX3_wrap_13 : decode cX3_wrap 13 = .ok (.iload_n 0, 1) := by decide +kernel
theorem dX3_wrap_14 : decode cX3_wrap 14 = .ok (.iload_n 1, 1) := by decide +kernel
theorem dX3_wrap_15 : decode cX3_wrap 15 = .ok (.isub, 1) := by decide +kernel
theorem dX3_wrap_16 : decode cX3_wrap 16 = .ok (.goto 4, 3) := by decide +kernel
theorem dX3_wrap_19 : decode cX3_wrap 19 = .ok (.iload_n 0, 1) := by decide +kernel
theorem dX3_wrap_20 : decode cX3_wrap 20 = .ok (.ireturn, 1) := by decide +kernel
theorem dX3_link_0 : decode cX3_link 0 = .ok (.aload_n 0, 1) := by decide +kernel
theorem dX3_link_1 : decode cX3_link 1 = .ok (.iload_n 1, 1) := by decide +kernel
theorem dX3_link_2 : decode cX3_link 2 = .ok (.iload_n 2, 1) := by decide +kernel
theorem dX3_link_3 : decode cX3_link 3 = .ok (.invokevirtual 36, 3) := by decide +kernel
theorem dX3_link_6 : decode cX3_link 6 = .ok (.istore 5, 2) := by decide +kernel
theorem dX3_link_8 : decode cX3_link 8 = .ok (.aload_n 0, 1) := by decide +kernel
theorem dX3_link_9 : decode cX3_link 9 = .ok (.getfield 15, 3) := by decide +kernel
theorem dX3_link_12 : decode cX3_link 12 = .ok (.iload 5, 2) := by decide +kernel
theorem dX3_link_14 : decode cX3_link 14 = .ok (.iload 5, 2) := by decide +kernel
theorem dX3_link_16 : decode cX3_link 16 = .ok (.bipush 8, 2) := by decide +kernel
theorem dX3_link_18 : decode cX3_link 18 = .ok (.imul, 1) := by decide +kernel
theorem dX3_link_19 : decode cX3_link 19 = .ok (.iastore, 1) := by decide +kernel
theorem dX3_link_20 : decode cX3_link 20 = .ok (.iconst (-1), 1) := by decide +kernel
theorem dX3_link_21 : decode cX3_link 21 = .ok (.istore 6, 2) := by decide +kernel
theorem dX3_link_23 : decode cX3_link 23 = .ok (.iload 6, 2) := by decide +kernel
theorem dX3_link_25 : decode cX3_link 25 = .ok (.iconst 1, 1) := by decide +kernel
theorem dX3_link_26 : decode cX3_link 26 = .ok (.if_icmp .gt 112, 3) := by decide +kernel
theorem dX3_link_29 : decode cX3_link 29 = .ok (.iconst (-1), 1) := by decide +kernel
theorem dX3_link_30 : decode cX3_link 30 = .ok (.istore 7, 2) := by decide +kernel
theorem dX3_link_32 : decode cX3_link 32 = .ok (.iload 7, 2) := by decide +kernel
theorem dX3_link_34 : decode cX3_link 34 = .ok (.iconst 1, 1) := by decide +kernel
theorem dX3_link_35 : decode cX3_link 35 = .ok (.if_icmp .gt 97, 3) := by decide +kernel
theorem dX3_link_38 : decode cX3_link 38 = .ok (.iload_n 1, 1) := by decide +kernel
theorem dX3_link_39 : decode cX3_link 39 = .ok (.iload 6, 2) := by decide +kernel
theorem dX3_link_41 : decode cX3_link 41 = .ok (.iload 7, 2) := by decide +kernel
theorem dX3_link_43 : decode cX3_link 43 = .ok (.iload_n 3, 1) := by decide +kernel
theorem dX3_link_44 : decode cX3_link 44 = .ok (.invokestatic 40, 3) := by decide +kernel
theorem dX3_link_47 : decode cX3_link 47 = .ok (.ifCond .ne 6, 3) := by decide +kernel
theorem dX3_link_50 : decode cX3_link 50 = .ok (.goto 76, 3) := by decide +kernel
theorem dX3_link_53 : decode cX3_link 53 = .ok (.iload 4, 2) := by decide +kernel
theorem dX3_link_55 : decode cX3_link 55 = .ok (.ifCond .eq 38, 3) := by decide +kernel
theorem dX3_link_58 : decode cX3_link 58 = .ok (.aload_n 0, 1) := by decide +kernel
theorem dX3_link_59 : decode cX3_link 59 = .ok (.iload 5, 2) := by decide +kernel
theorem dX3_link_61 : decode cX3_link 61 = .ok (.aload_n 0, 1) := by decide +kernel
theorem dX3_link_62 : decode cX3_link 62 = .ok (.iload_n 1, 1) := by decide +kernel
theorem dX3_link_63 : decode cX3_link 63 = .ok (.iload 6, 2) := by decide +kernel
theorem dX3_link_65 : decode cX3_link 65 = .ok (.iadd, 1) := by decide +kernel
theorem dX3_link_66 : decode cX3_link 66 = .ok (.aload_n 0, 1) := by decide +kernel
theorem dX3_link_67 : decode cX3_link 67 = .ok (.getfield 22, 3) := by decide +kernel
theorem dX3_link_70 : decode cX3_link 70 = .ok (.invokestatic 44, 3) := by decide +kernel
theorem dX3_link_73 : decode cX3_link 73 = .ok (.iload_n 2, 1) := by decide +kernel
theorem dX3_link_74 : decode cX3_link 74 = .ok (.iload 7, 2) := by decide +kernel
theorem dX3_link_76 : decode cX3_link 76 = .ok (.iadd, 1) := by decide +kernel
theorem dX3_link_77 : decode cX3_link 77 = .ok (.aload_n 0, 1) := by decide +kernel
theorem dX3_link_78 : decode cX3_link 78 = .ok (.getfield 18, 3) := by decide +kernel
theorem dX3_link_81 : decode cX3_link 81 = .ok (.invokestatic 44, 3) := by decide +kernel
theorem dX3_link_84 : decode cX3_link 84 = .ok (.invokevirtual 36, 3) := by decide +kernel
theorem dX3_link_87 : decode cX3_link 87 = .ok (.invokevirtual 47, 3) := by decide +kernel
theorem dX3_link_90 : decode cX3_link 90 = .ok (.goto 36, 3) := by decide +kernel
theorem dX3_link_93 : decode cX3_link 93 = .ok (.aload_n 0, 1) := by decide +kernel
theorem dX3_link_94 : decode cX3_link 94 = .ok (.iload_n 1, 1) := by decide +kernel
theorem dX3_link_95 : decode cX3_link 95 = .ok (.iload 6, 2) := by decide +kernel
theorem dX3_link_97 : decode cX3_link 97 = .ok (.iadd, 1) := by decide +kernel
theorem dX3_link_98 : decode cX3_link 98 = .ok (.iload_n 2, 1) := by decide +kernel
theorem dX3_link_99 : decode cX3_link 99 = .ok (.iload 7, 2) := by decide +kernel
theorem dX3_link_101 : decode cX3_link 101 = .ok (.iadd, 1) := by decide +kernel
theorem dX3_link_102 : decode cX3_link 102 = .ok (.invokevirtual 51, 3) := by decide +kernel
theorem dX3_link_105 : decode cX3_link 105 = .ok (.ifCond .eq 21, 3) := by decide +kernel
theorem dX3_link_108 : decode cX3_link 108 = .ok (.aload_n 0, 1) := by decide +kernel
theorem dX3_link_109 : decode cX3_link 109 = .ok (.iload 5, 2) := by decide +kernel
theorem dX3_link_111 : decode cX3_link 111 = .ok (.aload_n 0, 1) := by decide +kernel
theorem dX3_link_112 : decode cX3_link 112 = .ok (.iload_n 1, 1) := by decide +kernel
theorem dX3_link_113 : decode cX3_link 113 = .ok (.iload 6, 2) := by decide +kernel
theorem dX3_link_115 : decode cX3_link 115 = .ok (.iadd, 1) := by decide +kernel
theorem dX3_link_116 : decode cX3_link 116 = .ok (.iload_n 2, 1) := by decide +kernel
theorem dX3_link_117 : decode cX3_link 117 = .ok (.iload 7, 2) := by decide +kernel
theorem dX3_link_119 : decode cX3_link 119 = .ok (.iadd, 1) := by decide +kernel
theorem dX3_link_120 : decode cX3_link 120 = .ok (.invokevirtual 36, 3) := by decide +kernel
theorem dX3_link_123 : decode cX3_link 123 = .ok (.invokevirtual 47, 3) := by decide +kernel
theorem dX3_link_126 : decode cX3_link 126 = .ok (.iinc 7 1, 3) := by decide +kernel
theorem dX3_link_129 : decode cX3_link 129 = .ok (.goto (-97), 3) := by decide +kernel
theorem dX3_link_132 : decode cX3_link 132 = .ok (.iinc 6 1, 3) := by decide +kernel
theorem dX3_link_135 : decode cX3_link 135 = .ok (.goto (-112), 3) := by decide +kernel
theorem dX3_link_138 : decode cX3_link 138 = .ok (.return_, 1) := by decide +kernel
theorem dX3_lay_0 : decode cX3_lay 0 = .ok (.aload_n 0, 1) := by decide +kernel
theorem dX3_lay_1 : decode cX3_lay 1 = .ok (.iload_n 1, 1) := by decide +kernel
theorem dX3_lay_2 : decode cX3_lay 2 = .ok (.putfield 18, 3) := by decide +kernel
theorem dX3_lay_5 : decode cX3_lay 5 = .ok (.aload_n 0, 1) := by decide +kernel
theorem dX3_lay_6 : decode cX3_lay 6 = .ok (.iload_n 2, 1) := by decide +kernel
theorem dX3_lay_7 : decode cX3_lay 7 = .ok (.putfield 22, 3) := by decide +kernel
theorem dX3_lay_10 : decode cX3_lay 10 = .ok (.aload_n 0, 1) := by decide +kernel
theorem dX3_lay_11 : decode cX3_lay 11 = .ok (.iload_n 1, 1) := by decide +kernel
theorem dX3_lay_12 : decode cX3_lay 12 = .ok (.iload_n 2, 1) := by decide +kernel
theorem dX3_lay_13 : decode cX3_lay 13 = .ok (.imul, 1) := by decide +kernel
theorem dX3_lay_14 : decode cX3_lay 14 = .ok (.putfield 25, 3) := by decide +kernel
theorem dX3_lay_17 : decode cX3_lay 17 = .ok (.iload_n 3, 1) := by decide +kernel
theorem dX3_lay_18 : decode cX3_lay 18 = .ok (.iconst 1, 1) := by decide +kernel
theorem dX3_lay_19 : decode cX3_lay 19 = .ok (.if_icmp .eq 8, 3) := by decide +kernel
theorem dX3_lay_22 : decode cX3_lay 22 = .ok (.iload_n 3, 1) := by decide +kernel
theorem dX3_lay_23 : decode cX3_lay 23 = .ok (.iconst 3, 1) := by decide +kernel
theorem dX3_lay_24 : decode cX3_lay 24 = .ok (.if_icmp .ne 7, 3) := by decide +kernel
theorem dX3_lay_27 : decode cX3_lay 27 = .ok (.iconst 1, 1) := by decide +kernel
theorem dX3_lay_28 : decode cX3_lay 28 = .ok (.goto 4, 3) := by decide +kernel
theorem dX3_lay_31 : decode cX3_lay 31 = .ok (.iconst 0, 1) := by decide +kernel
theorem dX3_lay_32 : decode cX3_lay 32 = .ok (.istore 4, 2) := by decide +kernel
theorem dX3_lay_34 : decode cX3_lay 34 = .ok (.iconst 0, 1) := by decide +kernel
theorem dX3_lay_35 : decode cX3_lay 35 = .ok (.istore 5, 2) := by decide +kernel
theorem dX3_lay_37 : decode cX3_lay 37 = .ok (.iload 5, 2) := by decide +kernel
theorem dX3_lay_39 : decode cX3_lay 39 = .ok (.iload_n 2, 1) := by decide +kernel
theorem dX3_lay_40 : decode cX3_lay 40 = .ok (.if_icmp .ge 38, 3) := by decide +kernel
theorem dX3_lay_43 : decode cX3_lay 43 = .ok (.iconst 0, 1) := by decide +kernel
theorem dX3_lay_44 : decode cX3_lay 44 = .ok (.istore 6, 2) := by decide +kernel
theorem dX3_lay_46 : decode cX3_lay 46 = .ok (.iload 6, 2) := by decide +kernel
theorem dX3_lay_48 : decode cX3_lay 48 = .ok (.iload_n 1, 1) := by decide +kernel
theorem dX3_lay_49 : decode cX3_lay 49 = .ok (.if_icmp .ge 23, 3) := by decide +kernel
theorem dX3_lay_52 : decode cX3_lay 52 = .ok (.aload_n 0, 1) := by decide +kernel
theorem dX3_lay_53 : decode cX3_lay 53 = .ok (.iload 5, 2) := by decide +kernel
theorem dX3_lay_55 : decode cX3_lay 55 = .ok (.iload 6, 2) := by decide +kernel
theorem dX3_lay_57 : decode cX3_lay 57 = .ok (.iload_n 3, 1) := by decide +kernel
theorem dX3_lay_58 : decode cX3_lay 58 = .ok (.invokestatic 28, 3) := by decide +kernel
theorem dX3_lay_61 : decode cX3_lay 61 = .ok (.iload 4, 2) := by decide +kernel
theorem dX3_lay_63 : decode cX3_lay 63 = .ok (.invokevirtual 32, 3) := by decide +kernel
theorem dX3_lay_66 : decode cX3_lay 66 = .ok (.iinc 6 1, 3) := by decide +kernel
theorem dX3_lay_69 : decode cX3_lay 69 = .ok (.goto (-23), 3) := by decide +kernel
theorem dX3_lay_72 : decode cX3_lay 72 = .ok (.iinc 5 1, 3) := by decide +kernel
theorem dX3_lay_75 : decode cX3_lay 75 = .ok (.goto (-38), 3) := by decide +kernel
theorem dX3_lay_78 : decode cX3_lay 78 = .ok (.return_, 1) := by decide +kernel
theorem dX3_areNear_0 : decode cX3_areNear 0 = .ok (.iload_n 1, 1) := by decide +kernel
theorem dX3_areNear_1 : decode cX3_areNear 1 = .ok (.bipush 8, 2) := by decide +kernel
theorem dX3_areNear_3 : decode cX3_areNear 3 = .ok (.imul, 1) := by decide +kernel
theorem dX3_areNear_4 : decode cX3_areNear 4 = .ok (.istore_n 3, 1) := by decide +kernel
theorem dX3_areNear_5 : decode cX3_areNear 5 = .ok (.iload_n 3, 1) := by decide +kernel
theorem dX3_areNear_6 : decode cX3_areNear 6 = .ok (.aload_n 0, 1) := by decide +kernel
theorem dX3_areNear_7 : decode cX3_areNear 7 = .ok (.getfield 15, 3) := by decide +kernel
theorem dX3_areNear_10 : decode cX3_areNear 10 = .ok (.iload_n 1, 1) := by decide +kernel
theorem dX3_areNear_11 : decode cX3_areNear 11 = .ok (.iaload, 1) := by decide +kernel
theorem dX3_areNear_12 : decode cX3_areNear 12 = .ok (.if_icmp .ge 21, 3) := by decide +kernel
theorem dX3_areNear_15 : decode cX3_areNear 15 = .ok (.aload_n 0, 1) := by decide +kernel
theorem dX3_areNear_16 : decode cX3_areNear 16 = .ok (.getfield 11, 3) := by decide +kernel
theorem dX3_areNear_19 : decode cX3_areNear 19 = .ok (.iload_n 3, 1) := by decide +kernel
theorem dX3_areNear_20 : decode cX3_areNear 20 = .ok (.iaload, 1) := by decide +kernel
theorem dX3_areNear_21 : decode cX3_areNear 21 = .ok (.iload_n 2, 1) := by decide +kernel
theorem dX3_areNear_22 : decode cX3_areNear 22 = .ok (.if_icmp .ne 5, 3) := by decide +kernel
theorem dX3_areNear_25 : decode cX3_areNear 25 = .ok (.iconst 1, 1) := by decide +kernel
theorem dX3_areNear_26 : decode cX3_areNear 26 = .ok (.ireturn, 1) := by decide +kernel
theorem dX3_areNear_27 : decode cX3_areNear 27 = .ok (.iinc 3 1, 3) := by decide +kernel
theorem dX3_areNear_30 : decode cX3_areNear 30 = .ok (.goto (-25), 3) := by decide +kernel
theorem dX3_areNear_33 : decode cX3_areNear 33 = .ok (.iconst 0, 1) := by decide +kernel
theorem dX3_areNear_34 : decode cX3_areNear 34 = .ok (.ireturn, 1) := by decide +kernel
theorem q_X3_isPossible : yX3_isPossible.cls ≠ "java/lang/invoke/MethodHandle" ∧ yX3_isPossible.cls ≠ "java/lang/invoke/VarHandle" ∧ (parseMethodDescriptor yX3_isPossible.desc).map (fun d => d.parameters.length) = some 3 := ⟨by decide, by decide, by decide +kernel⟩
theorem q_X3_isComb : yX3_isComb.cls ≠ "java/lang/invoke/MethodHandle" ∧ yX3_isComb.cls ≠ "java/lang/invoke/VarHandle" ∧ (parseMethodDescriptor yX3_isComb.desc).map (fun d => d.parameters.length) = some 1 := ⟨by decide, by decide, by decide +kernel⟩
theorem q_X3_cell : yX3_cell.cls = RX3 ∧ yX3_cell.cls ≠ "java/lang/invoke/MethodHandle" ∧ yX3_cell.cls ≠ "java/lang/invoke/VarHandle" ∧ (parseMethodDescriptor yX3_cell.desc).map (fun d => d.parameters.length) = some 2 := ⟨rfl, by decide, by decide, by decide +kernel⟩
theorem q_X3_reaches : yX3_reaches.cls ≠ "java/lang/invoke/MethodHandle" ∧ yX3_reaches.cls ≠ "java/lang/invoke/VarHandle" ∧ (parseMethodDescriptor yX3_reaches.desc).map (fun d => d.parameters.length) = some 4 := ⟨by decide, by decide, by decide +kernel⟩
theorem q_X3_has : yX3_has.cls = RX3 ∧ yX3_has.cls ≠ "java/lang/invoke/MethodHandle" ∧ yX3_has.cls ≠ "java/lang/invoke/VarHandle" ∧ (parseMethodDescriptor yX3_has.desc).map (fun d => d.parameters.length) = some 2 := ⟨rfl, by decide, by decide, by decide +kernel⟩
theorem q_X3_addNear : yX3_addNear.cls = RX3 ∧ yX3_addNear.cls ≠ "java/lang/invoke/MethodHandle" ∧ yX3_addNear.cls ≠ "java/lang/invoke/VarHandle" ∧ (parseMethodDescriptor yX3_addNear.desc).map (fun d => d.parameters.length) = some 2 := ⟨rfl, by decide, by decide, by decide +kernel⟩
theorem q_X3_wrap : yX3_wrap.cls ≠ "java/lang/invoke/MethodHandle" ∧ yX3_wrap.cls ≠ "java/lang/invoke/VarHandle" ∧ (parseMethodDescriptor yX3_wrap.desc).map (fun d => d.parameters.length) = some 2 := ⟨by decide, by decide, by decide +kernel⟩
theorem q_X3_link : yX3_link.cls = RX3 ∧ yX3_link.cls ≠ "java/lang/invoke/MethodHandle" ∧ yX3_link.cls ≠ "java/lang/invoke/VarHandle" ∧ (parseMethodDescriptor yX3_link.desc).map (fun d => d.parameters.length) = some 4 := ⟨rfl, by decide, by decide, by decide +kernel⟩
theorem q_X3_lay : yX3_lay.cls = RX3 ∧ yX3_lay.cls ≠ "java/lang/invoke/MethodHandle" ∧ yX3_lay.cls ≠ "java/lang/invoke/VarHandle" ∧ (parseMethodDescriptor yX3_lay.desc).map (fun d => d.parameters.length) = some 3 := ⟨rfl, by decide, by decide, by decide +kernel⟩
theorem q_X3_areNear : yX3_areNear.cls = RX3 ∧ yX3_areNear.cls ≠ "java/lang/invoke/MethodHandle" ∧ yX3_areNear.cls ≠ "java/lang/invoke/VarHandle" ∧ (parseMethodDescriptor yX3_areNear.desc).map (fun d => d.parameters.length) = some 2 := ⟨rfl, by decide, by decide, by decide +kernel⟩
def P_X3_isPossible (post : Int → Prop) (x0 : Int) (x1 : Int) (x2 : Int) : Prop :=
  ∃ J_1 : (Int) → Prop, (∃ J_5 : Prop, ((x0 < 3 → (J_5)) ∧ (¬ x0 < 3 → ((12 < x0 → (J_5)) ∧ (¬ 12 < x0 → ((x1 < 3 → (J_5)) ∧ (¬ x1 < 3 → ((12 < x1 → (J_5)) ∧ (¬ 12 < x1 → ((x2 < 0 → (J_5)) ∧ (¬ x2 < 0 → ((3 < x2 → (J_5)) ∧ (¬ 3 < x2 → (∃ J_13 : Prop, ((¬ x2 = 3 → (J_13)) ∧ (x2 = 3 → (inR (x1.tmod 2) ∧ ((¬ (x1.tmod 2) = 0 → (J_5)) ∧ ((x1.tmod 2) = 0 → (J_13)))))) ∧ (J_13 → (J_1 1))))))))))))))) ∧ (J_5 → (J_1 0))) ∧ (∀ (z_3 : Int), inR z_3 → J_1 z_3 → ((z_3 = 0 ∨ z_3 = 1) ∧ (post z_3)))
set_option maxRecDepth 100000 in
set_option maxHeartbeats 4000000 in
theorem c_X3_isPossible (l : Launch) (K : wK) (ad : Nat → Nat) {D_hasBoard : Int} {D_beganBlank : Int} {F_mines : Int} {F_moves : Int} {F_changes : Int} {G_width : Int} {G_height : Int} {G_size : Int} {B_parts : Int} {B_longest : Int} {S_groups : Int} {S_askedGroup : Int} {S_taken : Int} {R_waitingCount : Int} {R_metCount : Int} {A_grade : Int} {A_cell : Int} {A_mined : Int} {A_withTotal : Int} {A_numbers : Int} {X_low : Int} {X_high : Int} {Y_low : Int} {Y_high : Int} {F_mined : Int → Int} {F_number : Int → Int} {F_state : Int → Int} {F_cellsIn : Int → Int} {F_unknownNear : Int → Int} {F_hitNear : Int → Int} {F_moveStart : Int → Int} {F_changed : Int → Int} {F_waiting : Int → Int} {F_seen : Int → Int} {G_near : Int → Int} {G_nearEnd : Int → Int} {B_chosen : Int → Int} {B_partOf : Int → Int} {B_rest : Int → Int} {B_unknowns : Int → Int} {B_partStart : Int → Int} {B_cells : Int → Int} {S_minedSet : Int → Int} {S_safeSet : Int → Int} {S_partSet : Int → Int} {S_tally : Int → Int} {S_askedTally : Int → Int} {S_groupOf : Int → Int} {S_groupSize : Int → Int} {S_links : Int → Int} {S_linkEnd : Int → Int} {S_pick : Int → Int} {S_groupMinedSet : Int → Int} {S_groupSafeSet : Int → Int} {O_sums : Int → Int64} {O_nextSums : Int → Int64} {R_found : Int → Int} {R_openEnds : Int → Int} {R_need : Int → Int} {R_waiting : Int → Int} {R_waits : Int → Int} {R_common : Int → Int} {R_met : Int → Int} {A_number : Int → Int} {Q_mined : Int → Int64} {Q_all : Int → Int64} {Q_choices : Int → Int64} {Q_term : Int → Int64} {Q_divisor : Int → Int64} {Q_spare : Int → Int64} {X_limbs : Int → Int64} {X_sum : Int → Int64} {Y_limbs : Int → Int64} {Y_sum : Int → Int64} (x0 : Int) (x1 : Int) (x2 : Int) (rx0 : inR x0) (rx1 : inR x1) (rx2 : inR x2) (post : Int → Prop) (h : P_X3_isPossible post x0 x1 x2) : mI l yX3_isPossible (Cond.code yX3_isPossible cX3_isPossible 3 (some .boolean) :: GT) ({ frames := 2, cells := 0, slots := 0, locals := 120 } : Room) [.int (iI x0), .int (iI x1), .int (iI x2)] K ad (dW D_hasBoard D_beganBlank F_mines F_moves F_changes G_width G_height G_size B_parts B_longest S_groups S_askedGroup S_taken R_waitingCount R_metCount A_grade A_cell A_mined A_withTotal A_numbers X_low X_high Y_low Y_high F_mined F_number F_state F_cellsIn F_unknownNear F_hitNear F_moveStart F_changed F_waiting F_seen G_near G_nearEnd B_chosen B_partOf B_rest B_unknowns B_partStart B_cells S_minedSet S_safeSet S_partSet S_tally S_askedTally S_groupOf S_groupSize S_links S_linkEnd S_pick S_groupMinedSet S_groupSafeSet O_sums O_nextSums R_found R_openEnds R_need R_waiting R_waits R_common R_met A_number Q_mined Q_all Q_choices Q_term Q_divisor Q_spare X_limbs X_sum Y_limbs Y_sum) (fun z9 u9 => (z9 = 0 ∨ z9 = 1) ∧ u9 = (dW D_hasBoard D_beganBlank F_mines F_moves F_changes G_width G_height G_size B_parts B_longest S_groups S_askedGroup S_taken R_waitingCount R_metCount A_grade A_cell A_mined A_withTotal A_numbers X_low X_high Y_low Y_high F_mined F_number F_state F_cellsIn F_unknownNear F_hitNear F_moveStart F_changed F_waiting F_seen G_near G_nearEnd B_chosen B_partOf B_rest B_unknowns B_partStart B_cells S_minedSet S_safeSet S_partSet S_tally S_askedTally S_groupOf S_groupSize S_links S_linkEnd S_pick S_groupMinedSet S_groupSafeSet O_sums O_nextSums R_found R_openEnds R_need R_waiting R_waits R_common R_met A_number Q_mined Q_all Q_choices Q_term Q_divisor Q_spare X_limbs X_sum Y_limbs Y_sum) ∧ post z9) := by
  refine mZ_of (lv0 := [(0, .int (iI x0)), (1, .int (iI x1)), (2, .int (iI x2))]) (by decide) (Nat.le_of_ble_eq_true rfl) rfl ?_
  intro p e s m args below meth c Q A C ret
  replace C : Cx p ({ frames := 2, cells := 0, slots := 0, locals := 120 } : Room) m c 0 0 cX3_isPossible 3 s args RX3 K A := C
  unfold P_X3_isPossible at h
  refine wa_iload_n C 0 rfl dX3_isPossible_0 rfl ?_
  refine wa_iconst C (z := 3) dX3_isPossible_1 rfl ?_
  obtain ⟨J_1, h, hJ_1⟩ := h
  have k_2 : ∀ (z_3 : Int), inR z_3 → J_1 z_3 → WA p l e ({ frames := 2, cells := 0, slots := 0, locals := 120 } : Room) s m args below meth c 0 0 Q K ad 3 A 47 [] [.int (iI z_3)] (dW D_hasBoard D_beganBlank F_mines F_moves F_changes G_width G_height G_size B_parts B_longest S_groups S_askedGroup S_taken R_waitingCount R_metCount A_grade A_cell A_mined A_withTotal A_numbers X_low X_high Y_low Y_high F_mined F_number F_state F_cellsIn F_unknownNear F_hitNear F_moveStart F_changed F_waiting F_seen G_near G_nearEnd B_chosen B_partOf B_rest B_unknowns B_partStart B_cells S_minedSet S_safeSet S_partSet S_tally S_askedTally S_groupOf S_groupSize S_links S_linkEnd S_pick S_groupMinedSet S_groupSafeSet O_sums O_nextSums R_found R_openEnds R_need R_waiting R_waits R_common R_met A_number Q_mined Q_all Q_choices Q_term Q_divisor Q_spare X_limbs X_sum Y_limbs Y_sum) := by
    intro z_3 rz_3 h
    replace h := hJ_1 z_3 rz_3 h
    obtain ⟨b_4, h⟩ := h
    exact ret dX3_isPossible_47 b_4 ⟨b_4, rfl, h⟩
  obtain ⟨J_5, h, hJ_5⟩ := h
  have k_6 : J_5 → WA p l e ({ frames := 2, cells := 0, slots := 0, locals := 120 } : Room) s m args below meth c 0 0 Q K ad 3 A 46 [] [] (dW D_hasBoard D_beganBlank F_mines F_moves F_changes G_width G_height G_size B_parts B_longest S_groups S_askedGroup S_taken R_waitingCount R_metCount A_grade A_cell A_mined A_withTotal A_numbers X_low X_high Y_low Y_high F_mined F_number F_state F_cellsIn F_unknownNear F_hitNear F_moveStart F_changed F_waiting F_seen G_near G_nearEnd B_chosen B_partOf B_rest B_unknowns B_partStart B_cells S_minedSet S_safeSet S_partSet S_tally S_askedTally S_groupOf S_groupSize S_links S_linkEnd S_pick S_groupMinedSet S_groupSafeSet O_sums O_nextSums R_found R_openEnds R_need R_waiting R_waits R_common R_met A_number Q_mined Q_all Q_choices Q_term Q_divisor Q_spare X_limbs X_sum Y_limbs Y_sum) := by
    intro h
    replace h := hJ_5 h
    refine wa_iconst C (z := 0) dX3_isPossible_46 rfl ?_
    refine wa_sub C [] rfl ?_
    exact k_2 0 (inR_k 0 rfl) h
  refine wa_icmp_lt C (tgt := 46) rx0 (inR_k 3 rfl) dX3_isPossible_2 (by decide) (fun c_7 => ?_) (fun c_7 => ?_)
  · replace h := h.1 c_7
    refine wa_sub C [] rfl ?_
    exact k_6 h
  · replace h := h.2 c_7
    refine wa_iload_n C 0 rfl dX3_isPossible_5 rfl ?_
    refine wa_bipush C (z := 12) dX3_isPossible_6 (by decide) ?_
    refine wa_icmp_gt C (tgt := 46) rx0 (inR_k 12 rfl) dX3_isPossible_8 (by decide) (fun c_8 => ?_) (fun c_8 => ?_)
    · replace h := h.1 c_8
      refine wa_sub C [] rfl ?_
      exact k_6 h
    · replace h := h.2 c_8
      refine wa_iload_n C 1 rfl dX3_isPossible_11 rfl ?_
      refine wa_iconst C (z := 3) dX3_isPossible_12 rfl ?_
      refine wa_icmp_lt C (tgt := 46) rx1 (inR_k 3 rfl) dX3_isPossible_13 (by decide) (fun c_9 => ?_) (fun c_9 => ?_)
      · replace h := h.1 c_9
        refine wa_sub C [] rfl ?_
        exact k_6 h
      · replace h := h.2 c_9
        refine wa_iload_n C 1 rfl dX3_isPossible_16 rfl ?_
        refine wa_bipush C (z := 12) dX3_isPossible_17 (by decide) ?_
        refine wa_icmp_gt C (tgt := 46) rx1 (inR_k 12 rfl) dX3_isPossible_19 (by decide) (fun c_10 => ?_) (fun c_10 => ?_)
        · replace h := h.1 c_10
          refine wa_sub C [] rfl ?_
          exact k_6 h
        · replace h := h.2 c_10
          refine wa_iload_n C 2 rfl dX3_isPossible_22 rfl ?_
          refine wa_if_lt C (tgt := 46) rx2 dX3_isPossible_23 (by decide) (fun c_11 => ?_) (fun c_11 => ?_)
          · replace h := h.1 c_11
            refine wa_sub C [] rfl ?_
            exact k_6 h
          · replace h := h.2 c_11
            refine wa_iload_n C 2 rfl dX3_isPossible_26 rfl ?_
            refine wa_iconst C (z := 3) dX3_isPossible_27 rfl ?_
            refine wa_icmp_gt C (tgt := 46) rx2 (inR_k 3 rfl) dX3_isPossible_28 (by decide) (fun c_12 => ?_) (fun c_12 => ?_)
            · replace h := h.1 c_12
              refine wa_sub C [] rfl ?_
              exact k_6 h
            · replace h := h.2 c_12
              refine wa_iload_n C 2 rfl dX3_isPossible_31 rfl ?_
              refine wa_iconst C (z := 3) dX3_isPossible_32 rfl ?_
              obtain ⟨J_13, h, hJ_13⟩ := h
              have k_14 : J_13 → WA p l e ({ frames := 2, cells := 0, slots := 0, locals := 120 } : Room) s m args below meth c 0 0 Q K ad 3 A 42 [] [] (dW D_hasBoard D_beganBlank F_mines F_moves F_changes G_width G_height G_size B_parts B_longest S_groups S_askedGroup S_taken R_waitingCount R_metCount A_grade A_cell A_mined A_withTotal A_numbers X_low X_high Y_low Y_high F_mined F_number F_state F_cellsIn F_unknownNear F_hitNear F_moveStart F_changed F_waiting F_seen G_near G_nearEnd B_chosen B_partOf B_rest B_unknowns B_partStart B_cells S_minedSet S_safeSet S_partSet S_tally S_askedTally S_groupOf S_groupSize S_links S_linkEnd S_pick S_groupMinedSet S_groupSafeSet O_sums O_nextSums R_found R_openEnds R_need R_waiting R_waits R_common R_met A_number Q_mined Q_all Q_choices Q_term Q_divisor Q_spare X_limbs X_sum Y_limbs Y_sum) := by
                intro h
                replace h := hJ_13 h
                refine wa_iconst C (z := 1) dX3_isPossible_42 rfl ?_
                refine wa_goto C (tgt := 47) dX3_isPossible_43 (by decide) ?_
                refine wa_sub C [] rfl ?_
                exact k_2 1 (inR_k 1 rfl) h
              refine wa_icmp_ne C (tgt := 42) rx2 (inR_k 3 rfl) dX3_isPossible_33 (by decide) (fun c_15 => ?_) (fun c_15 => ?_)
              · replace h := h.1 c_15
                refine wa_sub C [] rfl ?_
                exact k_14 h
              · replace h := h.2 c_15
                refine wa_iload_n C 1 rfl dX3_isPossible_36 rfl ?_
                refine wa_iconst C (z := 2) dX3_isPossible_37 rfl ?_
                refine wa_irem C dX3_isPossible_38 rx1 (inR_k 2 rfl) (by decide) ?_
                obtain ⟨r_16, h⟩ := h
                refine wa_if_ne C (tgt := 46) r_16 dX3_isPossible_39 (by decide) (fun c_17 => ?_) (fun c_17 => ?_)
                · replace h := h.1 c_17
                  refine wa_sub C [] rfl ?_
                  exact k_6 h
                · replace h := h.2 c_17
                  refine wa_sub C [] rfl ?_
                  exact k_14 h
def P_X3_isComb (post : Int → Prop) (x0 : Int) : Prop :=
  ∃ J_1 : (Int) → Prop, ((x0 < 2 → (J_1 0)) ∧ (¬ x0 < 2 → (J_1 1))) ∧ (∀ (z_3 : Int), inR z_3 → J_1 z_3 → ((z_3 = 0 ∨ z_3 = 1) ∧ (post z_3)))
set_option maxRecDepth 100000 in
set_option maxHeartbeats 4000000 in
theorem c_X3_isComb (l : Launch) (K : wK) (ad : Nat → Nat) {D_hasBoard : Int} {D_beganBlank : Int} {F_mines : Int} {F_moves : Int} {F_changes : Int} {G_width : Int} {G_height : Int} {G_size : Int} {B_parts : Int} {B_longest : Int} {S_groups : Int} {S_askedGroup : Int} {S_taken : Int} {R_waitingCount : Int} {R_metCount : Int} {A_grade : Int} {A_cell : Int} {A_mined : Int} {A_withTotal : Int} {A_numbers : Int} {X_low : Int} {X_high : Int} {Y_low : Int} {Y_high : Int} {F_mined : Int → Int} {F_number : Int → Int} {F_state : Int → Int} {F_cellsIn : Int → Int} {F_unknownNear : Int → Int} {F_hitNear : Int → Int} {F_moveStart : Int → Int} {F_changed : Int → Int} {F_waiting : Int → Int} {F_seen : Int → Int} {G_near : Int → Int} {G_nearEnd : Int → Int} {B_chosen : Int → Int} {B_partOf : Int → Int} {B_rest : Int → Int} {B_unknowns : Int → Int} {B_partStart : Int → Int} {B_cells : Int → Int} {S_minedSet : Int → Int} {S_safeSet : Int → Int} {S_partSet : Int → Int} {S_tally : Int → Int} {S_askedTally : Int → Int} {S_groupOf : Int → Int} {S_groupSize : Int → Int} {S_links : Int → Int} {S_linkEnd : Int → Int} {S_pick : Int → Int} {S_groupMinedSet : Int → Int} {S_groupSafeSet : Int → Int} {O_sums : Int → Int64} {O_nextSums : Int → Int64} {R_found : Int → Int} {R_openEnds : Int → Int} {R_need : Int → Int} {R_waiting : Int → Int} {R_waits : Int → Int} {R_common : Int → Int} {R_met : Int → Int} {A_number : Int → Int} {Q_mined : Int → Int64} {Q_all : Int → Int64} {Q_choices : Int → Int64} {Q_term : Int → Int64} {Q_divisor : Int → Int64} {Q_spare : Int → Int64} {X_limbs : Int → Int64} {X_sum : Int → Int64} {Y_limbs : Int → Int64} {Y_sum : Int → Int64} (x0 : Int) (rx0 : inR x0) (post : Int → Prop) (h : P_X3_isComb post x0) : mI l yX3_isComb (Cond.code yX3_isComb cX3_isComb 1 (some .boolean) :: GT) ({ frames := 2, cells := 0, slots := 0, locals := 120 } : Room) [.int (iI x0)] K ad (dW D_hasBoard D_beganBlank F_mines F_moves F_changes G_width G_height G_size B_parts B_longest S_groups S_askedGroup S_taken R_waitingCount R_metCount A_grade A_cell A_mined A_withTotal A_numbers X_low X_high Y_low Y_high F_mined F_number F_state F_cellsIn F_unknownNear F_hitNear F_moveStart F_changed F_waiting F_seen G_near G_nearEnd B_chosen B_partOf B_rest B_unknowns B_partStart B_cells S_minedSet S_safeSet S_partSet S_tally S_askedTally S_groupOf S_groupSize S_links S_linkEnd S_pick S_groupMinedSet S_groupSafeSet O_sums O_nextSums R_found R_openEnds R_need R_waiting R_waits R_common R_met A_number Q_mined Q_all Q_choices Q_term Q_divisor Q_spare X_limbs X_sum Y_limbs Y_sum) (fun z9 u9 => (z9 = 0 ∨ z9 = 1) ∧ u9 = (dW D_hasBoard D_beganBlank F_mines F_moves F_changes G_width G_height G_size B_parts B_longest S_groups S_askedGroup S_taken R_waitingCount R_metCount A_grade A_cell A_mined A_withTotal A_numbers X_low X_high Y_low Y_high F_mined F_number F_state F_cellsIn F_unknownNear F_hitNear F_moveStart F_changed F_waiting F_seen G_near G_nearEnd B_chosen B_partOf B_rest B_unknowns B_partStart B_cells S_minedSet S_safeSet S_partSet S_tally S_askedTally S_groupOf S_groupSize S_links S_linkEnd S_pick S_groupMinedSet S_groupSafeSet O_sums O_nextSums R_found R_openEnds R_need R_waiting R_waits R_common R_met A_number Q_mined Q_all Q_choices Q_term Q_divisor Q_spare X_limbs X_sum Y_limbs Y_sum) ∧ post z9) := by
  refine mZ_of (lv0 := [(0, .int (iI x0))]) (by decide) (Nat.le_of_ble_eq_true rfl) rfl ?_
  intro p e s m args below meth c Q A C ret
  replace C : Cx p ({ frames := 2, cells := 0, slots := 0, locals := 120 } : Room) m c 0 0 cX3_isComb 1 s args RX3 K A := C
  unfold P_X3_isComb at h
  refine wa_iload_n C 0 rfl dX3_isComb_0 rfl ?_
  refine wa_iconst C (z := 2) dX3_isComb_1 rfl ?_
  obtain ⟨J_1, h, hJ_1⟩ := h
  have k_2 : ∀ (z_3 : Int), inR z_3 → J_1 z_3 → WA p l e ({ frames := 2, cells := 0, slots := 0, locals := 120 } : Room) s m args below meth c 0 0 Q K ad 1 A 10 [] [.int (iI z_3)] (dW D_hasBoard D_beganBlank F_mines F_moves F_changes G_width G_height G_size B_parts B_longest S_groups S_askedGroup S_taken R_waitingCount R_metCount A_grade A_cell A_mined A_withTotal A_numbers X_low X_high Y_low Y_high F_mined F_number F_state F_cellsIn F_unknownNear F_hitNear F_moveStart F_changed F_waiting F_seen G_near G_nearEnd B_chosen B_partOf B_rest B_unknowns B_partStart B_cells S_minedSet S_safeSet S_partSet S_tally S_askedTally S_groupOf S_groupSize S_links S_linkEnd S_pick S_groupMinedSet S_groupSafeSet O_sums O_nextSums R_found R_openEnds R_need R_waiting R_waits R_common R_met A_number Q_mined Q_all Q_choices Q_term Q_divisor Q_spare X_limbs X_sum Y_limbs Y_sum) := by
    intro z_3 rz_3 h
    replace h := hJ_1 z_3 rz_3 h
    obtain ⟨b_4, h⟩ := h
    exact ret dX3_isComb_10 b_4 ⟨b_4, rfl, h⟩
  refine wa_icmp_lt C (tgt := 9) rx0 (inR_k 2 rfl) dX3_isComb_2 (by decide) (fun c_5 => ?_) (fun c_5 => ?_)
  · replace h := h.1 c_5
    refine wa_iconst C (z := 0) dX3_isComb_9 rfl ?_
    refine wa_sub C [] rfl ?_
    exact k_2 0 (inR_k 0 rfl) h
  · replace h := h.2 c_5
    refine wa_iconst C (z := 1) dX3_isComb_5 rfl ?_
    refine wa_goto C (tgt := 10) dX3_isComb_6 (by decide) ?_
    refine wa_sub C [] rfl ?_
    exact k_2 1 (inR_k 1 rfl) h
def P_X3_cell (post : Int → Prop) (G_width : Int) (x1 : Int) (x2 : Int) : Prop :=
  inR ((x1 * G_width) + x2) ∧ (post ((x1 * G_width) + x2))
set_option maxRecDepth 100000 in
set_option maxHeartbeats 4000000 in
theorem c_X3_cell (l : Launch) (K : wK) (ad : Nat → Nat) {D_hasBoard : Int} {D_beganBlank : Int} {F_mines : Int} {F_moves : Int} {F_changes : Int} {G_width : Int} {G_height : Int} {G_size : Int} {B_parts : Int} {B_longest : Int} {S_groups : Int} {S_askedGroup : Int} {S_taken : Int} {R_waitingCount : Int} {R_metCount : Int} {A_grade : Int} {A_cell : Int} {A_mined : Int} {A_withTotal : Int} {A_numbers : Int} {X_low : Int} {X_high : Int} {Y_low : Int} {Y_high : Int} {F_mined : Int → Int} {F_number : Int → Int} {F_state : Int → Int} {F_cellsIn : Int → Int} {F_unknownNear : Int → Int} {F_hitNear : Int → Int} {F_moveStart : Int → Int} {F_changed : Int → Int} {F_waiting : Int → Int} {F_seen : Int → Int} {G_near : Int → Int} {G_nearEnd : Int → Int} {B_chosen : Int → Int} {B_partOf : Int → Int} {B_rest : Int → Int} {B_unknowns : Int → Int} {B_partStart : Int → Int} {B_cells : Int → Int} {S_minedSet : Int → Int} {S_safeSet : Int → Int} {S_partSet : Int → Int} {S_tally : Int → Int} {S_askedTally : Int → Int} {S_groupOf : Int → Int} {S_groupSize : Int → Int} {S_links : Int → Int} {S_linkEnd : Int → Int} {S_pick : Int → Int} {S_groupMinedSet : Int → Int} {S_groupSafeSet : Int → Int} {O_sums : Int → Int64} {O_nextSums : Int → Int64} {R_found : Int → Int} {R_openEnds : Int → Int} {R_need : Int → Int} {R_waiting : Int → Int} {R_waits : Int → Int} {R_common : Int → Int} {R_met : Int → Int} {A_number : Int → Int} {Q_mined : Int → Int64} {Q_all : Int → Int64} {Q_choices : Int → Int64} {Q_term : Int → Int64} {Q_divisor : Int → Int64} {Q_spare : Int → Int64} {X_limbs : Int → Int64} {X_sum : Int → Int64} {Y_limbs : Int → Int64} {Y_sum : Int → Int64} (x1 : Int) (x2 : Int) (rx1 : inR x1) (rx2 : inR x2) (post : Int → Prop) (h : P_X3_cell post G_width x1 x2) : mI l yX3_cell (Cond.code yX3_cell cX3_cell 3 (some .int) :: GT) ({ frames := 2, cells := 0, slots := 0, locals := 120 } : Room) [.ref (ad 2), .int (iI x1), .int (iI x2)] K ad (dW D_hasBoard D_beganBlank F_mines F_moves F_changes G_width G_height G_size B_parts B_longest S_groups S_askedGroup S_taken R_waitingCount R_metCount A_grade A_cell A_mined A_withTotal A_numbers X_low X_high Y_low Y_high F_mined F_number F_state F_cellsIn F_unknownNear F_hitNear F_moveStart F_changed F_waiting F_seen G_near G_nearEnd B_chosen B_partOf B_rest B_unknowns B_partStart B_cells S_minedSet S_safeSet S_partSet S_tally S_askedTally S_groupOf S_groupSize S_links S_linkEnd S_pick S_groupMinedSet S_groupSafeSet O_sums O_nextSums R_found R_openEnds R_need R_waiting R_waits R_common R_met A_number Q_mined Q_all Q_choices Q_term Q_divisor Q_spare X_limbs X_sum Y_limbs Y_sum) (fun z9 u9 => u9 = (dW D_hasBoard D_beganBlank F_mines F_moves F_changes G_width G_height G_size B_parts B_longest S_groups S_askedGroup S_taken R_waitingCount R_metCount A_grade A_cell A_mined A_withTotal A_numbers X_low X_high Y_low Y_high F_mined F_number F_state F_cellsIn F_unknownNear F_hitNear F_moveStart F_changed F_waiting F_seen G_near G_nearEnd B_chosen B_partOf B_rest B_unknowns B_partStart B_cells S_minedSet S_safeSet S_partSet S_tally S_askedTally S_groupOf S_groupSize S_links S_linkEnd S_pick S_groupMinedSet S_groupSafeSet O_sums O_nextSums R_found R_openEnds R_need R_waiting R_waits R_common R_met A_number Q_mined Q_all Q_choices Q_term Q_divisor Q_spare X_limbs X_sum Y_limbs Y_sum) ∧ post z9) := by
  refine mI_of (lv0 := [(0, .ref (ad 2)), (1, .int (iI x1)), (2, .int (iI x2))]) (by decide) (Nat.le_of_ble_eq_true rfl) rfl ?_
  intro p e s m args below meth c Q A C ret
  replace C : Cx p ({ frames := 2, cells := 0, slots := 0, locals := 120 } : Room) m c 0 0 cX3_cell 3 s args RX3 K A := C
  unfold P_X3_cell at h
  refine wa_iload_n C 1 rfl dX3_cell_0 rfl ?_
  refine wa_aload_n C 0 rfl dX3_cell_1 rfl ?_
  refine wa_getI C 2 0 dW_2 rfl rfl (by decide) okX3 gw_45 dX3_cell_2 (fun r_1 => ?_)
  refine wa_imul C dX3_cell_5 ?_
  refine wa_iload_n C 2 rfl dX3_cell_6 rfl ?_
  refine wa_iadd C dX3_cell_7 ?_
  obtain ⟨r_2, h⟩ := h
  exact ret dX3_cell_8 r_2 ⟨rfl, h⟩
def P_X3_reaches (post : Int → Prop) (x0 : Int) (x1 : Int) (x2 : Int) (x3 : Int) : Prop :=
  ∃ J_1 : Prop, ((¬ x1 = 0 → (J_1)) ∧ (x1 = 0 → ((¬ x2 = 0 → (J_1)) ∧ (x2 = 0 → (post 0))))) ∧ (J_1 → (∃ J_3 : (Int) → Prop, (∃ J_7 : Prop, ((x3 = 0 → (J_7)) ∧ (¬ x3 = 0 → ((x1 = 0 → (J_7)) ∧ (¬ x1 = 0 → ((x2 = 0 → (J_7)) ∧ (¬ x2 = 0 → (inR (x0.tmod 2) ∧ (∃ J_13 : (Int) → Prop, ((¬ (x0.tmod 2) = 0 → (J_13 1)) ∧ ((x0.tmod 2) = 0 → (J_13 (-1)))) ∧ (∀ (z_15 : Int), inR z_15 → J_13 z_15 → ((¬ x2 = z_15 → (J_3 0)) ∧ (x2 = z_15 → (J_7)))))))))))) ∧ (J_7 → (J_3 1))) ∧ (∀ (z_5 : Int), inR z_5 → J_3 z_5 → ((z_5 = 0 ∨ z_5 = 1) ∧ (post z_5)))))
set_option maxRecDepth 100000 in
set_option maxHeartbeats 4000000 in
theorem c_X3_reaches (l : Launch) (K : wK) (ad : Nat → Nat) {D_hasBoard : Int} {D_beganBlank : Int} {F_mines : Int} {F_moves : Int} {F_changes : Int} {G_width : Int} {G_height : Int} {G_size : Int} {B_parts : Int} {B_longest : Int} {S_groups : Int} {S_askedGroup : Int} {S_taken : Int} {R_waitingCount : Int} {R_metCount : Int} {A_grade : Int} {A_cell : Int} {A_mined : Int} {A_withTotal : Int} {A_numbers : Int} {X_low : Int} {X_high : Int} {Y_low : Int} {Y_high : Int} {F_mined : Int → Int} {F_number : Int → Int} {F_state : Int → Int} {F_cellsIn : Int → Int} {F_unknownNear : Int → Int} {F_hitNear : Int → Int} {F_moveStart : Int → Int} {F_changed : Int → Int} {F_waiting : Int → Int} {F_seen : Int → Int} {G_near : Int → Int} {G_nearEnd : Int → Int} {B_chosen : Int → Int} {B_partOf : Int → Int} {B_rest : Int → Int} {B_unknowns : Int → Int} {B_partStart : Int → Int} {B_cells : Int → Int} {S_minedSet : Int → Int} {S_safeSet : Int → Int} {S_partSet : Int → Int} {S_tally : Int → Int} {S_askedTally : Int → Int} {S_groupOf : Int → Int} {S_groupSize : Int → Int} {S_links : Int → Int} {S_linkEnd : Int → Int} {S_pick : Int → Int} {S_groupMinedSet : Int → Int} {S_groupSafeSet : Int → Int} {O_sums : Int → Int64} {O_nextSums : Int → Int64} {R_found : Int → Int} {R_openEnds : Int → Int} {R_need : Int → Int} {R_waiting : Int → Int} {R_waits : Int → Int} {R_common : Int → Int} {R_met : Int → Int} {A_number : Int → Int} {Q_mined : Int → Int64} {Q_all : Int → Int64} {Q_choices : Int → Int64} {Q_term : Int → Int64} {Q_divisor : Int → Int64} {Q_spare : Int → Int64} {X_limbs : Int → Int64} {X_sum : Int → Int64} {Y_limbs : Int → Int64} {Y_sum : Int → Int64} (x0 : Int) (x1 : Int) (x2 : Int) (x3 : Int) (rx0 : inR x0) (rx1 : inR x1) (rx2 : inR x2) (bx3 : x3 = 0 ∨ x3 = 1) (post : Int → Prop) (h : P_X3_reaches post x0 x1 x2 x3) : mI l yX3_reaches (Cond.code yX3_reaches cX3_reaches 4 (some .boolean) :: GT) ({ frames := 2, cells := 0, slots := 0, locals := 120 } : Room) [.int (iI x0), .int (iI x1), .int (iI x2), .int (iI x3)] K ad (dW D_hasBoard D_beganBlank F_mines F_moves F_changes G_width G_height G_size B_parts B_longest S_groups S_askedGroup S_taken R_waitingCount R_metCount A_grade A_cell A_mined A_withTotal A_numbers X_low X_high Y_low Y_high F_mined F_number F_state F_cellsIn F_unknownNear F_hitNear F_moveStart F_changed F_waiting F_seen G_near G_nearEnd B_chosen B_partOf B_rest B_unknowns B_partStart B_cells S_minedSet S_safeSet S_partSet S_tally S_askedTally S_groupOf S_groupSize S_links S_linkEnd S_pick S_groupMinedSet S_groupSafeSet O_sums O_nextSums R_found R_openEnds R_need R_waiting R_waits R_common R_met A_number Q_mined Q_all Q_choices Q_term Q_divisor Q_spare X_limbs X_sum Y_limbs Y_sum) (fun z9 u9 => (z9 = 0 ∨ z9 = 1) ∧ u9 = (dW D_hasBoard D_beganBlank F_mines F_moves F_changes G_width G_height G_size B_parts B_longest S_groups S_askedGroup S_taken R_waitingCount R_metCount A_grade A_cell A_mined A_withTotal A_numbers X_low X_high Y_low Y_high F_mined F_number F_state F_cellsIn F_unknownNear F_hitNear F_moveStart F_changed F_waiting F_seen G_near G_nearEnd B_chosen B_partOf B_rest B_unknowns B_partStart B_cells S_minedSet S_safeSet S_partSet S_tally S_askedTally S_groupOf S_groupSize S_links S_linkEnd S_pick S_groupMinedSet S_groupSafeSet O_sums O_nextSums R_found R_openEnds R_need R_waiting R_waits R_common R_met A_number Q_mined Q_all Q_choices Q_term Q_divisor Q_spare X_limbs X_sum Y_limbs Y_sum) ∧ post z9) := by
  refine mZ_of (lv0 := [(0, .int (iI x0)), (1, .int (iI x1)), (2, .int (iI x2)), (3, .int (iI x3))]) (by decide) (Nat.le_of_ble_eq_true rfl) rfl ?_
  intro p e s m args below meth c Q A C ret
  replace C : Cx p ({ frames := 2, cells := 0, slots := 0, locals := 120 } : Room) m c 0 0 cX3_reaches 4 s args RX3 K A := C
  unfold P_X3_reaches at h
  refine wa_iload_n C 1 rfl dX3_reaches_0 rfl ?_
  obtain ⟨J_1, h, hJ_1⟩ := h
  have k_2 : J_1 → WA p l e ({ frames := 2, cells := 0, slots := 0, locals := 120 } : Room) s m args below meth c 0 0 Q K ad 4 A 10 [(0, .int (iI x0)), (1, .int (iI x1)), (2, .int (iI x2)), (3, .int (iI x3))] [] (dW D_hasBoard D_beganBlank F_mines F_moves F_changes G_width G_height G_size B_parts B_longest S_groups S_askedGroup S_taken R_waitingCount R_metCount A_grade A_cell A_mined A_withTotal A_numbers X_low X_high Y_low Y_high F_mined F_number F_state F_cellsIn F_unknownNear F_hitNear F_moveStart F_changed F_waiting F_seen G_near G_nearEnd B_chosen B_partOf B_rest B_unknowns B_partStart B_cells S_minedSet S_safeSet S_partSet S_tally S_askedTally S_groupOf S_groupSize S_links S_linkEnd S_pick S_groupMinedSet S_groupSafeSet O_sums O_nextSums R_found R_openEnds R_need R_waiting R_waits R_common R_met A_number Q_mined Q_all Q_choices Q_term Q_divisor Q_spare X_limbs X_sum Y_limbs Y_sum) := by
    intro h
    replace h := hJ_1 h
    refine wa_iload_n C 3 rfl dX3_reaches_10 rfl ?_
    obtain ⟨J_3, h, hJ_3⟩ := h
    have k_4 : ∀ (z_5 : Int), inR z_5 → J_3 z_5 → WA p l e ({ frames := 2, cells := 0, slots := 0, locals := 120 } : Room) s m args below meth c 0 0 Q K ad 4 A 42 [] [.int (iI z_5)] (dW D_hasBoard D_beganBlank F_mines F_moves F_changes G_width G_height G_size B_parts B_longest S_groups S_askedGroup S_taken R_waitingCount R_metCount A_grade A_cell A_mined A_withTotal A_numbers X_low X_high Y_low Y_high F_mined F_number F_state F_cellsIn F_unknownNear F_hitNear F_moveStart F_changed F_waiting F_seen G_near G_nearEnd B_chosen B_partOf B_rest B_unknowns B_partStart B_cells S_minedSet S_safeSet S_partSet S_tally S_askedTally S_groupOf S_groupSize S_links S_linkEnd S_pick S_groupMinedSet S_groupSafeSet O_sums O_nextSums R_found R_openEnds R_need R_waiting R_waits R_common R_met A_number Q_mined Q_all Q_choices Q_term Q_divisor Q_spare X_limbs X_sum Y_limbs Y_sum) := by
      intro z_5 rz_5 h
      replace h := hJ_3 z_5 rz_5 h
      obtain ⟨b_6, h⟩ := h
      exact ret dX3_reaches_42 b_6 ⟨b_6, rfl, h⟩
    obtain ⟨J_7, h, hJ_7⟩ := h
    have k_8 : J_7 → WA p l e ({ frames := 2, cells := 0, slots := 0, locals := 120 } : Room) s m args below meth c 0 0 Q K ad 4 A 37 [] [] (dW D_hasBoard D_beganBlank F_mines F_moves F_changes G_width G_height G_size B_parts B_longest S_groups S_askedGroup S_taken R_waitingCount R_metCount A_grade A_cell A_mined A_withTotal A_numbers X_low X_high Y_low Y_high F_mined F_number F_state F_cellsIn F_unknownNear F_hitNear F_moveStart F_changed F_waiting F_seen G_near G_nearEnd B_chosen B_partOf B_rest B_unknowns B_partStart B_cells S_minedSet S_safeSet S_partSet S_tally S_askedTally S_groupOf S_groupSize S_links S_linkEnd S_pick S_groupMinedSet S_groupSafeSet O_sums O_nextSums R_found R_openEnds R_need R_waiting R_waits R_common R_met A_number Q_mined Q_all Q_choices Q_term Q_divisor Q_spare X_limbs X_sum Y_limbs Y_sum) := by
      intro h
      replace h := hJ_7 h
      refine wa_iconst C (z := 1) dX3_reaches_37 rfl ?_
      refine wa_goto C (tgt := 42) dX3_reaches_38 (by decide) ?_
      refine wa_sub C [] rfl ?_
      exact k_4 1 (inR_k 1 rfl) h
    refine wa_if_eq C (tgt := 37) (inR_b bx3) dX3_reaches_11 (by decide) (fun c_9 => ?_) (fun c_9 => ?_)
    · replace h := h.1 c_9
      refine wa_sub C [] rfl ?_
      exact k_8 h
    · replace h := h.2 c_9
      refine wa_iload_n C 1 rfl dX3_reaches_14 rfl ?_
      refine wa_if_eq C (tgt := 37) rx1 dX3_reaches_15 (by decide) (fun c_10 => ?_) (fun c_10 => ?_)
      · replace h := h.1 c_10
        refine wa_sub C [] rfl ?_
        exact k_8 h
      · replace h := h.2 c_10
        refine wa_iload_n C 2 rfl dX3_reaches_18 rfl ?_
        refine wa_if_eq C (tgt := 37) rx2 dX3_reaches_19 (by decide) (fun c_11 => ?_) (fun c_11 => ?_)
        · replace h := h.1 c_11
          refine wa_sub C [] rfl ?_
          exact k_8 h
        · replace h := h.2 c_11
          refine wa_iload_n C 2 rfl dX3_reaches_22 rfl ?_
          refine wa_iload_n C 0 rfl dX3_reaches_23 rfl ?_
          refine wa_iconst C (z := 2) dX3_reaches_24 rfl ?_
          refine wa_irem C dX3_reaches_25 rx0 (inR_k 2 rfl) (by decide) ?_
          obtain ⟨r_12, h⟩ := h
          obtain ⟨J_13, h, hJ_13⟩ := h
          have k_14 : ∀ (z_15 : Int), inR z_15 → J_13 z_15 → WA p l e ({ frames := 2, cells := 0, slots := 0, locals := 120 } : Room) s m args below meth c 0 0 Q K ad 4 A 34 [] [.int (iI z_15), .int (iI x2)] (dW D_hasBoard D_beganBlank F_mines F_moves F_changes G_width G_height G_size B_parts B_longest S_groups S_askedGroup S_taken R_waitingCount R_metCount A_grade A_cell A_mined A_withTotal A_numbers X_low X_high Y_low Y_high F_mined F_number F_state F_cellsIn F_unknownNear F_hitNear F_moveStart F_changed F_waiting F_seen G_near G_nearEnd B_chosen B_partOf B_rest B_unknowns B_partStart B_cells S_minedSet S_safeSet S_partSet S_tally S_askedTally S_groupOf S_groupSize S_links S_linkEnd S_pick S_groupMinedSet S_groupSafeSet O_sums O_nextSums R_found R_openEnds R_need R_waiting R_waits R_common R_met A_number Q_mined Q_all Q_choices Q_term Q_divisor Q_spare X_limbs X_sum Y_limbs Y_sum) := by
            intro z_15 rz_15 h
            replace h := hJ_13 z_15 rz_15 h
            refine wa_icmp_ne C (tgt := 41) rx2 rz_15 dX3_reaches_34 (by decide) (fun c_16 => ?_) (fun c_16 => ?_)
            · replace h := h.1 c_16
              refine wa_iconst C (z := 0) dX3_reaches_41 rfl ?_
              refine wa_sub C [] rfl ?_
              exact k_4 0 (inR_k 0 rfl) h
            · replace h := h.2 c_16
              refine wa_sub C [] rfl ?_
              exact k_8 h
          refine wa_if_ne C (tgt := 33) r_12 dX3_reaches_26 (by decide) (fun c_17 => ?_) (fun c_17 => ?_)
          · replace h := h.1 c_17
            refine wa_iconst C (z := 1) dX3_reaches_33 rfl ?_
            refine wa_sub C [] rfl ?_
            exact k_14 1 (inR_k 1 rfl) h
          · replace h := h.2 c_17
            refine wa_iconst C (z := -1) dX3_reaches_29 rfl ?_
            refine wa_goto C (tgt := 34) dX3_reaches_30 (by decide) ?_
            refine wa_sub C [] rfl ?_
            exact k_14 (-1) (inR_k (-1) rfl) h
  refine wa_if_ne C (tgt := 10) rx1 dX3_reaches_1 (by decide) (fun c_18 => ?_) (fun c_18 => ?_)
  · replace h := h.1 c_18
    refine wa_sub C [0, 1, 2, 3] rfl ?_
    exact k_2 h
  · replace h := h.2 c_18
    refine wa_iload_n C 2 rfl dX3_reaches_4 rfl ?_
    refine wa_if_ne C (tgt := 10) rx2 dX3_reaches_5 (by decide) (fun c_19 => ?_) (fun c_19 => ?_)
    · replace h := h.1 c_19
      refine wa_sub C [0, 1, 2, 3] rfl ?_
      exact k_2 h
    · replace h := h.2 c_19
      refine wa_iconst C (z := 0) dX3_reaches_8 rfl ?_
      exact ret dX3_reaches_9 (Or.inl rfl) ⟨(Or.inl rfl), rfl, h⟩
def P_X3_has (post : Int → Prop) (G_width : Int) (G_height : Int) (x1 : Int) (x2 : Int) : Prop :=
  ∃ J_1 : (Int) → Prop, (∃ J_5 : Prop, ((x1 < 0 → (J_5)) ∧ (¬ x1 < 0 → ((G_height ≤ x1 → (J_5)) ∧ (¬ G_height ≤ x1 → ((x2 < 0 → (J_5)) ∧ (¬ x2 < 0 → ((G_width ≤ x2 → (J_5)) ∧ (¬ G_width ≤ x2 → (J_1 1))))))))) ∧ (J_5 → (J_1 0))) ∧ (∀ (z_3 : Int), inR z_3 → J_1 z_3 → ((z_3 = 0 ∨ z_3 = 1) ∧ (post z_3)))
set_option maxRecDepth 100000 in
set_option maxHeartbeats 4000000 in
theorem c_X3_has (l : Launch) (K : wK) (ad : Nat → Nat) {D_hasBoard : Int} {D_beganBlank : Int} {F_mines : Int} {F_moves : Int} {F_changes : Int} {G_width : Int} {G_height : Int} {G_size : Int} {B_parts : Int} {B_longest : Int} {S_groups : Int} {S_askedGroup : Int} {S_taken : Int} {R_waitingCount : Int} {R_metCount : Int} {A_grade : Int} {A_cell : Int} {A_mined : Int} {A_withTotal : Int} {A_numbers : Int} {X_low : Int} {X_high : Int} {Y_low : Int} {Y_high : Int} {F_mined : Int → Int} {F_number : Int → Int} {F_state : Int → Int} {F_cellsIn : Int → Int} {F_unknownNear : Int → Int} {F_hitNear : Int → Int} {F_moveStart : Int → Int} {F_changed : Int → Int} {F_waiting : Int → Int} {F_seen : Int → Int} {G_near : Int → Int} {G_nearEnd : Int → Int} {B_chosen : Int → Int} {B_partOf : Int → Int} {B_rest : Int → Int} {B_unknowns : Int → Int} {B_partStart : Int → Int} {B_cells : Int → Int} {S_minedSet : Int → Int} {S_safeSet : Int → Int} {S_partSet : Int → Int} {S_tally : Int → Int} {S_askedTally : Int → Int} {S_groupOf : Int → Int} {S_groupSize : Int → Int} {S_links : Int → Int} {S_linkEnd : Int → Int} {S_pick : Int → Int} {S_groupMinedSet : Int → Int} {S_groupSafeSet : Int → Int} {O_sums : Int → Int64} {O_nextSums : Int → Int64} {R_found : Int → Int} {R_openEnds : Int → Int} {R_need : Int → Int} {R_waiting : Int → Int} {R_waits : Int → Int} {R_common : Int → Int} {R_met : Int → Int} {A_number : Int → Int} {Q_mined : Int → Int64} {Q_all : Int → Int64} {Q_choices : Int → Int64} {Q_term : Int → Int64} {Q_divisor : Int → Int64} {Q_spare : Int → Int64} {X_limbs : Int → Int64} {X_sum : Int → Int64} {Y_limbs : Int → Int64} {Y_sum : Int → Int64} (x1 : Int) (x2 : Int) (rx1 : inR x1) (rx2 : inR x2) (post : Int → Prop) (h : P_X3_has post G_width G_height x1 x2) : mI l yX3_has (Cond.code yX3_has cX3_has 3 (some .boolean) :: GT) ({ frames := 2, cells := 0, slots := 0, locals := 120 } : Room) [.ref (ad 2), .int (iI x1), .int (iI x2)] K ad (dW D_hasBoard D_beganBlank F_mines F_moves F_changes G_width G_height G_size B_parts B_longest S_groups S_askedGroup S_taken R_waitingCount R_metCount A_grade A_cell A_mined A_withTotal A_numbers X_low X_high Y_low Y_high F_mined F_number F_state F_cellsIn F_unknownNear F_hitNear F_moveStart F_changed F_waiting F_seen G_near G_nearEnd B_chosen B_partOf B_rest B_unknowns B_partStart B_cells S_minedSet S_safeSet S_partSet S_tally S_askedTally S_groupOf S_groupSize S_links S_linkEnd S_pick S_groupMinedSet S_groupSafeSet O_sums O_nextSums R_found R_openEnds R_need R_waiting R_waits R_common R_met A_number Q_mined Q_all Q_choices Q_term Q_divisor Q_spare X_limbs X_sum Y_limbs Y_sum) (fun z9 u9 => (z9 = 0 ∨ z9 = 1) ∧ u9 = (dW D_hasBoard D_beganBlank F_mines F_moves F_changes G_width G_height G_size B_parts B_longest S_groups S_askedGroup S_taken R_waitingCount R_metCount A_grade A_cell A_mined A_withTotal A_numbers X_low X_high Y_low Y_high F_mined F_number F_state F_cellsIn F_unknownNear F_hitNear F_moveStart F_changed F_waiting F_seen G_near G_nearEnd B_chosen B_partOf B_rest B_unknowns B_partStart B_cells S_minedSet S_safeSet S_partSet S_tally S_askedTally S_groupOf S_groupSize S_links S_linkEnd S_pick S_groupMinedSet S_groupSafeSet O_sums O_nextSums R_found R_openEnds R_need R_waiting R_waits R_common R_met A_number Q_mined Q_all Q_choices Q_term Q_divisor Q_spare X_limbs X_sum Y_limbs Y_sum) ∧ post z9) := by
  refine mZ_of (lv0 := [(0, .ref (ad 2)), (1, .int (iI x1)), (2, .int (iI x2))]) (by decide) (Nat.le_of_ble_eq_true rfl) rfl ?_
  intro p e s m args below meth c Q A C ret
  replace C : Cx p ({ frames := 2, cells := 0, slots := 0, locals := 120 } : Room) m c 0 0 cX3_has 3 s args RX3 K A := C
  unfold P_X3_has at h
  refine wa_iload_n C 1 rfl dX3_has_0 rfl ?_
  obtain ⟨J_1, h, hJ_1⟩ := h
  have k_2 : ∀ (z_3 : Int), inR z_3 → J_1 z_3 → WA p l e ({ frames := 2, cells := 0, slots := 0, locals := 120 } : Room) s m args below meth c 0 0 Q K ad 3 A 29 [] [.int (iI z_3)] (dW D_hasBoard D_beganBlank F_mines F_moves F_changes G_width G_height G_size B_parts B_longest S_groups S_askedGroup S_taken R_waitingCount R_metCount A_grade A_cell A_mined A_withTotal A_numbers X_low X_high Y_low Y_high F_mined F_number F_state F_cellsIn F_unknownNear F_hitNear F_moveStart F_changed F_waiting F_seen G_near G_nearEnd B_chosen B_partOf B_rest B_unknowns B_partStart B_cells S_minedSet S_safeSet S_partSet S_tally S_askedTally S_groupOf S_groupSize S_links S_linkEnd S_pick S_groupMinedSet S_groupSafeSet O_sums O_nextSums R_found R_openEnds R_need R_waiting R_waits R_common R_met A_number Q_mined Q_all Q_choices Q_term Q_divisor Q_spare X_limbs X_sum Y_limbs Y_sum) := by
    intro z_3 rz_3 h
    replace h := hJ_1 z_3 rz_3 h
    obtain ⟨b_4, h⟩ := h
    exact ret dX3_has_29 b_4 ⟨b_4, rfl, h⟩
  obtain ⟨J_5, h, hJ_5⟩ := h
  have k_6 : J_5 → WA p l e ({ frames := 2, cells := 0, slots := 0, locals := 120 } : Room) s m args below meth c 0 0 Q K ad 3 A 28 [] [] (dW D_hasBoard D_beganBlank F_mines F_moves F_changes G_width G_height G_size B_parts B_longest S_groups S_askedGroup S_taken R_waitingCount R_metCount A_grade A_cell A_mined A_withTotal A_numbers X_low X_high Y_low Y_high F_mined F_number F_state F_cellsIn F_unknownNear F_hitNear F_moveStart F_changed F_waiting F_seen G_near G_nearEnd B_chosen B_partOf B_rest B_unknowns B_partStart B_cells S_minedSet S_safeSet S_partSet S_tally S_askedTally S_groupOf S_groupSize S_links S_linkEnd S_pick S_groupMinedSet S_groupSafeSet O_sums O_nextSums R_found R_openEnds R_need R_waiting R_waits R_common R_met A_number Q_mined Q_all Q_choices Q_term Q_divisor Q_spare X_limbs X_sum Y_limbs Y_sum) := by
    intro h
    replace h := hJ_5 h
    refine wa_iconst C (z := 0) dX3_has_28 rfl ?_
    refine wa_sub C [] rfl ?_
    exact k_2 0 (inR_k 0 rfl) h
  refine wa_if_lt C (tgt := 28) rx1 dX3_has_1 (by decide) (fun c_7 => ?_) (fun c_7 => ?_)
  · replace h := h.1 c_7
    refine wa_sub C [] rfl ?_
    exact k_6 h
  · replace h := h.2 c_7
    refine wa_iload_n C 1 rfl dX3_has_4 rfl ?_
    refine wa_aload_n C 0 rfl dX3_has_5 rfl ?_
    refine wa_getI C 2 1 dW_2 rfl rfl (by decide) okX3 gw_48 dX3_has_6 (fun r_8 => ?_)
    refine wa_icmp_ge C (tgt := 28) rx1 r_8 dX3_has_9 (by decide) (fun c_9 => ?_) (fun c_9 => ?_)
    · replace h := h.1 c_9
      refine wa_sub C [] rfl ?_
      exact k_6 h
    · replace h := h.2 c_9
      refine wa_iload_n C 2 rfl dX3_has_12 rfl ?_
      refine wa_if_lt C (tgt := 28) rx2 dX3_has_13 (by decide) (fun c_10 => ?_) (fun c_10 => ?_)
      · replace h := h.1 c_10
        refine wa_sub C [] rfl ?_
        exact k_6 h
      · replace h := h.2 c_10
        refine wa_iload_n C 2 rfl dX3_has_16 rfl ?_
        refine wa_aload_n C 0 rfl dX3_has_17 rfl ?_
        refine wa_getI C 2 0 dW_2 rfl rfl (by decide) okX3 gw_45 dX3_has_18 (fun r_11 => ?_)
        refine wa_icmp_ge C (tgt := 28) rx2 r_11 dX3_has_21 (by decide) (fun c_12 => ?_) (fun c_12 => ?_)
        · replace h := h.1 c_12
          refine wa_sub C [] rfl ?_
          exact k_6 h
        · replace h := h.2 c_12
          refine wa_iconst C (z := 1) dX3_has_24 rfl ?_
          refine wa_goto C (tgt := 29) dX3_has_25 (by decide) ?_
          refine wa_sub C [] rfl ?_
          exact k_2 1 (inR_k 1 rfl) h
def P_X3_addNear (post : (Int → Int) → (Int → Int) → Prop) (G_near : Int → Int) (G_nearEnd : Int → Int) (x1 : Int) (x2 : Int) : Prop :=
  (0 ≤ x1 ∧ x1 < 144) ∧ (∀ v_2 : Int, v_2 = G_nearEnd x1 → inR v_2 → (∃ Inv_3 : Nat → (Int) → (Int → Int) → Prop, (∃ n_4 : Nat, Inv_3 n_4 v_2 G_near) ∧ ∀ (n_5 : Nat) (x3_8 : Int) (G_near_9 : Int → Int), inR x3_8 → Inv_3 n_5 x3_8 G_near_9 → (inR (x1 * 8) ∧ (∃ J_11 : Prop, ((x3_8 ≤ (x1 * 8) → (J_11)) ∧ (¬ x3_8 ≤ (x1 * 8) → ((0 ≤ (x3_8 - 1) ∧ (x3_8 - 1) < 1152) ∧ (∀ v_22 : Int, v_22 = G_near_9 (x3_8 - 1) → inR v_22 → ((v_22 ≤ x2 → (J_11)) ∧ (¬ v_22 ≤ x2 → ((0 ≤ (x3_8 - 1) ∧ (x3_8 - 1) < 1152) ∧ (∀ v_25 : Int, v_25 = G_near_9 (x3_8 - 1) → inR v_25 → ((0 ≤ x3_8 ∧ x3_8 < 1152) ∧ (∀ G_near_27 : Int → Int, G_near_27 = upZ G_near_9 x3_8 v_25 → (inR (x3_8 + (-1)) ∧ (∀ x3_29 : Int, x3_29 = (x3_8 + (-1)) → (∃ n_30 : Nat, n_30 < n_5 ∧ Inv_3 n_30 x3_29 G_near_27))))))))))))) ∧ (J_11 → ((0 ≤ x3_8 ∧ x3_8 < 1152) ∧ (∀ G_near_14 : Int → Int, G_near_14 = upZ G_near_9 x3_8 x2 → ((0 ≤ x1 ∧ x1 < 144) ∧ (∀ v_16 : Int, v_16 = G_nearEnd x1 → inR v_16 → ((0 ≤ x1 ∧ x1 < 144) ∧ (inR (v_16 + 1) ∧ (∀ G_nearEnd_19 : Int → Int, G_nearEnd_19 = upZ G_nearEnd x1 (v_16 + 1) → (post G_near_14 G_nearEnd_19)))))))))))))
set_option maxRecDepth 100000 in
set_option maxHeartbeats 4000000 in
theorem c_X3_addNear (l : Launch) (K : wK) (ad : Nat → Nat) {D_hasBoard : Int} {D_beganBlank : Int} {F_mines : Int} {F_moves : Int} {F_changes : Int} {G_width : Int} {G_height : Int} {G_size : Int} {B_parts : Int} {B_longest : Int} {S_groups : Int} {S_askedGroup : Int} {S_taken : Int} {R_waitingCount : Int} {R_metCount : Int} {A_grade : Int} {A_cell : Int} {A_mined : Int} {A_withTotal : Int} {A_numbers : Int} {X_low : Int} {X_high : Int} {Y_low : Int} {Y_high : Int} {F_mined : Int → Int} {F_number : Int → Int} {F_state : Int → Int} {F_cellsIn : Int → Int} {F_unknownNear : Int → Int} {F_hitNear : Int → Int} {F_moveStart : Int → Int} {F_changed : Int → Int} {F_waiting : Int → Int} {F_seen : Int → Int} {G_near : Int → Int} {G_nearEnd : Int → Int} {B_chosen : Int → Int} {B_partOf : Int → Int} {B_rest : Int → Int} {B_unknowns : Int → Int} {B_partStart : Int → Int} {B_cells : Int → Int} {S_minedSet : Int → Int} {S_safeSet : Int → Int} {S_partSet : Int → Int} {S_tally : Int → Int} {S_askedTally : Int → Int} {S_groupOf : Int → Int} {S_groupSize : Int → Int} {S_links : Int → Int} {S_linkEnd : Int → Int} {S_pick : Int → Int} {S_groupMinedSet : Int → Int} {S_groupSafeSet : Int → Int} {O_sums : Int → Int64} {O_nextSums : Int → Int64} {R_found : Int → Int} {R_openEnds : Int → Int} {R_need : Int → Int} {R_waiting : Int → Int} {R_waits : Int → Int} {R_common : Int → Int} {R_met : Int → Int} {A_number : Int → Int} {Q_mined : Int → Int64} {Q_all : Int → Int64} {Q_choices : Int → Int64} {Q_term : Int → Int64} {Q_divisor : Int → Int64} {Q_spare : Int → Int64} {X_limbs : Int → Int64} {X_sum : Int → Int64} {Y_limbs : Int → Int64} {Y_sum : Int → Int64} (x1 : Int) (x2 : Int) (rx1 : inR x1) (rx2 : inR x2) (post : (Int → Int) → (Int → Int) → Prop) (h : P_X3_addNear post G_near G_nearEnd x1 x2) : mV l yX3_addNear (Cond.code yX3_addNear cX3_addNear 4 none :: GT) ({ frames := 2, cells := 0, slots := 0, locals := 120 } : Room) [.ref (ad 2), .int (iI x1), .int (iI x2)] K ad (dW D_hasBoard D_beganBlank F_mines F_moves F_changes G_width G_height G_size B_parts B_longest S_groups S_askedGroup S_taken R_waitingCount R_metCount A_grade A_cell A_mined A_withTotal A_numbers X_low X_high Y_low Y_high F_mined F_number F_state F_cellsIn F_unknownNear F_hitNear F_moveStart F_changed F_waiting F_seen G_near G_nearEnd B_chosen B_partOf B_rest B_unknowns B_partStart B_cells S_minedSet S_safeSet S_partSet S_tally S_askedTally S_groupOf S_groupSize S_links S_linkEnd S_pick S_groupMinedSet S_groupSafeSet O_sums O_nextSums R_found R_openEnds R_need R_waiting R_waits R_common R_met A_number Q_mined Q_all Q_choices Q_term Q_divisor Q_spare X_limbs X_sum Y_limbs Y_sum) (fun u9 => ∃ G_near9 G_nearEnd9, u9 = (dW D_hasBoard D_beganBlank F_mines F_moves F_changes G_width G_height G_size B_parts B_longest S_groups S_askedGroup S_taken R_waitingCount R_metCount A_grade A_cell A_mined A_withTotal A_numbers X_low X_high Y_low Y_high F_mined F_number F_state F_cellsIn F_unknownNear F_hitNear F_moveStart F_changed F_waiting F_seen G_near9 G_nearEnd9 B_chosen B_partOf B_rest B_unknowns B_partStart B_cells S_minedSet S_safeSet S_partSet S_tally S_askedTally S_groupOf S_groupSize S_links S_linkEnd S_pick S_groupMinedSet S_groupSafeSet O_sums O_nextSums R_found R_openEnds R_need R_waiting R_waits R_common R_met A_number Q_mined Q_all Q_choices Q_term Q_divisor Q_spare X_limbs X_sum Y_limbs Y_sum) ∧ post G_near9 G_nearEnd9) := by
  refine mV_of (lv0 := [(0, .ref (ad 2)), (1, .int (iI x1)), (2, .int (iI x2))]) (by decide) (Nat.le_of_ble_eq_true rfl) rfl ?_
  intro p e s m args below meth c Q A C ret
  replace C : Cx p ({ frames := 2, cells := 0, slots := 0, locals := 120 } : Room) m c 0 0 cX3_addNear 4 s args RX3 K A := C
  unfold P_X3_addNear at h
  refine wa_aload_n C 0 rfl dX3_addNear_0 rfl ?_
  refine wa_getR C 2 4 dW_2 rfl rfl (by decide) okX3 gw_64 dX3_addNear_1 ?_
  refine wa_iload_n C 1 rfl dX3_addNear_4 rfl ?_
  obtain ⟨t_1, h⟩ := h
  refine wa_iald C 23 dW_23 dX3_addNear_5 t_1.1 t_1.2 (fun v_2 ev_2 rv_2 => ?_)
  replace h := h v_2 ev_2 rv_2
  refine wa_istore_n C dX3_addNear_6 rfl (by decide) rfl ?_
  obtain ⟨Inv_3, ⟨n_4, h0Inv_3⟩, hInv_3⟩ := h
  have k_7 : ∀ (n_5 : Nat) (x3_8 : Int) (G_near_9 : Int → Int), inR x3_8 → Inv_3 n_5 x3_8 G_near_9 → WA p l e ({ frames := 2, cells := 0, slots := 0, locals := 120 } : Room) s m args below meth c 0 0 Q K ad 4 A 7 [(0, .ref (ad 2)), (1, .int (iI x1)), (2, .int (iI x2)), (3, .int (iI x3_8))] [] (dW D_hasBoard D_beganBlank F_mines F_moves F_changes G_width G_height G_size B_parts B_longest S_groups S_askedGroup S_taken R_waitingCount R_metCount A_grade A_cell A_mined A_withTotal A_numbers X_low X_high Y_low Y_high F_mined F_number F_state F_cellsIn F_unknownNear F_hitNear F_moveStart F_changed F_waiting F_seen G_near_9 G_nearEnd B_chosen B_partOf B_rest B_unknowns B_partStart B_cells S_minedSet S_safeSet S_partSet S_tally S_askedTally S_groupOf S_groupSize S_links S_linkEnd S_pick S_groupMinedSet S_groupSafeSet O_sums O_nextSums R_found R_openEnds R_need R_waiting R_waits R_common R_met A_number Q_mined Q_all Q_choices Q_term Q_divisor Q_spare X_limbs X_sum Y_limbs Y_sum) := by
    intro n_5
    induction n_5 using Nat.strongRecOn with
    | ind n_5 ih_6 =>
      intro x3_8 G_near_9 rx3_8 h
      replace h := hInv_3 n_5 x3_8 G_near_9 rx3_8 h
      refine wa_iload_n C 3 rfl dX3_addNear_7 rfl ?_
      refine wa_iload_n C 1 rfl dX3_addNear_8 rfl ?_
      refine wa_bipush C (z := 8) dX3_addNear_9 (by decide) ?_
      refine wa_imul C dX3_addNear_11 ?_
      obtain ⟨r_10, h⟩ := h
      obtain ⟨J_11, h, hJ_11⟩ := h
      have k_12 : J_11 → WA p l e ({ frames := 2, cells := 0, slots := 0, locals := 120 } : Room) s m args below meth c 0 0 Q K ad 4 A 47 [(0, .ref (ad 2)), (1, .int (iI x1)), (2, .int (iI x2)), (3, .int (iI x3_8))] [] (dW D_hasBoard D_beganBlank F_mines F_moves F_changes G_width G_height G_size B_parts B_longest S_groups S_askedGroup S_taken R_waitingCount R_metCount A_grade A_cell A_mined A_withTotal A_numbers X_low X_high Y_low Y_high F_mined F_number F_state F_cellsIn F_unknownNear F_hitNear F_moveStart F_changed F_waiting F_seen G_near_9 G_nearEnd B_chosen B_partOf B_rest B_unknowns B_partStart B_cells S_minedSet S_safeSet S_partSet S_tally S_askedTally S_groupOf S_groupSize S_links S_linkEnd S_pick S_groupMinedSet S_groupSafeSet O_sums O_nextSums R_found R_openEnds R_need R_waiting R_waits R_common R_met A_number Q_mined Q_all Q_choices Q_term Q_divisor Q_spare X_limbs X_sum Y_limbs Y_sum) := by
        intro h
        replace h := hJ_11 h
        refine wa_aload_n C 0 rfl dX3_addNear_47 rfl ?_
        refine wa_getR C 2 3 dW_2 rfl rfl (by decide) okX3 gw_58 dX3_addNear_48 ?_
        refine wa_iload_n C 3 rfl dX3_addNear_51 rfl ?_
        refine wa_iload_n C 2 rfl dX3_addNear_52 rfl ?_
        obtain ⟨t_13, h⟩ := h
        refine wa_iast C (ws' := fun w9 => (dW D_hasBoard D_beganBlank F_mines F_moves F_changes G_width G_height G_size B_parts B_longest S_groups S_askedGroup S_taken R_waitingCount R_metCount A_grade A_cell A_mined A_withTotal A_numbers X_low X_high Y_low Y_high F_mined F_number F_state F_cellsIn F_unknownNear F_hitNear F_moveStart F_changed F_waiting F_seen w9 G_nearEnd B_chosen B_partOf B_rest B_unknowns B_partStart B_cells S_minedSet S_safeSet S_partSet S_tally S_askedTally S_groupOf S_groupSize S_links S_linkEnd S_pick S_groupMinedSet S_groupSafeSet O_sums O_nextSums R_found R_openEnds R_need R_waiting R_waits R_common R_met A_number Q_mined Q_all Q_choices Q_term Q_divisor Q_spare X_limbs X_sum Y_limbs Y_sum)) 22 dW_22 dX3_addNear_53 t_13.1 t_13.2 rx2 dWs_22 (fun G_near_14 eG_near_14 => ?_)
        replace h := h G_near_14 eG_near_14
        refine wa_aload_n C 0 rfl dX3_addNear_54 rfl ?_
        refine wa_getR C 2 4 dW_2 rfl rfl (by decide) okX3 gw_64 dX3_addNear_55 ?_
        refine wa_iload_n C 1 rfl dX3_addNear_58 rfl ?_
        refine wa_dup2 C dX3_addNear_59 rfl rfl ?_
        obtain ⟨t_15, h⟩ := h
        refine wa_iald C 23 dW_23 dX3_addNear_60 t_15.1 t_15.2 (fun v_16 ev_16 rv_16 => ?_)
        replace h := h v_16 ev_16 rv_16
        refine wa_iconst C (z := 1) dX3_addNear_61 rfl ?_
        refine wa_iadd C dX3_addNear_62 ?_
        obtain ⟨t_17, h⟩ := h
        obtain ⟨r_18, h⟩ := h
        refine wa_iast C (ws' := fun w9 => (dW D_hasBoard D_beganBlank F_mines F_moves F_changes G_width G_height G_size B_parts B_longest S_groups S_askedGroup S_taken R_waitingCount R_metCount A_grade A_cell A_mined A_withTotal A_numbers X_low X_high Y_low Y_high F_mined F_number F_state F_cellsIn F_unknownNear F_hitNear F_moveStart F_changed F_waiting F_seen G_near_14 w9 B_chosen B_partOf B_rest B_unknowns B_partStart B_cells S_minedSet S_safeSet S_partSet S_tally S_askedTally S_groupOf S_groupSize S_links S_linkEnd S_pick S_groupMinedSet S_groupSafeSet O_sums O_nextSums R_found R_openEnds R_need R_waiting R_waits R_common R_met A_number Q_mined Q_all Q_choices Q_term Q_divisor Q_spare X_limbs X_sum Y_limbs Y_sum)) 23 dW_23 dX3_addNear_63 t_17.1 t_17.2 r_18 dWs_23 (fun G_nearEnd_19 eG_nearEnd_19 => ?_)
        replace h := h G_nearEnd_19 eG_nearEnd_19
        exact ret dX3_addNear_64 ⟨_, _, rfl, h⟩
      refine wa_icmp_le C (tgt := 47) rx3_8 r_10 dX3_addNear_12 (by decide) (fun c_20 => ?_) (fun c_20 => ?_)
      · replace h := h.1 c_20
        refine wa_sub C [0, 1, 2, 3] rfl ?_
        exact k_12 h
      · replace h := h.2 c_20
        refine wa_aload_n C 0 rfl dX3_addNear_15 rfl ?_
        refine wa_getR C 2 3 dW_2 rfl rfl (by decide) okX3 gw_58 dX3_addNear_16 ?_
        refine wa_iload_n C 3 rfl dX3_addNear_19 rfl ?_
        refine wa_iconst C (z := 1) dX3_addNear_20 rfl ?_
        refine wa_isub C dX3_addNear_21 ?_
        obtain ⟨t_21, h⟩ := h
        refine wa_iald C 22 dW_22 dX3_addNear_22 t_21.1 t_21.2 (fun v_22 ev_22 rv_22 => ?_)
        replace h := h v_22 ev_22 rv_22
        refine wa_iload_n C 2 rfl dX3_addNear_23 rfl ?_
        refine wa_icmp_le C (tgt := 47) rv_22 rx2 dX3_addNear_24 (by decide) (fun c_23 => ?_) (fun c_23 => ?_)
        · replace h := h.1 c_23
          refine wa_sub C [0, 1, 2, 3] rfl ?_
          exact k_12 h
        · replace h := h.2 c_23
          refine wa_aload_n C 0 rfl dX3_addNear_27 rfl ?_
          refine wa_getR C 2 3 dW_2 rfl rfl (by decide) okX3 gw_58 dX3_addNear_28 ?_
          refine wa_iload_n C 3 rfl dX3_addNear_31 rfl ?_
          refine wa_aload_n C 0 rfl dX3_addNear_32 rfl ?_
          refine wa_getR C 2 3 dW_2 rfl rfl (by decide) okX3 gw_58 dX3_addNear_33 ?_
          refine wa_iload_n C 3 rfl dX3_addNear_36 rfl ?_
          refine wa_iconst C (z := 1) dX3_addNear_37 rfl ?_
          refine wa_isub C dX3_addNear_38 ?_
          obtain ⟨t_24, h⟩ := h
          refine wa_iald C 22 dW_22 dX3_addNear_39 t_24.1 t_24.2 (fun v_25 ev_25 rv_25 => ?_)
          replace h := h v_25 ev_25 rv_25
          obtain ⟨t_26, h⟩ := h
          refine wa_iast C (ws' := fun w9 => (dW D_hasBoard D_beganBlank F_mines F_moves F_changes G_width G_height G_size B_parts B_longest S_groups S_askedGroup S_taken R_waitingCount R_metCount A_grade A_cell A_mined A_withTotal A_numbers X_low X_high Y_low Y_high F_mined F_number F_state F_cellsIn F_unknownNear F_hitNear F_moveStart F_changed F_waiting F_seen w9 G_nearEnd B_chosen B_partOf B_rest B_unknowns B_partStart B_cells S_minedSet S_safeSet S_partSet S_tally S_askedTally S_groupOf S_groupSize S_links S_linkEnd S_pick S_groupMinedSet S_groupSafeSet O_sums O_nextSums R_found R_openEnds R_need R_waiting R_waits R_common R_met A_number Q_mined Q_all Q_choices Q_term Q_divisor Q_spare X_limbs X_sum Y_limbs Y_sum)) 22 dW_22 dX3_addNear_40 t_26.1 t_26.2 rv_25 dWs_22 (fun G_near_27 eG_near_27 => ?_)
          replace h := h G_near_27 eG_near_27
          obtain ⟨r_28, h⟩ := h
          refine wa_iinc C (lv' := fun w9 => [(3, .int (iI w9)), (0, .ref (ad 2)), (1, .int (iI x1)), (2, .int (iI x2))]) 3 rfl dX3_addNear_41 (by decide) (fun _ => rfl) (fun x3_29 ex3_29 => ?_)
          replace h := h x3_29 ex3_29
          have rx3_29 : inR x3_29 := by rw [ex3_29]; exact r_28
          refine wa_goto C (tgt := 7) dX3_addNear_44 (by decide) ?_
          obtain ⟨n_30, ln_30, h⟩ := h
          refine wa_sub C [1, 2, 3, 0] rfl ?_
          exact ih_6 n_30 ln_30 x3_29 G_near_27 rx3_29 h
  refine wa_sub C [1, 2, 3, 0] rfl ?_
  exact k_7 n_4 v_2 G_near rv_2 h0Inv_3
def P_X3_wrap (post : Int → Prop) (x0 : Int) (x1 : Int) : Prop :=
  (0 ≤ x0 → (∃ J_2 : (Int) → Prop, ((x0 < x1 → (J_2 x0)) ∧ (¬ x0 < x1 → (inR (x0 - x1) ∧ (J_2 (x0 - x1))))) ∧ (∀ (z_4 : Int), inR z_4 → J_2 z_4 → (post z_4)))) ∧ (¬ 0 ≤ x0 → (inR (x0 + x1) ∧ (post (x0 + x1))))
set_option maxRecDepth 100000 in
set_option maxHeartbeats 4000000 in
theorem c_X3_wrap (l : Launch) (K : wK) (ad : Nat → Nat) {D_hasBoard : Int} {D_beganBlank : Int} {F_mines : Int} {F_moves : Int} {F_changes : Int} {G_width : Int} {G_height : Int} {G_size : Int} {B_parts : Int} {B_longest : Int} {S_groups : Int} {S_askedGroup : Int} {S_taken : Int} {R_waitingCount : Int} {R_metCount : Int} {A_grade : Int} {A_cell : Int} {A_mined : Int} {A_withTotal : Int} {A_numbers : Int} {X_low : Int} {X_high : Int} {Y_low : Int} {Y_high : Int} {F_mined : Int → Int} {F_number : Int → Int} {F_state : Int → Int} {F_cellsIn : Int → Int} {F_unknownNear : Int → Int} {F_hitNear : Int → Int} {F_moveStart : Int → Int} {F_changed : Int → Int} {F_waiting : Int → Int} {F_seen : Int → Int} {G_near : Int → Int} {G_nearEnd : Int → Int} {B_chosen : Int → Int} {B_partOf : Int → Int} {B_rest : Int → Int} {B_unknowns : Int → Int} {B_partStart : Int → Int} {B_cells : Int → Int} {S_minedSet : Int → Int} {S_safeSet : Int → Int} {S_partSet : Int → Int} {S_tally : Int → Int} {S_askedTally : Int → Int} {S_groupOf : Int → Int} {S_groupSize : Int → Int} {S_links : Int → Int} {S_linkEnd : Int → Int} {S_pick : Int → Int} {S_groupMinedSet : Int → Int} {S_groupSafeSet : Int → Int} {O_sums : Int → Int64} {O_nextSums : Int → Int64} {R_found : Int → Int} {R_openEnds : Int → Int} {R_need : Int → Int} {R_waiting : Int → Int} {R_waits : Int → Int} {R_common : Int → Int} {R_met : Int → Int} {A_number : Int → Int} {Q_mined : Int → Int64} {Q_all : Int → Int64} {Q_choices : Int → Int64} {Q_term : Int → Int64} {Q_divisor : Int → Int64} {Q_spare : Int → Int64} {X_limbs : Int → Int64} {X_sum : Int → Int64} {Y_limbs : Int → Int64} {Y_sum : Int → Int64} (x0 : Int) (x1 : Int) (rx0 : inR x0) (rx1 : inR x1) (post : Int → Prop) (h : P_X3_wrap post x0 x1) : mI l yX3_wrap (Cond.code yX3_wrap cX3_wrap 2 (some .int) :: GT) ({ frames := 2, cells := 0, slots := 0, locals := 120 } : Room) [.int (iI x0), .int (iI x1)] K ad (dW D_hasBoard D_beganBlank F_mines F_moves F_changes G_width G_height G_size B_parts B_longest S_groups S_askedGroup S_taken R_waitingCount R_metCount A_grade A_cell A_mined A_withTotal A_numbers X_low X_high Y_low Y_high F_mined F_number F_state F_cellsIn F_unknownNear F_hitNear F_moveStart F_changed F_waiting F_seen G_near G_nearEnd B_chosen B_partOf B_rest B_unknowns B_partStart B_cells S_minedSet S_safeSet S_partSet S_tally S_askedTally S_groupOf S_groupSize S_links S_linkEnd S_pick S_groupMinedSet S_groupSafeSet O_sums O_nextSums R_found R_openEnds R_need R_waiting R_waits R_common R_met A_number Q_mined Q_all Q_choices Q_term Q_divisor Q_spare X_limbs X_sum Y_limbs Y_sum) (fun z9 u9 => u9 = (dW D_hasBoard D_beganBlank F_mines F_moves F_changes G_width G_height G_size B_parts B_longest S_groups S_askedGroup S_taken R_waitingCount R_metCount A_grade A_cell A_mined A_withTotal A_numbers X_low X_high Y_low Y_high F_mined F_number F_state F_cellsIn F_unknownNear F_hitNear F_moveStart F_changed F_waiting F_seen G_near G_nearEnd B_chosen B_partOf B_rest B_unknowns B_partStart B_cells S_minedSet S_safeSet S_partSet S_tally S_askedTally S_groupOf S_groupSize S_links S_linkEnd S_pick S_groupMinedSet S_groupSafeSet O_sums O_nextSums R_found R_openEnds R_need R_waiting R_waits R_common R_met A_number Q_mined Q_all Q_choices Q_term Q_divisor Q_spare X_limbs X_sum Y_limbs Y_sum) ∧ post z9) := by
  refine mI_of (lv0 := [(0, .int (iI x0)), (1, .int (iI x1))]) (by decide) (Nat.le_of_ble_eq_true rfl) rfl ?_
  intro p e s m args below meth c Q A C ret
  replace C : Cx p ({ frames := 2, cells := 0, slots := 0, locals := 120 } : Room) m c 0 0 cX3_wrap 2 s args RX3 K A := C
  unfold P_X3_wrap at h
  refine wa_iload_n C 0 rfl dX3_wrap_0 rfl ?_
  refine wa_if_ge C (tgt := 8) rx0 dX3_wrap_1 (by decide) (fun c_1 => ?_) (fun c_1 => ?_)
  · replace h := h.1 c_1
    refine wa_iload_n C 0 rfl dX3_wrap_8 rfl ?_
    refine wa_iload_n C 1 rfl dX3_wrap_9 rfl ?_
    obtain ⟨J_2, h, hJ_2⟩ := h
    have k_3 : ∀ (z_4 : Int), inR z_4 → J_2 z_4 → WA p l e ({ frames := 2, cells := 0, slots := 0, locals := 120 } : Room) s m args below meth c 0 0 Q K ad 2 A 20 [] [.int (iI z_4)] (dW D_hasBoard D_beganBlank F_mines F_moves F_changes G_width G_height G_size B_parts B_longest S_groups S_askedGroup S_taken R_waitingCount R_metCount A_grade A_cell A_mined A_withTotal A_numbers X_low X_high Y_low Y_high F_mined F_number F_state F_cellsIn F_unknownNear F_hitNear F_moveStart F_changed F_waiting F_seen G_near G_nearEnd B_chosen B_partOf B_rest B_unknowns B_partStart B_cells S_minedSet S_safeSet S_partSet S_tally S_askedTally S_groupOf S_groupSize S_links S_linkEnd S_pick S_groupMinedSet S_groupSafeSet O_sums O_nextSums R_found R_openEnds R_need R_waiting R_waits R_common R_met A_number Q_mined Q_all Q_choices Q_term Q_divisor Q_spare X_limbs X_sum Y_limbs Y_sum) := by
      intro z_4 rz_4 h
      replace h := hJ_2 z_4 rz_4 h
      exact ret dX3_wrap_20 rz_4 ⟨rfl, h⟩
    refine wa_icmp_lt C (tgt := 19) rx0 rx1 dX3_wrap_10 (by decide) (fun c_5 => ?_) (fun c_5 => ?_)
    · replace h := h.1 c_5
      refine wa_iload_n C 0 rfl dX3_wrap_19 rfl ?_
      refine wa_sub C [] rfl ?_
      exact k_3 x0 rx0 h
    · replace h := h.2 c_5
      refine wa_iload_n C 0 rfl dX3_wrap_13 rfl ?_
      refine wa_iload_n C 1 rfl dX3_wrap_14 rfl ?_
      refine wa_isub C dX3_wrap_15 ?_
      refine wa_goto C (tgt := 20) dX3_wrap_16 (by decide) ?_
      obtain ⟨r_6, h⟩ := h
      refine wa_sub C [] rfl ?_
      exact k_3 (x0 - x1) r_6 h
  · replace h := h.2 c_1
    refine wa_iload_n C 0 rfl dX3_wrap_4 rfl ?_
    refine wa_iload_n C 1 rfl dX3_wrap_5 rfl ?_
    refine wa_iadd C dX3_wrap_6 ?_
    obtain ⟨r_7, h⟩ := h
    exact ret dX3_wrap_7 r_7 ⟨rfl, h⟩
def P_X3_link (post : (Int → Int) → (Int → Int) → Prop) (G_width : Int) (G_height : Int) (G_near : Int → Int) (G_nearEnd : Int → Int) (x1 : Int) (x2 : Int) (x3 : Int) (x4 : Int) : Prop :=
  P_X3_cell (fun (c_1 : Int) => inR c_1 → ((0 ≤ c_1 ∧ c_1 < 144) ∧ (inR (c_1 * 8) ∧ (∀ G_nearEnd_4 : Int → Int, G_nearEnd_4 = upZ G_nearEnd c_1 (c_1 * 8) → (∃ Inv_5 : Nat → (Int) → (Int → Int) → (Int → Int) → Prop, (∃ n_6 : Nat, Inv_5 n_6 (-1) G_near G_nearEnd_4) ∧ ∀ (n_7 : Nat) (x6_10 : Int) (G_near_11 : Int → Int) (G_nearEnd_12 : Int → Int), inR x6_10 → Inv_5 n_7 x6_10 G_near_11 G_nearEnd_12 → ((1 < x6_10 → (post G_near_11 G_nearEnd_12)) ∧ (¬ 1 < x6_10 → (∃ Inv_14 : Nat → (Int) → (Int → Int) → (Int → Int) → Prop, (∃ n_15 : Nat, Inv_14 n_15 (-1) G_near_11 G_nearEnd_12) ∧ ∀ (n_16 : Nat) (x7_19 : Int) (G_near_20 : Int → Int) (G_nearEnd_21 : Int → Int), inR x7_19 → Inv_14 n_16 x7_19 G_near_20 G_nearEnd_21 → ((1 < x7_19 → (inR (x6_10 + 1) ∧ (∀ x6_24 : Int, x6_24 = (x6_10 + 1) → (∃ n_25 : Nat, n_25 < n_7 ∧ Inv_5 n_25 x6_24 G_near_20 G_nearEnd_21)))) ∧ (¬ 1 < x7_19 → (P_X3_reaches (fun (c_26 : Int) => (c_26 = 0 ∨ c_26 = 1) → (∃ J_27 : (Int → Int) → (Int → Int) → Prop, ((¬ c_26 = 0 → ((x4 = 0 → (inR (x1 + x6_10) ∧ (inR (x2 + x7_19) ∧ (P_X3_has (fun (c_38 : Int) => (c_38 = 0 ∨ c_38 = 1) → ((c_38 = 0 → (J_27 G_near_20 G_nearEnd_21)) ∧ (¬ c_38 = 0 → (P_X3_cell (fun (c_40 : Int) => inR c_40 → (P_X3_addNear (fun (G_near_41 : Int → Int) (G_nearEnd_42 : Int → Int) => (J_27 G_near_41 G_nearEnd_42)) G_near_20 G_nearEnd_21 c_1 c_40)) G_width (x1 + x6_10) (x2 + x7_19))))) G_width G_height (x1 + x6_10) (x2 + x7_19))))) ∧ (¬ x4 = 0 → (inR (x1 + x6_10) ∧ (P_X3_wrap (fun (c_45 : Int) => inR c_45 → (inR (x2 + x7_19) ∧ (P_X3_wrap (fun (c_48 : Int) => inR c_48 → (P_X3_cell (fun (c_49 : Int) => inR c_49 → (P_X3_addNear (fun (G_near_50 : Int → Int) (G_nearEnd_51 : Int → Int) => (J_27 G_near_50 G_nearEnd_51)) G_near_20 G_nearEnd_21 c_1 c_49)) G_width c_45 c_48))  (x2 + x7_19) G_width)))  (x1 + x6_10) G_height))))) ∧ (c_26 = 0 → (J_27 G_near_20 G_nearEnd_21))) ∧ (∀ (G_near_29 : Int → Int) (G_nearEnd_30 : Int → Int), J_27 G_near_29 G_nearEnd_30 → (inR (x7_19 + 1) ∧ (∀ x7_32 : Int, x7_32 = (x7_19 + 1) → (∃ n_33 : Nat, n_33 < n_16 ∧ Inv_14 n_33 x7_32 G_near_29 G_nearEnd_30))))))  x1 x6_10 x7_19 x3))))))))))) G_width x1 x2
set_option maxRecDepth 100000 in
set_option maxHeartbeats 4000000 in
theorem c_X3_link (l : Launch) (K : wK) (ad : Nat → Nat) {D_hasBoard : Int} {D_beganBlank : Int} {F_mines : Int} {F_moves : Int} {F_changes : Int} {G_width : Int} {G_height : Int} {G_size : Int} {B_parts : Int} {B_longest : Int} {S_groups : Int} {S_askedGroup : Int} {S_taken : Int} {R_waitingCount : Int} {R_metCount : Int} {A_grade : Int} {A_cell : Int} {A_mined : Int} {A_withTotal : Int} {A_numbers : Int} {X_low : Int} {X_high : Int} {Y_low : Int} {Y_high : Int} {F_mined : Int → Int} {F_number : Int → Int} {F_state : Int → Int} {F_cellsIn : Int → Int} {F_unknownNear : Int → Int} {F_hitNear : Int → Int} {F_moveStart : Int → Int} {F_changed : Int → Int} {F_waiting : Int → Int} {F_seen : Int → Int} {G_near : Int → Int} {G_nearEnd : Int → Int} {B_chosen : Int → Int} {B_partOf : Int → Int} {B_rest : Int → Int} {B_unknowns : Int → Int} {B_partStart : Int → Int} {B_cells : Int → Int} {S_minedSet : Int → Int} {S_safeSet : Int → Int} {S_partSet : Int → Int} {S_tally : Int → Int} {S_askedTally : Int → Int} {S_groupOf : Int → Int} {S_groupSize : Int → Int} {S_links : Int → Int} {S_linkEnd : Int → Int} {S_pick : Int → Int} {S_groupMinedSet : Int → Int} {S_groupSafeSet : Int → Int} {O_sums : Int → Int64} {O_nextSums : Int → Int64} {R_found : Int → Int} {R_openEnds : Int → Int} {R_need : Int → Int} {R_waiting : Int → Int} {R_waits : Int → Int} {R_common : Int → Int} {R_met : Int → Int} {A_number : Int → Int} {Q_mined : Int → Int64} {Q_all : Int → Int64} {Q_choices : Int → Int64} {Q_term : Int → Int64} {Q_divisor : Int → Int64} {Q_spare : Int → Int64} {X_limbs : Int → Int64} {X_sum : Int → Int64} {Y_limbs : Int → Int64} {Y_sum : Int → Int64} (x1 : Int) (x2 : Int) (x3 : Int) (x4 : Int) (rx1 : inR x1) (rx2 : inR x2) (bx3 : x3 = 0 ∨ x3 = 1) (bx4 : x4 = 0 ∨ x4 = 1) (post : (Int → Int) → (Int → Int) → Prop) (h : P_X3_link post G_width G_height G_near G_nearEnd x1 x2 x3 x4) : mV l yX3_link (Cond.code yX3_link cX3_link 8 none :: GT) ({ frames := 3, cells := 0, slots := 0, locals := 180 } : Room) [.ref (ad 2), .int (iI x1), .int (iI x2), .int (iI x3), .int (iI x4)] K ad (dW D_hasBoard D_beganBlank F_mines F_moves F_changes G_width G_height G_size B_parts B_longest S_groups S_askedGroup S_taken R_waitingCount R_metCount A_grade A_cell A_mined A_withTotal A_numbers X_low X_high Y_low Y_high F_mined F_number F_state F_cellsIn F_unknownNear F_hitNear F_moveStart F_changed F_waiting F_seen G_near G_nearEnd B_chosen B_partOf B_rest B_unknowns B_partStart B_cells S_minedSet S_safeSet S_partSet S_tally S_askedTally S_groupOf S_groupSize S_links S_linkEnd S_pick S_groupMinedSet S_groupSafeSet O_sums O_nextSums R_found R_openEnds R_need R_waiting R_waits R_common R_met A_number Q_mined Q_all Q_choices Q_term Q_divisor Q_spare X_limbs X_sum Y_limbs Y_sum) (fun u9 => ∃ G_near9 G_nearEnd9, u9 = (dW D_hasBoard D_beganBlank F_mines F_moves F_changes G_width G_height G_size B_parts B_longest S_groups S_askedGroup S_taken R_waitingCount R_metCount A_grade A_cell A_mined A_withTotal A_numbers X_low X_high Y_low Y_high F_mined F_number F_state F_cellsIn F_unknownNear F_hitNear F_moveStart F_changed F_waiting F_seen G_near9 G_nearEnd9 B_chosen B_partOf B_rest B_unknowns B_partStart B_cells S_minedSet S_safeSet S_partSet S_tally S_askedTally S_groupOf S_groupSize S_links S_linkEnd S_pick S_groupMinedSet S_groupSafeSet O_sums O_nextSums R_found R_openEnds R_need R_waiting R_waits R_common R_met A_number Q_mined Q_all Q_choices Q_term Q_divisor Q_spare X_limbs X_sum Y_limbs Y_sum) ∧ post G_near9 G_nearEnd9) := by
  refine mV_of (lv0 := [(0, .ref (ad 2)), (1, .int (iI x1)), (2, .int (iI x2)), (3, .int (iI x3)), (4, .int (iI x4))]) (by decide) (Nat.le_of_ble_eq_true rfl) rfl ?_
  intro p e s m args below meth c Q A C ret
  replace C : Cx p ({ frames := 3, cells := 0, slots := 0, locals := 180 } : Room) m c 0 0 cX3_link 8 s args RX3 K A := C
  unfold P_X3_link at h
  refine wa_aload_n C 0 rfl dX3_link_0 rfl ?_
  refine wa_iload_n C 1 rfl dX3_link_1 rfl ?_
  refine wa_iload_n C 2 rfl dX3_link_2 rfl ?_
  refine wa_callVi C (k := 2) (As := [.int (iI x1), .int (iI x2)]) (rest := []) (c_X3_cell l K ad x1 x2 rx1 rx2 _ h) gw_580 gw_577 dW_2 rfl gw_578 gw_579 gw_3 q_X3_cell rfl rfl rfl ⟨by decide, by decide⟩ rfl (Nat.le_of_ble_eq_true rfl) dX3_link_3 (fun c_1 u9 rc_1 hp => ?_)
  obtain ⟨rfl, h⟩ := hp
  replace h := h rc_1
  refine wa_istore C dX3_link_6 (by decide) rfl ?_
  refine wa_aload_n C 1 rfl dX3_link_8 rfl ?_
  refine wa_getR C 2 4 dW_2 rfl rfl (by decide) okX3 gw_64 dX3_link_9 ?_
  refine wa_iload C 0 rfl dX3_link_12 ?_
  refine wa_iload C 0 rfl dX3_link_14 ?_
  refine wa_bipush C (z := 8) dX3_link_16 (by decide) ?_
  refine wa_imul C dX3_link_18 ?_
  obtain ⟨t_2, h⟩ := h
  obtain ⟨r_3, h⟩ := h
  refine wa_iast C (ws' := fun w9 => (dW D_hasBoard D_beganBlank F_mines F_moves F_changes G_width G_height G_size B_parts B_longest S_groups S_askedGroup S_taken R_waitingCount R_metCount A_grade A_cell A_mined A_withTotal A_numbers X_low X_high Y_low Y_high F_mined F_number F_state F_cellsIn F_unknownNear F_hitNear F_moveStart F_changed F_waiting F_seen G_near w9 B_chosen B_partOf B_rest B_unknowns B_partStart B_cells S_minedSet S_safeSet S_partSet S_tally S_askedTally S_groupOf S_groupSize S_links S_linkEnd S_pick S_groupMinedSet S_groupSafeSet O_sums O_nextSums R_found R_openEnds R_need R_waiting R_waits R_common R_met A_number Q_mined Q_all Q_choices Q_term Q_divisor Q_spare X_limbs X_sum Y_limbs Y_sum)) 23 dW_23 dX3_link_19 t_2.1 t_2.2 r_3 dWs_23 (fun G_nearEnd_4 eG_nearEnd_4 => ?_)
  replace h := h G_nearEnd_4 eG_nearEnd_4
  refine wa_iconst C (z := -1) dX3_link_20 rfl ?_
  refine wa_istore C dX3_link_21 (by decide) rfl ?_
  obtain ⟨Inv_5, ⟨n_6, h0Inv_5⟩, hInv_5⟩ := h
  have k_9 : ∀ (n_7 : Nat) (x6_10 : Int) (G_near_11 : Int → Int) (G_nearEnd_12 : Int → Int), inR x6_10 → Inv_5 n_7 x6_10 G_near_11 G_nearEnd_12 → WA p l e ({ frames := 3, cells := 0, slots := 0, locals := 180 } : Room) s m args below meth c 0 0 Q K ad 8 A 23 [(0, .ref (ad 2)), (1, .int (iI x1)), (2, .int (iI x2)), (3, .int (iI x3)), (4, .int (iI x4)), (5, .int (iI c_1)), (6, .int (iI x6_10))] [] (dW D_hasBoard D_beganBlank F_mines F_moves F_changes G_width G_height G_size B_parts B_longest S_groups S_askedGroup S_taken R_waitingCount R_metCount A_grade A_cell A_mined A_withTotal A_numbers X_low X_high Y_low Y_high F_mined F_number F_state F_cellsIn F_unknownNear F_hitNear F_moveStart F_changed F_waiting F_seen G_near_11 G_nearEnd_12 B_chosen B_partOf B_rest B_unknowns B_partStart B_cells S_minedSet S_safeSet S_partSet S_tally S_askedTally S_groupOf S_groupSize S_links S_linkEnd S_pick S_groupMinedSet S_groupSafeSet O_sums O_nextSums R_found R_openEnds R_need R_waiting R_waits R_common R_met A_number Q_mined Q_all Q_choices Q_term Q_divisor Q_spare X_limbs X_sum Y_limbs Y_sum) := by
    intro n_7
    induction n_7 using Nat.strongRecOn with
    | ind n_7 ih_8 =>
      intro x6_10 G_near_11 G_nearEnd_12 rx6_10 h
      replace h := hInv_5 n_7 x6_10 G_near_11 G_nearEnd_12 rx6_10 h
      refine wa_iload C 6 rfl dX3_link_23 ?_
      refine wa_iconst C (z := 1) dX3_link_25 rfl ?_
      refine wa_icmp_gt C (tgt := 138) rx6_10 (inR_k 1 rfl) dX3_link_26 (by decide) (fun c_13 => ?_) (fun c_13 => ?_)
      · replace h := h.1 c_13
        exact ret dX3_link_138 ⟨_, _, rfl, h⟩
      · replace h := h.2 c_13
        refine wa_iconst C (z := -1) dX3_link_29 rfl ?_
        refine wa_istore C dX3_link_30 (by decide) rfl ?_
        obtain ⟨Inv_14, ⟨n_15, h0Inv_14⟩, hInv_14⟩ := h
        have k_18 : ∀ (n_16 : Nat) (x7_19 : Int) (G_near_20 : Int → Int) (G_nearEnd_21 : Int → Int), inR x7_19 → Inv_14 n_16 x7_19 G_near_20 G_nearEnd_21 → WA p l e ({ frames := 3, cells := 0, slots := 0, locals := 180 } : Room) s m args below meth c 0 0 Q K ad 8 A 32 [(0, .ref (ad 2)), (1, .int (iI x1)), (2, .int (iI x2)), (3, .int (iI x3)), (4, .int (iI x4)), (5, .int (iI c_1)), (6, .int (iI x6_10)), (7, .int (iI x7_19))] [] (dW D_hasBoard D_beganBlank F_mines F_moves F_changes G_width G_height G_size B_parts B_longest S_groups S_askedGroup S_taken R_waitingCount R_metCount A_grade A_cell A_mined A_withTotal A_numbers X_low X_high Y_low Y_high F_mined F_number F_state F_cellsIn F_unknownNear F_hitNear F_moveStart F_changed F_waiting F_seen G_near_20 G_nearEnd_21 B_chosen B_partOf B_rest B_unknowns B_partStart B_cells S_minedSet S_safeSet S_partSet S_tally S_askedTally S_groupOf S_groupSize S_links S_linkEnd S_pick S_groupMinedSet S_groupSafeSet O_sums O_nextSums R_found R_openEnds R_need R_waiting R_waits R_common R_met A_number Q_mined Q_all Q_choices Q_term Q_divisor Q_spare X_limbs X_sum Y_limbs Y_sum) := by
          intro n_16
          induction n_16 using Nat.strongRecOn with
          | ind n_16 ih_17 =>
            intro x7_19 G_near_20 G_nearEnd_21 rx7_19 h
            replace h := hInv_14 n_16 x7_19 G_near_20 G_nearEnd_21 rx7_19 h
            refine wa_iload C 7 rfl dX3_link_32 ?_
            refine wa_iconst C (z := 1) dX3_link_34 rfl ?_
            refine wa_icmp_gt C (tgt := 132) rx7_19 (inR_k 1 rfl) dX3_link_35 (by decide) (fun c_22 => ?_) (fun c_22 => ?_)
            · replace h := h.1 c_22
              obtain ⟨r_23, h⟩ := h
              refine wa_iinc C (lv' := fun w9 => [(6, .int (iI w9)), (0, .ref (ad 2)), (1, .int (iI x1)), (2, .int (iI x2)), (3, .int (iI x3)), (4, .int (iI x4)), (5, .int (iI c_1)), (7, .int (iI x7_19))]) 6 rfl dX3_link_132 (by decide) (fun _ => rfl) (fun x6_24 ex6_24 => ?_)
              replace h := h x6_24 ex6_24
              have rx6_24 : inR x6_24 := by rw [ex6_24]; exact r_23
              refine wa_goto C (tgt := 23) dX3_link_135 (by decide) ?_
              obtain ⟨n_25, ln_25, h⟩ := h
              refine wa_sub C [1, 2, 3, 4, 5, 6, 0] rfl ?_
              exact ih_8 n_25 ln_25 x6_24 G_near_20 G_nearEnd_21 rx6_24 h
            · replace h := h.2 c_22
              refine wa_iload_n C 1 rfl dX3_link_38 rfl ?_
              refine wa_iload C 6 rfl dX3_link_39 ?_
              refine wa_iload C 7 rfl dX3_link_41 ?_
              refine wa_iload_n C 3 rfl dX3_link_43 rfl ?_
              refine wa_callSi C (As := [.int (iI x1), .int (iI x6_10), .int (iI x7_19), .int (iI x3)]) (rest := []) (c_X3_reaches l K ad x1 x6_10 x7_19 x3 rx1 rx6_10 rx7_19 bx3 _ h) gw_583 gw_581 gw_582 gw_3 q_X3_reaches rfl rfl rfl ⟨by decide, by decide⟩ rfl (Nat.le_of_ble_eq_true rfl) dX3_link_44 (fun c_26 u9 rc_26 hp => ?_)
              obtain ⟨bc_26, rfl, h⟩ := hp
              replace h := h bc_26
              obtain ⟨J_27, h, hJ_27⟩ := h
              have k_28 : ∀ (G_near_29 : Int → Int) (G_nearEnd_30 : Int → Int), J_27 G_near_29 G_nearEnd_30 → WA p l e ({ frames := 3, cells := 0, slots := 0, locals := 180 } : Room) s m args below meth c 0 0 Q K ad 8 A 126 [(0, .ref (ad 2)), (1, .int (iI x1)), (2, .int (iI x2)), (3, .int (iI x3)), (4, .int (iI x4)), (5, .int (iI c_1)), (6, .int (iI x6_10)), (7, .int (iI x7_19))] [] (dW D_hasBoard D_beganBlank F_mines F_moves F_changes G_width G_height G_size B_parts B_longest S_groups S_askedGroup S_taken R_waitingCount R_metCount A_grade A_cell A_mined A_withTotal A_numbers X_low X_high Y_low Y_high F_mined F_number F_state F_cellsIn F_unknownNear F_hitNear F_moveStart F_changed F_waiting F_seen G_near_29 G_nearEnd_30 B_chosen B_partOf B_rest B_unknowns B_partStart B_cells S_minedSet S_safeSet S_partSet S_tally S_askedTally S_groupOf S_groupSize S_links S_linkEnd S_pick S_groupMinedSet S_groupSafeSet O_sums O_nextSums R_found R_openEnds R_need R_waiting R_waits R_common R_met A_number Q_mined Q_all Q_choices Q_term Q_divisor Q_spare X_limbs X_sum Y_limbs Y_sum) := by
                intro G_near_29 G_nearEnd_30 h
                replace h := hJ_27 G_near_29 G_nearEnd_30 h
                obtain ⟨r_31, h⟩ := h
                refine wa_iinc C (lv' := fun w9 => [(7, .int (iI w9)), (0, .ref (ad 2)), (1, .int (iI x1)), (2, .int (iI x2)), (3, .int (iI x3)), (4, .int (iI x4)), (5, .int (iI c_1)), (6, .int (iI x6_10))]) 7 rfl dX3_link_126 (by decide) (fun _ => rfl) (fun x7_32 ex7_32 => ?_)
                replace h := h x7_32 ex7_32
                have rx7_32 : inR x7_32 := by rw [ex7_32]; exact r_31
                refine wa_goto C (tgt := 32) dX3_link_129 (by decide) ?_
                obtain ⟨n_33, ln_33, h⟩ := h
                refine wa_sub C [1, 2, 3, 4, 5, 6, 7, 0] rfl ?_
                exact ih_17 n_33 ln_33 x7_32 G_near_29 G_nearEnd_30 rx7_32 h
              refine wa_if_ne C (tgt := 53) (inR_b bc_26) dX3_link_47 (by decide) (fun c_34 => ?_) (fun c_34 => ?_)
              · replace h := h.1 c_34
                refine wa_iload C 4 rfl dX3_link_53 ?_
                refine wa_if_eq C (tgt := 93) (inR_b bx4) dX3_link_55 (by decide) (fun c_35 => ?_) (fun c_35 => ?_)
                · replace h := h.1 c_35
                  refine wa_aload_n C 0 rfl dX3_link_93 rfl ?_
                  refine wa_iload_n C 1 rfl dX3_link_94 rfl ?_
                  refine wa_iload C 6 rfl dX3_link_95 ?_
                  refine wa_iadd C dX3_link_97 ?_
                  refine wa_iload_n C 2 rfl dX3_link_98 rfl ?_
                  refine wa_iload C 7 rfl dX3_link_99 ?_
                  refine wa_iadd C dX3_link_101 ?_
                  obtain ⟨r_36, h⟩ := h
                  obtain ⟨r_37, h⟩ := h
                  refine wa_callVi C (k := 2) (As := [.int (iI (x1 + x6_10)), .int (iI (x2 + x7_19))]) (rest := []) (c_X3_has l K ad (x1 + x6_10) (x2 + x7_19) r_36 r_37 _ h) gw_594 gw_591 dW_2 rfl gw_592 gw_593 gw_3 q_X3_has rfl rfl rfl ⟨by decide, by decide⟩ rfl (Nat.le_of_ble_eq_true rfl) dX3_link_102 (fun c_38 u9 rc_38 hp => ?_)
                  obtain ⟨bc_38, rfl, h⟩ := hp
                  replace h := h bc_38
                  refine wa_if_eq C (tgt := 126) (inR_b bc_38) dX3_link_105 (by decide) (fun c_39 => ?_) (fun c_39 => ?_)
                  · replace h := h.1 c_39
                    refine wa_sub C [0, 1, 2, 3, 4, 5, 6, 7] rfl ?_
                    exact k_28 G_near_20 G_nearEnd_21 h
                  · replace h := h.2 c_39
                    refine wa_aload_n C 0 rfl dX3_link_108 rfl ?_
                    refine wa_iload C 5 rfl dX3_link_109 ?_
                    refine wa_aload_n C 0 rfl dX3_link_111 rfl ?_
                    refine wa_iload_n C 1 rfl dX3_link_112 rfl ?_
                    refine wa_iload C 6 rfl dX3_link_113 ?_
                    refine wa_iadd C dX3_link_115 ?_
                    refine wa_iload_n C 2 rfl dX3_link_116 rfl ?_
                    refine wa_iload C 7 rfl dX3_link_117 ?_
                    refine wa_iadd C dX3_link_119 ?_
                    refine wa_callVi C (k := 2) (As := [.int (iI (x1 + x6_10)), .int (iI (x2 + x7_19))]) (rest := [.int (iI c_1), .ref (ad 2)]) (c_X3_cell l K ad (x1 + x6_10) (x2 + x7_19) r_36 r_37 _ h) gw_580 gw_577 dW_2 rfl gw_578 gw_579 gw_3 q_X3_cell rfl rfl rfl ⟨by decide, by decide⟩ rfl (Nat.le_of_ble_eq_true rfl) dX3_link_120 (fun c_40 u9 rc_40 hp => ?_)
                    obtain ⟨rfl, h⟩ := hp
                    replace h := h rc_40
                    refine wa_callVv C (k := 2) (As := [.int (iI c_1), .int (iI c_40)]) (rest := []) (c_X3_addNear l K ad c_1 c_40 rc_1 rc_40 _ h) gw_590 gw_587 dW_2 rfl gw_589 gs_2 gw_3 q_X3_addNear rfl rfl rfl ⟨by decide, by decide⟩ rfl (Nat.le_of_ble_eq_true rfl) dX3_link_123 (fun u9 hp => ?_)
                    obtain ⟨G_near_41, G_nearEnd_42, rfl, h⟩ := hp
                    refine wa_sub C [0, 1, 2, 3, 4, 5, 6, 7] rfl ?_
                    exact k_28 G_near_41 G_nearEnd_42 h
                · replace h := h.2 c_35
                  refine wa_aload_n C 0 rfl dX3_link_58 rfl ?_
                  refine wa_iload C 5 rfl dX3_link_59 ?_
                  refine wa_aload_n C 0 rfl dX3_link_61 rfl ?_
                  refine wa_iload_n C 1 rfl dX3_link_62 rfl ?_
                  refine wa_iload C 6 rfl dX3_link_63 ?_
                  refine wa_iadd C dX3_link_65 ?_
                  refine wa_aload_n C 0 rfl dX3_link_66 rfl ?_
                  refine wa_getI C 2 1 dW_2 rfl rfl (by decide) okX3 gw_48 dX3_link_67 (fun r_43 => ?_)
                  obtain ⟨r_44, h⟩ := h
                  refine wa_callSi C (As := [.int (iI (x1 + x6_10)), .int (iI G_height)]) (rest := [.ref (ad 2), .int (iI c_1), .ref (ad 2)]) (c_X3_wrap l K ad (x1 + x6_10) G_height r_44 r_43 _ h) gw_586 gw_584 gw_585 gw_3 q_X3_wrap rfl rfl rfl ⟨by decide, by decide⟩ rfl (Nat.le_of_ble_eq_true rfl) dX3_link_70 (fun c_45 u9 rc_45 hp => ?_)
                  obtain ⟨rfl, h⟩ := hp
                  replace h := h rc_45
                  refine wa_iload_n C 2 rfl dX3_link_73 rfl ?_
                  refine wa_iload C 7 rfl dX3_link_74 ?_
                  refine wa_iadd C dX3_link_76 ?_
                  refine wa_aload_n C 0 rfl dX3_link_77 rfl ?_
                  refine wa_getI C 2 0 dW_2 rfl rfl (by decide) okX3 gw_45 dX3_link_78 (fun r_46 => ?_)
                  obtain ⟨r_47, h⟩ := h
                  refine wa_callSi C (As := [.int (iI (x2 + x7_19)), .int (iI G_width)]) (rest := [.int (iI c_45), .ref (ad 2), .int (iI c_1), .ref (ad 2)]) (c_X3_wrap l K ad (x2 + x7_19) G_width r_47 r_46 _ h) gw_586 gw_584 gw_585 gw_3 q_X3_wrap rfl rfl rfl ⟨by decide, by decide⟩ rfl (Nat.le_of_ble_eq_true rfl) dX3_link_81 (fun c_48 u9 rc_48 hp => ?_)
                  obtain ⟨rfl, h⟩ := hp
                  replace h := h rc_48
                  refine wa_callVi C (k := 2) (As := [.int (iI c_45), .int (iI c_48)]) (rest := [.int (iI c_1), .ref (ad 2)]) (c_X3_cell l K ad c_45 c_48 rc_45 rc_48 _ h) gw_580 gw_577 dW_2 rfl gw_578 gw_579 gw_3 q_X3_cell rfl rfl rfl ⟨by decide, by decide⟩ rfl (Nat.le_of_ble_eq_true rfl) dX3_link_84 (fun c_49 u9 rc_49 hp => ?_)
                  obtain ⟨rfl, h⟩ := hp
                  replace h := h rc_49
                  refine wa_callVv C (k := 2) (As := [.int (iI c_1), .int (iI c_49)]) (rest := []) (c_X3_addNear l K ad c_1 c_49 rc_1 rc_49 _ h) gw_590 gw_587 dW_2 rfl gw_589 gs_2 gw_3 q_X3_addNear rfl rfl rfl ⟨by decide, by decide⟩ rfl (Nat.le_of_ble_eq_true rfl) dX3_link_87 (fun u9 hp => ?_)
                  obtain ⟨G_near_50, G_nearEnd_51, rfl, h⟩ := hp
                  refine wa_goto C (tgt := 126) dX3_link_90 (by decide) ?_
                  refine wa_sub C [0, 1, 2, 3, 4, 5, 6, 7] rfl ?_
                  exact k_28 G_near_50 G_nearEnd_51 h
              · replace h := h.2 c_34
                refine wa_goto C (tgt := 126) dX3_link_50 (by decide) ?_
                refine wa_sub C [0, 1, 2, 3, 4, 5, 6, 7] rfl ?_
                exact k_28 G_near_20 G_nearEnd_21 h
        refine wa_sub C [1, 2, 3, 4, 5, 6, 7, 0] rfl ?_
        exact k_18 n_15 (-1) G_near_11 G_nearEnd_12 (inR_k (-1) rfl) h0Inv_14
  refine wa_sub C [2, 3, 4, 5, 6, 1, 0] rfl ?_
  exact k_9 n_6 (-1) G_near G_nearEnd_4 (inR_k (-1) rfl) h0Inv_5
def P_X3_lay (post : (Int) → (Int) → (Int) → (Int → Int) → (Int → Int) → Prop) (G_width : Int) (G_height : Int) (G_size : Int) (G_near : Int → Int) (G_nearEnd : Int → Int) (x1 : Int) (x2 : Int) (x3 : Int) : Prop :=
  inR (x1 * x2) ∧ (∀ G_size_2 : Int, G_size_2 = (x1 * x2) → (∃ J_3 : (Int) → Prop, (∃ J_34 : Prop, ((x3 = 1 → (J_34)) ∧ (¬ x3 = 1 → ((¬ x3 = 3 → (J_3 0)) ∧ (x3 = 3 → (J_34))))) ∧ (J_34 → (J_3 1))) ∧ (∀ (z_5 : Int), inR z_5 → J_3 z_5 → (∃ Inv_6 : Nat → (Int) → (Int → Int) → (Int → Int) → Prop, (∃ n_7 : Nat, Inv_6 n_7 0 G_near G_nearEnd) ∧ ∀ (n_8 : Nat) (x5_11 : Int) (G_near_12 : Int → Int) (G_nearEnd_13 : Int → Int), inR x5_11 → Inv_6 n_8 x5_11 G_near_12 G_nearEnd_13 → ((x2 ≤ x5_11 → (post x1 x2 G_size_2 G_near_12 G_nearEnd_13)) ∧ (¬ x2 ≤ x5_11 → (∃ Inv_15 : Nat → (Int) → (Int → Int) → (Int → Int) → Prop, (∃ n_16 : Nat, Inv_15 n_16 0 G_near_12 G_nearEnd_13) ∧ ∀ (n_17 : Nat) (x6_20 : Int) (G_near_21 : Int → Int) (G_nearEnd_22 : Int → Int), inR x6_20 → Inv_15 n_17 x6_20 G_near_21 G_nearEnd_22 → ((x1 ≤ x6_20 → (inR (x5_11 + 1) ∧ (∀ x5_25 : Int, x5_25 = (x5_11 + 1) → (∃ n_26 : Nat, n_26 < n_8 ∧ Inv_6 n_26 x5_25 G_near_21 G_nearEnd_22)))) ∧ (¬ x1 ≤ x6_20 → (P_X3_isComb (fun (c_27 : Int) => (c_27 = 0 ∨ c_27 = 1) → ((z_5 = 0 ∨ z_5 = 1) ∧ (P_X3_link (fun (G_near_29 : Int → Int) (G_nearEnd_30 : Int → Int) => (inR (x6_20 + 1) ∧ (∀ x6_32 : Int, x6_32 = (x6_20 + 1) → (∃ n_33 : Nat, n_33 < n_17 ∧ Inv_15 n_33 x6_32 G_near_29 G_nearEnd_30)))) x1 x2 G_near_21 G_nearEnd_22 x5_11 x6_20 c_27 z_5)))  x3))))))))))
set_option maxRecDepth 100000 in
set_option maxHeartbeats 4000000 in
theorem c_X3_lay (l : Launch) (K : wK) (ad : Nat → Nat) {D_hasBoard : Int} {D_beganBlank : Int} {F_mines : Int} {F_moves : Int} {F_changes : Int} {G_width : Int} {G_height : Int} {G_size : Int} {B_parts : Int} {B_longest : Int} {S_groups : Int} {S_askedGroup : Int} {S_taken : Int} {R_waitingCount : Int} {R_metCount : Int} {A_grade : Int} {A_cell : Int} {A_mined : Int} {A_withTotal : Int} {A_numbers : Int} {X_low : Int} {X_high : Int} {Y_low : Int} {Y_high : Int} {F_mined : Int → Int} {F_number : Int → Int} {F_state : Int → Int} {F_cellsIn : Int → Int} {F_unknownNear : Int → Int} {F_hitNear : Int → Int} {F_moveStart : Int → Int} {F_changed : Int → Int} {F_waiting : Int → Int} {F_seen : Int → Int} {G_near : Int → Int} {G_nearEnd : Int → Int} {B_chosen : Int → Int} {B_partOf : Int → Int} {B_rest : Int → Int} {B_unknowns : Int → Int} {B_partStart : Int → Int} {B_cells : Int → Int} {S_minedSet : Int → Int} {S_safeSet : Int → Int} {S_partSet : Int → Int} {S_tally : Int → Int} {S_askedTally : Int → Int} {S_groupOf : Int → Int} {S_groupSize : Int → Int} {S_links : Int → Int} {S_linkEnd : Int → Int} {S_pick : Int → Int} {S_groupMinedSet : Int → Int} {S_groupSafeSet : Int → Int} {O_sums : Int → Int64} {O_nextSums : Int → Int64} {R_found : Int → Int} {R_openEnds : Int → Int} {R_need : Int → Int} {R_waiting : Int → Int} {R_waits : Int → Int} {R_common : Int → Int} {R_met : Int → Int} {A_number : Int → Int} {Q_mined : Int → Int64} {Q_all : Int → Int64} {Q_choices : Int → Int64} {Q_term : Int → Int64} {Q_divisor : Int → Int64} {Q_spare : Int → Int64} {X_limbs : Int → Int64} {X_sum : Int → Int64} {Y_limbs : Int → Int64} {Y_sum : Int → Int64} (x1 : Int) (x2 : Int) (x3 : Int) (rx1 : inR x1) (rx2 : inR x2) (rx3 : inR x3) (post : (Int) → (Int) → (Int) → (Int → Int) → (Int → Int) → Prop) (h : P_X3_lay post G_width G_height G_size G_near G_nearEnd x1 x2 x3) : mV l yX3_lay (Cond.code yX3_lay cX3_lay 7 none :: GT) ({ frames := 4, cells := 0, slots := 0, locals := 240 } : Room) [.ref (ad 2), .int (iI x1), .int (iI x2), .int (iI x3)] K ad (dW D_hasBoard D_beganBlank F_mines F_moves F_changes G_width G_height G_size B_parts B_longest S_groups S_askedGroup S_taken R_waitingCount R_metCount A_grade A_cell A_mined A_withTotal A_numbers X_low X_high Y_low Y_high F_mined F_number F_state F_cellsIn F_unknownNear F_hitNear F_moveStart F_changed F_waiting F_seen G_near G_nearEnd B_chosen B_partOf B_rest B_unknowns B_partStart B_cells S_minedSet S_safeSet S_partSet S_tally S_askedTally S_groupOf S_groupSize S_links S_linkEnd S_pick S_groupMinedSet S_groupSafeSet O_sums O_nextSums R_found R_openEnds R_need R_waiting R_waits R_common R_met A_number Q_mined Q_all Q_choices Q_term Q_divisor Q_spare X_limbs X_sum Y_limbs Y_sum) (fun u9 => ∃ G_width9 G_height9 G_size9 G_near9 G_nearEnd9, u9 = (dW D_hasBoard D_beganBlank F_mines F_moves F_changes G_width9 G_height9 G_size9 B_parts B_longest S_groups S_askedGroup S_taken R_waitingCount R_metCount A_grade A_cell A_mined A_withTotal A_numbers X_low X_high Y_low Y_high F_mined F_number F_state F_cellsIn F_unknownNear F_hitNear F_moveStart F_changed F_waiting F_seen G_near9 G_nearEnd9 B_chosen B_partOf B_rest B_unknowns B_partStart B_cells S_minedSet S_safeSet S_partSet S_tally S_askedTally S_groupOf S_groupSize S_links S_linkEnd S_pick S_groupMinedSet S_groupSafeSet O_sums O_nextSums R_found R_openEnds R_need R_waiting R_waits R_common R_met A_number Q_mined Q_all Q_choices Q_term Q_divisor Q_spare X_limbs X_sum Y_limbs Y_sum) ∧ post G_width9 G_height9 G_size9 G_near9 G_nearEnd9) := by
  refine mV_of (lv0 := [(0, .ref (ad 2)), (1, .int (iI x1)), (2, .int (iI x2)), (3, .int (iI x3))]) (by decide) (Nat.le_of_ble_eq_true rfl) rfl ?_
  intro p e s m args below meth c Q A C ret
  replace C : Cx p ({ frames := 4, cells := 0, slots := 0, locals := 240 } : Room) m c 0 0 cX3_lay 7 s args RX3 K A := C
  unfold P_X3_lay at h
  refine wa_aload_n C 0 rfl dX3_lay_0 rfl ?_
  refine wa_iload_n C 1 rfl dX3_lay_1 rfl ?_
  refine wa_putI C (ws' := (dW D_hasBoard D_beganBlank F_mines F_moves F_changes x1 G_height G_size B_parts B_longest S_groups S_askedGroup S_taken R_waitingCount R_metCount A_grade A_cell A_mined A_withTotal A_numbers X_low X_high Y_low Y_high F_mined F_number F_state F_cellsIn F_unknownNear F_hitNear F_moveStart F_changed F_waiting F_seen G_near G_nearEnd B_chosen B_partOf B_rest B_unknowns B_partStart B_cells S_minedSet S_safeSet S_partSet S_tally S_askedTally S_groupOf S_groupSize S_links S_linkEnd S_pick S_groupMinedSet S_groupSafeSet O_sums O_nextSums R_found R_openEnds R_need R_waiting R_waits R_common R_met A_number Q_mined Q_all Q_choices Q_term Q_divisor Q_spare X_limbs X_sum Y_limbs Y_sum)) 2 0 dW_2 rfl (by decide) okX3 gw_45 rfl rfl (Nat.le_of_ble_eq_true rfl) rx1 (dWp_2_0 _) dX3_lay_2 ?_
  refine wa_aload_n C 0 rfl dX3_lay_5 rfl ?_
  refine wa_iload_n C 2 rfl dX3_lay_6 rfl ?_
  refine wa_putI C (ws' := (dW D_hasBoard D_beganBlank F_mines F_moves F_changes x1 x2 G_size B_parts B_longest S_groups S_askedGroup S_taken R_waitingCount R_metCount A_grade A_cell A_mined A_withTotal A_numbers X_low X_high Y_low Y_high F_mined F_number F_state F_cellsIn F_unknownNear F_hitNear F_moveStart F_changed F_waiting F_seen G_near G_nearEnd B_chosen B_partOf B_rest B_unknowns B_partStart B_cells S_minedSet S_safeSet S_partSet S_tally S_askedTally S_groupOf S_groupSize S_links S_linkEnd S_pick S_groupMinedSet S_groupSafeSet O_sums O_nextSums R_found R_openEnds R_need R_waiting R_waits R_common R_met A_number Q_mined Q_all Q_choices Q_term Q_divisor Q_spare X_limbs X_sum Y_limbs Y_sum)) 2 1 dW_2 rfl (by decide) okX3 gw_48 rfl rfl (Nat.le_of_ble_eq_true rfl) rx2 (dWp_2_1 _) dX3_lay_7 ?_
  refine wa_aload_n C 0 rfl dX3_lay_10 rfl ?_
  refine wa_iload_n C 1 rfl dX3_lay_11 rfl ?_
  refine wa_iload_n C 2 rfl dX3_lay_12 rfl ?_
  refine wa_imul C dX3_lay_13 ?_
  obtain ⟨r_1, h⟩ := h
  refine wa_nmi (fun G_size_2 eG_size_2 => ?_)
  replace h := h G_size_2 eG_size_2
  have rG_size_2 : inR G_size_2 := by rw [eG_size_2]; exact r_1
  refine wa_putI C (ws' := (dW D_hasBoard D_beganBlank F_mines F_moves F_changes x1 x2 G_size_2 B_parts B_longest S_groups S_askedGroup S_taken R_waitingCount R_metCount A_grade A_cell A_mined A_withTotal A_numbers X_low X_high Y_low Y_high F_mined F_number F_state F_cellsIn F_unknownNear F_hitNear F_moveStart F_changed F_waiting F_seen G_near G_nearEnd B_chosen B_partOf B_rest B_unknowns B_partStart B_cells S_minedSet S_safeSet S_partSet S_tally S_askedTally S_groupOf S_groupSize S_links S_linkEnd S_pick S_groupMinedSet S_groupSafeSet O_sums O_nextSums R_found R_openEnds R_need R_waiting R_waits R_common R_met A_number Q_mined Q_all Q_choices Q_term Q_divisor Q_spare X_limbs X_sum Y_limbs Y_sum)) 2 2 dW_2 rfl (by decide) okX3 gw_55 rfl rfl (Nat.le_of_ble_eq_true rfl) rG_size_2 (dWp_2_2 _) dX3_lay_14 ?_
  refine wa_iload_n C 3 rfl dX3_lay_17 rfl ?_
  refine wa_iconst C (z := 1) dX3_lay_18 rfl ?_
  obtain ⟨J_3, h, hJ_3⟩ := h
  have k_4 : ∀ (z_5 : Int), inR z_5 → J_3 z_5 → WA p l e ({ frames := 4, cells := 0, slots := 0, locals := 240 } : Room) s m args below meth c 0 0 Q K ad 7 A 32 [(0, .ref (ad 2)), (1, .int (iI x1)), (2, .int (iI x2)), (3, .int (iI x3))] [.int (iI z_5)] (dW D_hasBoard D_beganBlank F_mines F_moves F_changes x1 x2 G_size_2 B_parts B_longest S_groups S_askedGroup S_taken R_waitingCount R_metCount A_grade A_cell A_mined A_withTotal A_numbers X_low X_high Y_low Y_high F_mined F_number F_state F_cellsIn F_unknownNear F_hitNear F_moveStart F_changed F_waiting F_seen G_near G_nearEnd B_chosen B_partOf B_rest B_unknowns B_partStart B_cells S_minedSet S_safeSet S_partSet S_tally S_askedTally S_groupOf S_groupSize S_links S_linkEnd S_pick S_groupMinedSet S_groupSafeSet O_sums O_nextSums R_found R_openEnds R_need R_waiting R_waits R_common R_met A_number Q_mined Q_all Q_choices Q_term Q_divisor Q_spare X_limbs X_sum Y_limbs Y_sum) := by
    intro z_5 rz_5 h
    replace h := hJ_3 z_5 rz_5 h
    refine wa_istore C dX3_lay_32 (by decide) rfl ?_
    refine wa_iconst C (z := 0) dX3_lay_34 rfl ?_
    refine wa_istore C dX3_lay_35 (by decide) rfl ?_
    obtain ⟨Inv_6, ⟨n_7, h0Inv_6⟩, hInv_6⟩ := h
    have k_10 : ∀ (n_8 : Nat) (x5_11 : Int) (G_near_12 : Int → Int) (G_nearEnd_13 : Int → Int), inR x5_11 → Inv_6 n_8 x5_11 G_near_12 G_nearEnd_13 → WA p l e ({ frames := 4, cells := 0, slots := 0, locals := 240 } : Room) s m args below meth c 0 0 Q K ad 7 A 37 [(0, .ref (ad 2)), (1, .int (iI x1)), (2, .int (iI x2)), (3, .int (iI x3)), (4, .int (iI z_5)), (5, .int (iI x5_11))] [] (dW D_hasBoard D_beganBlank F_mines F_moves F_changes x1 x2 G_size_2 B_parts B_longest S_groups S_askedGroup S_taken R_waitingCount R_metCount A_grade A_cell A_mined A_withTotal A_numbers X_low X_high Y_low Y_high F_mined F_number F_state F_cellsIn F_unknownNear F_hitNear F_moveStart F_changed F_waiting F_seen G_near_12 G_nearEnd_13 B_chosen B_partOf B_rest B_unknowns B_partStart B_cells S_minedSet S_safeSet S_partSet S_tally S_askedTally S_groupOf S_groupSize S_links S_linkEnd S_pick S_groupMinedSet S_groupSafeSet O_sums O_nextSums R_found R_openEnds R_need R_waiting R_waits R_common R_met A_number Q_mined Q_all Q_choices Q_term Q_divisor Q_spare X_limbs X_sum Y_limbs Y_sum) := by
      intro n_8
      induction n_8 using Nat.strongRecOn with
      | ind n_8 ih_9 =>
        intro x5_11 G_near_12 G_nearEnd_13 rx5_11 h
        replace h := hInv_6 n_8 x5_11 G_near_12 G_nearEnd_13 rx5_11 h
        refine wa_iload C 5 rfl dX3_lay_37 ?_
        refine wa_iload_n C 2 rfl dX3_lay_39 rfl ?_
        refine wa_icmp_ge C (tgt := 78) rx5_11 rx2 dX3_lay_40 (by decide) (fun c_14 => ?_) (fun c_14 => ?_)
        · replace h := h.1 c_14
          exact ret dX3_lay_78 ⟨_, _, _, _, _, rfl, h⟩
        · replace h := h.2 c_14
          refine wa_iconst C (z := 0) dX3_lay_43 rfl ?_
          refine wa_istore C dX3_lay_44 (by decide) rfl ?_
          obtain ⟨Inv_15, ⟨n_16, h0Inv_15⟩, hInv_15⟩ := h
          have k_19 : ∀ (n_17 : Nat) (x6_20 : Int) (G_near_21 : Int → Int) (G_nearEnd_22 : Int → Int), inR x6_20 → Inv_15 n_17 x6_20 G_near_21 G_nearEnd_22 → WA p l e ({ frames := 4, cells := 0, slots := 0, locals := 240 } : Room) s m args below meth c 0 0 Q K ad 7 A 46 [(0, .ref (ad 2)), (1, .int (iI x1)), (2, .int (iI x2)), (3, .int (iI x3)), (4, .int (iI z_5)), (5, .int (iI x5_11)), (6, .int (iI x6_20))] [] (dW D_hasBoard D_beganBlank F_mines F_moves F_changes x1 x2 G_size_2 B_parts B_longest S_groups S_askedGroup S_taken R_waitingCount R_metCount A_grade A_cell A_mined A_withTotal A_numbers X_low X_high Y_low Y_high F_mined F_number F_state F_cellsIn F_unknownNear F_hitNear F_moveStart F_changed F_waiting F_seen G_near_21 G_nearEnd_22 B_chosen B_partOf B_rest B_unknowns B_partStart B_cells S_minedSet S_safeSet S_partSet S_tally S_askedTally S_groupOf S_groupSize S_links S_linkEnd S_pick S_groupMinedSet S_groupSafeSet O_sums O_nextSums R_found R_openEnds R_need R_waiting R_waits R_common R_met A_number Q_mined Q_all Q_choices Q_term Q_divisor Q_spare X_limbs X_sum Y_limbs Y_sum) := by
            intro n_17
            induction n_17 using Nat.strongRecOn with
            | ind n_17 ih_18 =>
              intro x6_20 G_near_21 G_nearEnd_22 rx6_20 h
              replace h := hInv_15 n_17 x6_20 G_near_21 G_nearEnd_22 rx6_20 h
              refine wa_iload C 6 rfl dX3_lay_46 ?_
              refine wa_iload_n C 1 rfl dX3_lay_48 rfl ?_
              refine wa_icmp_ge C (tgt := 72) rx6_20 rx1 dX3_lay_49 (by decide) (fun c_23 => ?_) (fun c_23 => ?_)
              · replace h := h.1 c_23
                obtain ⟨r_24, h⟩ := h
                refine wa_iinc C (lv' := fun w9 => [(5, .int (iI w9)), (0, .ref (ad 2)), (1, .int (iI x1)), (2, .int (iI x2)), (3, .int (iI x3)), (4, .int (iI z_5)), (6, .int (iI x6_20))]) 5 rfl dX3_lay_72 (by decide) (fun _ => rfl) (fun x5_25 ex5_25 => ?_)
                replace h := h x5_25 ex5_25
                have rx5_25 : inR x5_25 := by rw [ex5_25]; exact r_24
                refine wa_goto C (tgt := 37) dX3_lay_75 (by decide) ?_
                obtain ⟨n_26, ln_26, h⟩ := h
                refine wa_sub C [1, 2, 3, 4, 5, 0] rfl ?_
                exact ih_9 n_26 ln_26 x5_25 G_near_21 G_nearEnd_22 rx5_25 h
              · replace h := h.2 c_23
                refine wa_aload_n C 0 rfl dX3_lay_52 rfl ?_
                refine wa_iload C 5 rfl dX3_lay_53 ?_
                refine wa_iload C 6 rfl dX3_lay_55 ?_
                refine wa_iload_n C 3 rfl dX3_lay_57 rfl ?_
                refine wa_callSi C (As := [.int (iI x3)]) (rest := [.int (iI x6_20), .int (iI x5_11), .ref (ad 2)]) (c_X3_isComb l K ad x3 rx3 _ h) gw_499 gw_572 gw_498 gw_3 q_X3_isComb rfl rfl rfl ⟨by decide, by decide⟩ rfl (Nat.le_of_ble_eq_true rfl) dX3_lay_58 (fun c_27 u9 rc_27 hp => ?_)
                obtain ⟨bc_27, rfl, h⟩ := hp
                replace h := h bc_27
                refine wa_iload C 4 rfl dX3_lay_61 ?_
                obtain ⟨b_28, h⟩ := h
                refine wa_callVv C (k := 2) (As := [.int (iI x5_11), .int (iI x6_20), .int (iI c_27), .int (iI z_5)]) (rest := []) (c_X3_link l K ad x5_11 x6_20 c_27 z_5 rx5_11 rx6_20 bc_27 b_28 _ h) gw_576 gw_573 dW_2 rfl gw_575 gs_1 gw_3 q_X3_link rfl rfl rfl ⟨by decide, by decide⟩ rfl (Nat.le_of_ble_eq_true rfl) dX3_lay_63 (fun u9 hp => ?_)
                obtain ⟨G_near_29, G_nearEnd_30, rfl, h⟩ := hp
                obtain ⟨r_31, h⟩ := h
                refine wa_iinc C (lv' := fun w9 => [(6, .int (iI w9)), (0, .ref (ad 2)), (1, .int (iI x1)), (2, .int (iI x2)), (3, .int (iI x3)), (4, .int (iI z_5)), (5, .int (iI x5_11))]) 6 rfl dX3_lay_66 (by decide) (fun _ => rfl) (fun x6_32 ex6_32 => ?_)
                replace h := h x6_32 ex6_32
                have rx6_32 : inR x6_32 := by rw [ex6_32]; exact r_31
                refine wa_goto C (tgt := 46) dX3_lay_69 (by decide) ?_
                obtain ⟨n_33, ln_33, h⟩ := h
                refine wa_sub C [1, 2, 3, 4, 5, 6, 0] rfl ?_
                exact ih_18 n_33 ln_33 x6_32 G_near_29 G_nearEnd_30 rx6_32 h
          refine wa_sub C [1, 2, 3, 4, 5, 6, 0] rfl ?_
          exact k_19 n_16 0 G_near_12 G_nearEnd_13 (inR_k 0 rfl) h0Inv_15
    refine wa_sub C [2, 3, 4, 5, 1, 0] rfl ?_
    exact k_10 n_7 0 G_near G_nearEnd (inR_k 0 rfl) h0Inv_6
  obtain ⟨J_34, h, hJ_34⟩ := h
  have k_35 : J_34 → WA p l e ({ frames := 4, cells := 0, slots := 0, locals := 240 } : Room) s m args below meth c 0 0 Q K ad 7 A 27 [(0, .ref (ad 2)), (1, .int (iI x1)), (2, .int (iI x2)), (3, .int (iI x3))] [] (dW D_hasBoard D_beganBlank F_mines F_moves F_changes x1 x2 G_size_2 B_parts B_longest S_groups S_askedGroup S_taken R_waitingCount R_metCount A_grade A_cell A_mined A_withTotal A_numbers X_low X_high Y_low Y_high F_mined F_number F_state F_cellsIn F_unknownNear F_hitNear F_moveStart F_changed F_waiting F_seen G_near G_nearEnd B_chosen B_partOf B_rest B_unknowns B_partStart B_cells S_minedSet S_safeSet S_partSet S_tally S_askedTally S_groupOf S_groupSize S_links S_linkEnd S_pick S_groupMinedSet S_groupSafeSet O_sums O_nextSums R_found R_openEnds R_need R_waiting R_waits R_common R_met A_number Q_mined Q_all Q_choices Q_term Q_divisor Q_spare X_limbs X_sum Y_limbs Y_sum) := by
    intro h
    replace h := hJ_34 h
    refine wa_iconst C (z := 1) dX3_lay_27 rfl ?_
    refine wa_goto C (tgt := 32) dX3_lay_28 (by decide) ?_
    refine wa_sub C [0, 1, 2, 3] rfl ?_
    exact k_4 1 (inR_k 1 rfl) h
  refine wa_icmp_eq C (tgt := 27) rx3 (inR_k 1 rfl) dX3_lay_19 (by decide) (fun c_36 => ?_) (fun c_36 => ?_)
  · replace h := h.1 c_36
    refine wa_sub C [0, 1, 2, 3] rfl ?_
    exact k_35 h
  · replace h := h.2 c_36
    refine wa_iload_n C 3 rfl dX3_lay_22 rfl ?_
    refine wa_iconst C (z := 3) dX3_lay_23 rfl ?_
    refine wa_icmp_ne C (tgt := 31) rx3 (inR_k 3 rfl) dX3_lay_24 (by decide) (fun c_37 => ?_) (fun c_37 => ?_)
    · replace h := h.1 c_37
      refine wa_iconst C (z := 0) dX3_lay_31 rfl ?_
      refine wa_sub C [0, 1, 2, 3] rfl ?_
      exact k_4 0 (inR_k 0 rfl) h
    · replace h := h.2 c_37
      refine wa_sub C [0, 1, 2, 3] rfl ?_
      exact k_35 h
def P_X3_areNear (post : Int → Prop) (G_near : Int → Int) (G_nearEnd : Int → Int) (x1 : Int) (x2 : Int) : Prop :=
  inR (x1 * 8) ∧ (∀ x3_2 : Int, x3_2 = (x1 * 8) → (∃ Inv_3 : Nat → (Int) → Prop, (∃ n_4 : Nat, Inv_3 n_4 x3_2) ∧ ∀ (n_5 : Nat) (x3_8 : Int), inR x3_8 → Inv_3 n_5 x3_8 → ((0 ≤ x1 ∧ x1 < 144) ∧ (∀ v_10 : Int, v_10 = G_nearEnd x1 → inR v_10 → ((v_10 ≤ x3_8 → (post 0)) ∧ (¬ v_10 ≤ x3_8 → ((0 ≤ x3_8 ∧ x3_8 < 1152) ∧ (∀ v_13 : Int, v_13 = G_near x3_8 → inR v_13 → ((¬ v_13 = x2 → (inR (x3_8 + 1) ∧ (∀ x3_16 : Int, x3_16 = (x3_8 + 1) → (∃ n_17 : Nat, n_17 < n_5 ∧ Inv_3 n_17 x3_16)))) ∧ (v_13 = x2 → (post 1)))))))))))
set_option maxRecDepth 100000 in
set_option maxHeartbeats 4000000 in
theorem c_X3_areNear (l : Launch) (K : wK) (ad : Nat → Nat) {D_hasBoard : Int} {D_beganBlank : Int} {F_mines : Int} {F_moves : Int} {F_changes : Int} {G_width : Int} {G_height : Int} {G_size : Int} {B_parts : Int} {B_longest : Int} {S_groups : Int} {S_askedGroup : Int} {S_taken : Int} {R_waitingCount : Int} {R_metCount : Int} {A_grade : Int} {A_cell : Int} {A_mined : Int} {A_withTotal : Int} {A_numbers : Int} {X_low : Int} {X_high : Int} {Y_low : Int} {Y_high : Int} {F_mined : Int → Int} {F_number : Int → Int} {F_state : Int → Int} {F_cellsIn : Int → Int} {F_unknownNear : Int → Int} {F_hitNear : Int → Int} {F_moveStart : Int → Int} {F_changed : Int → Int} {F_waiting : Int → Int} {F_seen : Int → Int} {G_near : Int → Int} {G_nearEnd : Int → Int} {B_chosen : Int → Int} {B_partOf : Int → Int} {B_rest : Int → Int} {B_unknowns : Int → Int} {B_partStart : Int → Int} {B_cells : Int → Int} {S_minedSet : Int → Int} {S_safeSet : Int → Int} {S_partSet : Int → Int} {S_tally : Int → Int} {S_askedTally : Int → Int} {S_groupOf : Int → Int} {S_groupSize : Int → Int} {S_links : Int → Int} {S_linkEnd : Int → Int} {S_pick : Int → Int} {S_groupMinedSet : Int → Int} {S_groupSafeSet : Int → Int} {O_sums : Int → Int64} {O_nextSums : Int → Int64} {R_found : Int → Int} {R_openEnds : Int → Int} {R_need : Int → Int} {R_waiting : Int → Int} {R_waits : Int → Int} {R_common : Int → Int} {R_met : Int → Int} {A_number : Int → Int} {Q_mined : Int → Int64} {Q_all : Int → Int64} {Q_choices : Int → Int64} {Q_term : Int → Int64} {Q_divisor : Int → Int64} {Q_spare : Int → Int64} {X_limbs : Int → Int64} {X_sum : Int → Int64} {Y_limbs : Int → Int64} {Y_sum : Int → Int64} (x1 : Int) (x2 : Int) (rx1 : inR x1) (rx2 : inR x2) (post : Int → Prop) (h : P_X3_areNear post G_near G_nearEnd x1 x2) : mI l yX3_areNear (Cond.code yX3_areNear cX3_areNear 4 (some .boolean) :: GT) ({ frames := 2, cells := 0, slots := 0, locals := 120 } : Room) [.ref (ad 2), .int (iI x1), .int (iI x2)] K ad (dW D_hasBoard D_beganBlank F_mines F_moves F_changes G_width G_height G_size B_parts B_longest S_groups S_askedGroup S_taken R_waitingCount R_metCount A_grade A_cell A_mined A_withTotal A_numbers X_low X_high Y_low Y_high F_mined F_number F_state F_cellsIn F_unknownNear F_hitNear F_moveStart F_changed F_waiting F_seen G_near G_nearEnd B_chosen B_partOf B_rest B_unknowns B_partStart B_cells S_minedSet S_safeSet S_partSet S_tally S_askedTally S_groupOf S_groupSize S_links S_linkEnd S_pick S_groupMinedSet S_groupSafeSet O_sums O_nextSums R_found R_openEnds R_need R_waiting R_waits R_common R_met A_number Q_mined Q_all Q_choices Q_term Q_divisor Q_spare X_limbs X_sum Y_limbs Y_sum) (fun z9 u9 => (z9 = 0 ∨ z9 = 1) ∧ u9 = (dW D_hasBoard D_beganBlank F_mines F_moves F_changes G_width G_height G_size B_parts B_longest S_groups S_askedGroup S_taken R_waitingCount R_metCount A_grade A_cell A_mined A_withTotal A_numbers X_low X_high Y_low Y_high F_mined F_number F_state F_cellsIn F_unknownNear F_hitNear F_moveStart F_changed F_waiting F_seen G_near G_nearEnd B_chosen B_partOf B_rest B_unknowns B_partStart B_cells S_minedSet S_safeSet S_partSet S_tally S_askedTally S_groupOf S_groupSize S_links S_linkEnd S_pick S_groupMinedSet S_groupSafeSet O_sums O_nextSums R_found R_openEnds R_need R_waiting R_waits R_common R_met A_number Q_mined Q_all Q_choices Q_term Q_divisor Q_spare X_limbs X_sum Y_limbs Y_sum) ∧ post z9) := by
  refine mZ_of (lv0 := [(0, .ref (ad 2)), (1, .int (iI x1)), (2, .int (iI x2))]) (by decide) (Nat.le_of_ble_eq_true rfl) rfl ?_
  intro p e s m args below meth c Q A C ret
  replace C : Cx p ({ frames := 2, cells := 0, slots := 0, locals := 120 } : Room) m c 0 0 cX3_areNear 4 s args RX3 K A := C
  unfold P_X3_areNear at h
  refine wa_iload_n C 1 rfl dX3_areNear_0 rfl ?_
  refine wa_bipush C (z := 8) dX3_areNear_1 (by decide) ?_
  refine wa_imul C dX3_areNear_3 ?_
  obtain ⟨r_1, h⟩ := h
  refine wa_nmi (fun x3_2 ex3_2 => ?_)
  replace h := h x3_2 ex3_2
  have rx3_2 : inR x3_2 := by rw [ex3_2]; exact r_1
  refine wa_istore_n C dX3_areNear_4 rfl (by decide) rfl ?_
  obtain ⟨Inv_3, ⟨n_4, h0Inv_3⟩, hInv_3⟩ := h
  have k_7 : ∀ (n_5 : Nat) (x3_8 : Int), inR x3_8 → Inv_3 n_5 x3_8 → WA p l e ({ frames := 2, cells := 0, slots := 0, locals := 120 } : Room) s m args below meth c 0 0 Q K ad 4 A 5 [(0, .ref (ad 2)), (1, .int (iI x1)), (2, .int (iI x2)), (3, .int (iI x3_8))] [] (dW D_hasBoard D_beganBlank F_mines F_moves F_changes G_width G_height G_size B_parts B_longest S_groups S_askedGroup S_taken R_waitingCount R_metCount A_grade A_cell A_mined A_withTotal A_numbers X_low X_high Y_low Y_high F_mined F_number F_state F_cellsIn F_unknownNear F_hitNear F_moveStart F_changed F_waiting F_seen G_near G_nearEnd B_chosen B_partOf B_rest B_unknowns B_partStart B_cells S_minedSet S_safeSet S_partSet S_tally S_askedTally S_groupOf S_groupSize S_links S_linkEnd S_pick S_groupMinedSet S_groupSafeSet O_sums O_nextSums R_found R_openEnds R_need R_waiting R_waits R_common R_met A_number Q_mined Q_all Q_choices Q_term Q_divisor Q_spare X_limbs X_sum Y_limbs Y_sum) := by
    intro n_5
    induction n_5 using Nat.strongRecOn with
    | ind n_5 ih_6 =>
      intro x3_8 rx3_8 h
      replace h := hInv_3 n_5 x3_8 rx3_8 h
      refine wa_iload_n C 3 rfl dX3_areNear_5 rfl ?_
      refine wa_aload_n C 0 rfl dX3_areNear_6 rfl ?_
      refine wa_getR C 2 4 dW_2 rfl rfl (by decide) okX3 gw_64 dX3_areNear_7 ?_
      refine wa_iload_n C 1 rfl dX3_areNear_10 rfl ?_
      obtain ⟨t_9, h⟩ := h
      refine wa_iald C 23 dW_23 dX3_areNear_11 t_9.1 t_9.2 (fun v_10 ev_10 rv_10 => ?_)
      replace h := h v_10 ev_10 rv_10
      refine wa_icmp_ge C (tgt := 33) rx3_8 rv_10 dX3_areNear_12 (by decide) (fun c_11 => ?_) (fun c_11 => ?_)
      · replace h := h.1 c_11
        refine wa_iconst C (z := 0) dX3_areNear_33 rfl ?_
        exact ret dX3_areNear_34 (Or.inl rfl) ⟨(Or.inl rfl), rfl, h⟩
      · replace h := h.2 c_11
        refine wa_aload_n C 0 rfl dX3_areNear_15 rfl ?_
        refine wa_getR C 2 3 dW_2 rfl rfl (by decide) okX3 gw_58 dX3_areNear_16 ?_
        refine wa_iload_n C 3 rfl dX3_areNear_19 rfl ?_
        obtain ⟨t_12, h⟩ := h
        refine wa_iald C 22 dW_22 dX3_areNear_20 t_12.1 t_12.2 (fun v_13 ev_13 rv_13 => ?_)
        replace h := h v_13 ev_13 rv_13
        refine wa_iload_n C 2 rfl dX3_areNear_21 rfl ?_
        refine wa_icmp_ne C (tgt := 27) rv_13 rx2 dX3_areNear_22 (by decide) (fun c_14 => ?_) (fun c_14 => ?_)
        · replace h := h.1 c_14
          obtain ⟨r_15, h⟩ := h
          refine wa_iinc C (lv' := fun w9 => [(3, .int (iI w9)), (0, .ref (ad 2)), (1, .int (iI x1)), (2, .int (iI x2))]) 3 rfl dX3_areNear_27 (by decide) (fun _ => rfl) (fun x3_16 ex3_16 => ?_)
          replace h := h x3_16 ex3_16
          have rx3_16 : inR x3_16 := by rw [ex3_16]; exact r_15
          refine wa_goto C (tgt := 5) dX3_areNear_30 (by decide) ?_
          obtain ⟨n_17, ln_17, h⟩ := h
          refine wa_sub C [1, 2, 3, 0] rfl ?_
          exact ih_6 n_17 ln_17 x3_16 rx3_16 h
        · replace h := h.2 c_14
          refine wa_iconst C (z := 1) dX3_areNear_25 rfl ?_
          exact ret dX3_areNear_26 (Or.inr rfl) ⟨(Or.inr rfl), rfl, h⟩
  refine wa_sub C [1, 2, 3, 0] rfl ?_
  exact k_7 n_4 x3_2 rx3_2 h0Inv_3
