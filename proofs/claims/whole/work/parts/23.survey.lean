theorem dX9_tallyStart_0 : decode cX9_tallyStart 0 = .ok (.aload_n 0, 1) := by decide +kernel
theorem dX9_tallyStart_1 : decode cX9_tallyStart 1 = .ok (.getfield 50, 3) := by decide +kernel
theorem dX9_tallyStart_4 : decode cX9_tallyStart 4 = .ok (.getfield 61, 3) := by decide +kernel
theorem dX9_tallyStart_7 : decode cX9_tallyStart 7 = .ok (.iload_n 1, 1) := by decide +kernel
theorem dX9_tallyStart_8 : decode cX9_tallyStart 8 = .ok (.iaload, 1) := by decide +kernel
theorem dX9_tallyStart_9 : decode cX9_tallyStart 9 = .ok (.iload_n 1, 1) := by decide +kernel
theorem dX9_tallyStart_10 : decode cX9_tallyStart 10 = .ok (.iadd, 1) := by decide +kernel
theorem dX9_tallyStart_11 : decode cX9_tallyStart 11 = .ok (.ireturn, 1) := by decide +kernel
theorem dX9_listLinks_0 : decode cX9_listLinks 0 = .ok (.aload_n 0, 1) := by decide +kernel
theorem dX9_listLinks_1 : decode cX9_listLinks 1 = .ok (.getfield 97, 3) := by decide +kernel
theorem dX9_listLinks_4 : decode cX9_listLinks 4 = .ok (.bipush 8, 2) := by decide +kernel
theorem dX9_listLinks_6 : decode cX9_listLinks 6 = .ok (.imul, 1) := by decide +kernel
theorem dX9_listLinks_7 : decode cX9_listLinks 7 = .ok (.istore_n 2, 1) := by decide +kernel
theorem dX9_listLinks_8 : decode cX9_listLinks 8 = .ok (.iload_n 1, 1) := by decide +kernel
theorem dX9_listLinks_9 : decode cX9_listLinks 9 = .ok (.bipush 8, 2) := by decide +kernel
theorem dX9_listLinks_11 : decode cX9_listLinks 11 = .ok (.imul, 1) := by decide +kernel
theorem dX9_listLinks_12 : decode cX9_listLinks 12 = .ok (.istore_n 3, 1) := by decide +kernel
theorem dX9_listLinks_13 : decode cX9_listLinks 13 = .ok (.iload_n 3, 1) := by decide +kernel
theorem dX9_listLinks_14 : decode cX9_listLinks 14 = .ok (.aload_n 0, 1) := by decide +kernel
theorem dX9_listLinks_15 : decode cX9_listLinks 15 = .ok (.getfield 60, 3) := by decide +kernel
theorem dX9_listLinks_18 : decode cX9_listLinks 18 = .ok (.getfield 108, 3) := by decide +kernel
theorem dX9_listLinks_21 : decode cX9_listLinks 21 = .ok (.iload_n 1, 1) := by decide +kernel
theorem dX9_listLinks_22 : decode cX9_listLinks 22 = .ok (.iaload, 1) := by decide +kernel
theorem dX9_listLinks_23 : decode cX9_listLinks 23 = .ok (.if_icmp .ge 47, 3) := by decide +kernel
theorem dX9_listLinks_26 : decode cX9_listLinks 26 = .ok (.aload_n 0, 1) := by decide +kernel
theorem dX9_listLinks_27 : decode cX9_listLinks 27 = .ok (.getfield 50, 3) := by decide +kernel
theorem dX9_listLinks_30 : decode cX9_listLinks 30 = .ok (.getfield 111, 3) := by decide +kernel
theorem dX9_listLinks_33 : decode cX9_listLinks 33 = .ok (.aload_n 0, 1) := by decide +kernel
theorem dX9_listLinks_34 : decode cX9_listLinks 34 = .ok (.getfield 60, 3) := by decide +kernel
theorem dX9_listLinks_37 : decode cX9_listLinks 37 = .ok (.getfield 115, 3) := by decide +kernel
theorem dX9_listLinks_40 : decode cX9_listLinks 40 = .ok (.iload_n 3, 1) := by decide +kernel
theorem dX9_listLinks_41 : decode cX9_listLinks 41 = .ok (.iaload, 1) := by decide +kernel
theorem dX9_listLinks_42 : decode cX9_listLinks 42 = .ok (.baload, 1) := by decide +kernel
theorem dX9_listLinks_43 : decode cX9_listLinks 43 = .ok (.ifCond .eq 21, 3) := by decide +kernel
theorem dX9_listLinks_46 : decode cX9_listLinks 46 = .ok (.aload_n 0, 1) := by decide +kernel
theorem dX9_listLinks_47 : decode cX9_listLinks 47 = .ok (.getfield 35, 3) := by decide +kernel
theorem dX9_listLinks_50 : decode cX9_listLinks 50 = .ok (.iload_n 2, 1) := by decide +kernel
theorem dX9_listLinks_51 : decode cX9_listLinks 51 = .ok (.aload_n 0, 1) := by decide +kernel
theorem dX9_listLinks_52 : decode cX9_listLinks 52 = .ok (.getfield 60, 3) := by decide +kernel
theorem dX9_listLinks_55 : decode cX9_listLinks 55 = .ok (.getfield 115, 3) := by decide +kernel
theorem dX9_listLinks_58 : decode cX9_listLinks 58 = .ok (.iload_n 3, 1) := by decide +kernel
theorem dX9_listLinks_59 : decode cX9_listLinks 59 = .ok (.iaload, 1) := by decide +kernel
theorem dX9_listLinks_60 : decode cX9_listLinks 60 = .ok (.iastore, 1) := by decide +kernel
theorem dX9_listLinks_61 : decode cX9_listLinks 61 = .ok (.iinc 2 1, 3) := by decide +kernel
theorem dX9_listLinks_64 : decode cX9_listLinks 64 = .ok (.iinc 3 1, 3) := by decide +kernel
theorem dX9_listLinks_67 : decode cX9_listLinks 67 = .ok (.goto (-54), 3) := by decide +kernel
theorem dX9_listLinks_70 : decode cX9_listLinks 70 = .ok (.aload_n 0, 1) := by decide +kernel
theorem dX9_listLinks_71 : decode cX9_listLinks 71 = .ok (.getfield 38, 3) := by decide +kernel
theorem dX9_listLinks_74 : decode cX9_listLinks 74 = .ok (.aload_n 0, 1) := by decide +kernel
theorem dX9_listLinks_75 : decode cX9_listLinks 75 = .ok (.getfield 97, 3) := by decide +kernel
theorem dX9_listLinks_78 : decode cX9_listLinks 78 = .ok (.iload_n 2, 1) := by decide +kernel
theorem dX9_listLinks_79 : decode cX9_listLinks 79 = .ok (.iastore, 1) := by decide +kernel
theorem dX9_listLinks_80 : decode cX9_listLinks 80 = .ok (.return_, 1) := by decide +kernel
theorem dX9_hasLinksOfTheLast_0 : decode cX9_hasLinksOfTheLast 0 = .ok (.iconst 0, 1) := by decide +kernel
theorem dX9_hasLinksOfTheLast_1 : decode cX9_hasLinksOfTheLast 1 = .ok (.istore_n 3, 1) := by decide +kernel
theorem dX9_hasLinksOfTheLast_2 : decode cX9_hasLinksOfTheLast 2 = .ok (.iload_n 3, 1) := by decide +kernel
theorem dX9_hasLinksOfTheLast_3 : decode cX9_hasLinksOfTheLast 3 = .ok (.iload_n 2, 1) := by decide +kernel
theorem dX9_hasLinksOfTheLast_4 : decode cX9_hasLinksOfTheLast 4 = .ok (.if_icmp .ge 39, 3) := by decide +kernel
theorem dX9_hasLinksOfTheLast_7 : decode cX9_hasLinksOfTheLast 7 = .ok (.aload_n 0, 1) := by decide +kernel
theorem dX9_hasLinksOfTheLast_8 : decode cX9_hasLinksOfTheLast 8 = .ok (.getfield 35, 3) := by decide +kernel
theorem dX9_hasLinksOfTheLast_11 : decode cX9_hasLinksOfTheLast 11 = .ok (.iload_n 1, 1) := by decide +kernel
theorem dX9_hasLinksOfTheLast_12 : decode cX9_hasLinksOfTheLast 12 = .ok (.bipush 8, 2) := by decide +kernel
theorem dX9_hasLinksOfTheLast_14 : decode cX9_hasLinksOfTheLast 14 = .ok (.imul, 1) := by decide +kernel
theorem dX9_hasLinksOfTheLast_15 : decode cX9_hasLinksOfTheLast 15 = .ok (.iload_n 3, 1) := by decide +kernel
theorem dX9_hasLinksOfTheLast_16 : decode cX9_hasLinksOfTheLast 16 = .ok (.iadd, 1) := by decide +kernel
theorem dX9_hasLinksOfTheLast_17 : decode cX9_hasLinksOfTheLast 17 = .ok (.iaload, 1) := by decide +kernel
theorem dX9_hasLinksOfTheLast_18 : decode cX9_hasLinksOfTheLast 18 = .ok (.aload_n 0, 1) := by decide +kernel
theorem dX9_hasLinksOfTheLast_19 : decode cX9_hasLinksOfTheLast 19 = .ok (.getfield 35, 3) := by decide +kernel
theorem dX9_hasLinksOfTheLast_22 : decode cX9_hasLinksOfTheLast 22 = .ok (.aload_n 0, 1) := by decide +kernel
theorem dX9_hasLinksOfTheLast_23 : decode cX9_hasLinksOfTheLast 23 = .ok (.getfield 97, 3) := by decide +kernel
theorem dX9_hasLinksOfTheLast_26 : decode cX9_hasLinksOfTheLast 26 = .ok (.bipush 8, 2) := by decide +kernel
theorem dX9_hasLinksOfTheLast_28 : decode cX9_hasLinksOfTheLast 28 = .ok (.imul, 1) := by decide +kernel
theorem dX9_hasLinksOfTheLast_29 : decode cX9_hasLinksOfTheLast 29 = .ok (.iload_n 3, 1) := by decide +kernel
theorem dX9_hasLinksOfTheLast_30 : decode cX9_hasLinksOfTheLast 30 = .ok (.iadd, 1) := by decide +kernel
theorem dX9_hasLinksOfTheLast_31 : decode cX9_hasLinksOfTheLast 31 = .ok (.iaload, 1) := by decide +kernel
theorem dX9_hasLinksOfTheLast_32 : decode cX9_hasLinksOfTheLast 32 = .ok (.if_icmp .eq 5, 3) := by decide +kernel
theorem dX9_hasLinksOfTheLast_35 : decode cX9_hasLinksOfTheLast 35 = .ok (.iconst 0, 1) := by decide +kernel
theorem dX9_hasLinksOfTheLast_36 : decode cX9_hasLinksOfTheLast 36 = .ok (.ireturn, 1) := by decide +kernel
theorem dX9_hasLinksOfTheLast_37 : decode cX9_hasLinksOfTheLast 37 = .ok (.iinc 3 1, 3) := by decide +kernel
theorem dX9_hasLinksOfTheLast_40 : decode cX9_hasLinksOfTheLast 40 = .ok (.goto (-38), 3) := by decide +kernel
theorem dX9_hasLinksOfTheLast_43 : decode cX9_hasLinksOfTheLast 43 = .ok (.iconst 1, 1) := by decide +kernel
theorem dX9_hasLinksOfTheLast_44 : decode cX9_hasLinksOfTheLast 44 = .ok (.ireturn, 1) := by decide +kernel
theorem dX9_groupLikeTheLast_0 : decode cX9_groupLikeTheLast 0 = .ok (.aload_n 0, 1) := by decide +kernel
theorem dX9_groupLikeTheLast_1 : decode cX9_groupLikeTheLast 1 = .ok (.getfield 38, 3) := by decide +kernel
theorem dX9_groupLikeTheLast_4 : decode cX9_groupLikeTheLast 4 = .ok (.aload_n 0, 1) := by decide +kernel
theorem dX9_groupLikeTheLast_5 : decode cX9_groupLikeTheLast 5 = .ok (.getfield 97, 3) := by decide +kernel
theorem dX9_groupLikeTheLast_8 : decode cX9_groupLikeTheLast 8 = .ok (.iaload, 1) := by decide +kernel
theorem dX9_groupLikeTheLast_9 : decode cX9_groupLikeTheLast 9 = .ok (.aload_n 0, 1) := by decide +kernel
theorem dX9_groupLikeTheLast_10 : decode cX9_groupLikeTheLast 10 = .ok (.getfield 97, 3) := by decide +kernel
theorem dX9_groupLikeTheLast_13 : decode cX9_groupLikeTheLast 13 = .ok (.bipush 8, 2) := by decide +kernel
theorem dX9_groupLikeTheLast_15 : decode cX9_groupLikeTheLast 15 = .ok (.imul, 1) := by decide +kernel
theorem dX9_groupLikeTheLast_16 : decode cX9_groupLikeTheLast 16 = .ok (.isub, 1) := by decide +kernel
theorem dX9_groupLikeTheLast_17 : decode cX9_groupLikeTheLast 17 = .ok (.istore_n 1, 1) := by decide +kernel
theorem dX9_groupLikeTheLast_18 : decode cX9_groupLikeTheLast 18 = .ok (.iconst 0, 1) := by decide +kernel
theorem dX9_groupLikeTheLast_19 : decode cX9_groupLikeTheLast 19 = .ok (.istore_n 2, 1) := by decide +kernel
theorem dX9_groupLikeTheLast_20 : decode cX9_groupLikeTheLast 20 = .ok (.iload_n 2, 1) := by decide +kernel
theorem dX9_groupLikeTheLast_21 : decode cX9_groupLikeTheLast 21 = .ok (.aload_n 0, 1) := by decide +kernel
theorem dX9_groupLikeTheLast_22 : decode cX9_groupLikeTheLast 22 = .ok (.getfield 97, 3) := by decide +kernel
theorem dX9_groupLikeTheLast_25 : decode cX9_groupLikeTheLast 25 = .ok (.if_icmp .ge 35, 3) := by decide +kernel
theorem dX9_groupLikeTheLast_28 : decode cX9_groupLikeTheLast 28 = .ok (.aload_n 0, 1) := by decide +kernel
theorem dX9_groupLikeTheLast_29 : decode cX9_groupLikeTheLast 29 = .ok (.getfield 38, 3) := by decide +kernel
theorem dX9_groupLikeTheLast_32 : decode cX9_groupLikeTheLast 32 = .ok (.iload_n 2, 1) := by decide +kernel
theorem dX9_groupLikeTheLast_33 : decode cX9_groupLikeTheLast 33 = .ok (.iaload, 1) := by decide +kernel
theorem dX9_groupLikeTheLast_34 : decode cX9_groupLikeTheLast 34 = .ok (.iload_n 2, 1) := by decide +kernel
theorem dX9_groupLikeTheLast_35 : decode cX9_groupLikeTheLast 35 = .ok (.bipush 8, 2) := by decide +kernel
theorem dX9_groupLikeTheLast_37 : decode cX9_groupLikeTheLast 37 = .ok (.imul, 1) := by decide +kernel
theorem dX9_groupLikeTheLast_38 : decode cX9_groupLikeTheLast 38 = .ok (.isub, 1) := by decide +kernel
theorem dX9_groupLikeTheLast_39 : decode cX9_groupLikeTheLast 39 = .ok (.iload_n 1, 1) := by decide +kernel
theorem dX9_groupLikeTheLast_40 : decode cX9_groupLikeTheLast 40 = .ok (.if_icmp .ne 14, 3) := by decide +kernel
theorem dX9_groupLikeTheLast_43 : decode cX9_groupLikeTheLast 43 = .ok (.aload_n 0, 1) := by decide +kernel
theorem dX9_groupLikeTheLast_44 : decode cX9_groupLikeTheLast 44 = .ok (.iload_n 2, 1) := by decide +kernel
theorem dX9_groupLikeTheLast_45 : decode cX9_groupLikeTheLast 45 = .ok (.iload_n 1, 1) := by decide +kernel
theorem dX9_groupLikeTheLast_46 : decode cX9_groupLikeTheLast 46 = .ok (.invokevirtual 118, 3) := by decide +kernel
theorem dX9_groupLikeTheLast_49 : decode cX9_groupLikeTheLast 49 = .ok (.ifCond .eq 5, 3) := by decide +kernel
theorem dX9_groupLikeTheLast_52 : decode cX9_groupLikeTheLast 52 = .ok (.iload_n 2, 1) := by decide +kernel
theorem dX9_groupLikeTheLast_53 : decode cX9_groupLikeTheLast 53 = .ok (.ireturn, 1) := by decide +kernel
theorem dX9_groupLikeTheLast_54 : decode cX9_groupLikeTheLast 54 = .ok (.iinc 2 1, 3) := by decide +kernel
theorem dX9_groupLikeTheLast_57 : decode cX9_groupLikeTheLast 57 = .ok (.goto (-37), 3) := by decide +kernel
theorem dX9_groupLikeTheLast_60 : decode cX9_groupLikeTheLast 60 = .ok (.aload_n 0, 1) := by decide +kernel
theorem dX9_groupLikeTheLast_61 : decode cX9_groupLikeTheLast 61 = .ok (.getfield 97, 3) := by decide +kernel
theorem dX9_groupLikeTheLast_64 : decode cX9_groupLikeTheLast 64 = .ok (.ireturn, 1) := by decide +kernel
theorem dX9_formGroups_0 : decode cX9_formGroups 0 = .ok (.aload_n 0, 1) := by decide +kernel
theorem dX9_formGroups_1 : decode cX9_formGroups 1 = .ok (.iconst 0, 1) := by decide +kernel
theorem dX9_formGroups_2 : decode cX9_formGroups 2 = .ok (.putfield 97, 3) := by decide +kernel
theorem dX9_formGroups_5 : decode cX9_formGroups 5 = .ok (.aload_n 0, 1) := by decide +kernel
theorem dX9_formGroups_6 : decode cX9_formGroups 6 = .ok (.getfield 50, 3) := by decide +kernel
theorem dX9_formGroups_9 : decode cX9_formGroups 9 = .ok (.getfield 61, 3) := by decide +kernel
theorem dX9_formGroups_12 : decode cX9_formGroups 12 = .ok (.aload_n 0, 1) := by decide +kernel
theorem dX9_formGroups_13 : decode cX9_formGroups 13 = .ok (.getfield 68, 3) := by decide +kernel
theorem dX9_formGroups_16 : decode cX9_formGroups 16 = .ok (.iaload, 1) := by decide +kernel
theorem dX9_formGroups_17 : decode cX9_formGroups 17 = .ok (.istore_n 1, 1) := by decide +kernel
theorem dX9_formGroups_18 : decode cX9_formGroups 18 = .ok (.iload_n 1, 1) := by decide +kernel
theorem dX9_formGroups_19 : decode cX9_formGroups 19 = .ok (.aload_n 0, 1) := by decide +kernel
theorem dX9_formGroups_20 : decode cX9_formGroups 20 = .ok (.getfield 50, 3) := by decide +kernel
theorem dX9_formGroups_23 : decode cX9_formGroups 23 = .ok (.getfield 61, 3) := by decide +kernel
theorem dX9_formGroups_26 : decode cX9_formGroups 26 = .ok (.aload_n 0, 1) := by decide +kernel
theorem dX9_formGroups_27 : decode cX9_formGroups 27 = .ok (.getfield 68, 3) := by decide +kernel
theorem dX9_formGroups_30 : decode cX9_formGroups 30 = .ok (.iconst 1, 1) := by decide +kernel
theorem dX9_formGroups_31 : decode cX9_formGroups 31 = .ok (.iadd, 1) := by decide +kernel
theorem dX9_formGroups_32 : decode cX9_formGroups 32 = .ok (.iaload, 1) := by decide +kernel
theorem dX9_formGroups_33 : decode cX9_formGroups 33 = .ok (.if_icmp .ge 71, 3) := by decide +kernel
theorem dX9_formGroups_36 : decode cX9_formGroups 36 = .ok (.aload_n 0, 1) := by decide +kernel
theorem dX9_formGroups_37 : decode cX9_formGroups 37 = .ok (.getfield 50, 3) := by decide +kernel
theorem dX9_formGroups_40 : decode cX9_formGroups 40 = .ok (.getfield 85, 3) := by decide +kernel
theorem dX9_formGroups_43 : decode cX9_formGroups 43 = .ok (.iload_n 1, 1) := by decide +kernel
theorem dX9_formGroups_44 : decode cX9_formGroups 44 = .ok (.iaload, 1) := by decide +kernel
theorem dX9_formGroups_45 : decode cX9_formGroups 45 = .ok (.istore_n 2, 1) := by decide +kernel
theorem dX9_formGroups_46 : decode cX9_formGroups 46 = .ok (.aload_n 0, 1) := by decide +kernel
theorem dX9_formGroups_47 : decode cX9_formGroups 47 = .ok (.iload_n 2, 1) := by decide +kernel
theorem dX9_formGroups_48 : decode cX9_formGroups 48 = .ok (.invokevirtual 100, 3) := by decide +kernel
theorem dX9_formGroups_51 : decode cX9_formGroups 51 = .ok (.aload_n 0, 1) := by decide +kernel
theorem dX9_formGroups_52 : decode cX9_formGroups 52 = .ok (.invokevirtual 104, 3) := by decide +kernel
theorem dX9_formGroups_55 : decode cX9_formGroups 55 = .ok (.istore_n 3, 1) := by decide +kernel
theorem dX9_formGroups_56 : decode cX9_formGroups 56 = .ok (.iload_n 3, 1) := by decide +kernel
theorem dX9_formGroups_57 : decode cX9_formGroups 57 = .ok (.aload_n 0, 1) := by decide +kernel
theorem dX9_formGroups_58 : decode cX9_formGroups 58 = .ok (.getfield 97, 3) := by decide +kernel
theorem dX9_formGroups_61 : decode cX9_formGroups 61 = .ok (.if_icmp .ne 20, 3) := by decide +kernel
theorem dX9_formGroups_64 : decode cX9_formGroups 64 = .ok (.aload_n 0, 1) := by decide +kernel
theorem dX9_formGroups_65 : decode cX9_formGroups 65 = .ok (.getfield 30, 3) := by decide +kernel
theorem dX9_formGroups_68 : decode cX9_formGroups 68 = .ok (.iload_n 3, 1) := by decide +kernel
theorem dX9_formGroups_69 : decode cX9_formGroups 69 = .ok (.iconst 0, 1) := by decide +kernel
theorem dX9_formGroups_70 : decode cX9_formGroups 70 = .ok (.iastore, 1) := by decide +kernel
theorem dX9_formGroups_71 : decode cX9_formGroups 71 = .ok (.aload_n 0, 1) := by decide +kernel
theorem dX9_formGroups_72 : decode cX9_formGroups 72 = .ok (.dup, 1) := by decide +kernel
theorem dX9_formGroups_73 : decode cX9_formGroups 73 = .ok (.getfield 97, 3) := by decide +kernel
theorem dX9_formGroups_76 : decode cX9_formGroups 76 = .ok (.iconst 1, 1) := by decide +kernel
theorem dX9_formGroups_77 : decode cX9_formGroups 77 = .ok (.iadd, 1) := by decide +kernel
theorem dX9_formGroups_78 : decode cX9_formGroups 78 = .ok (.putfield 97, 3) := by decide +kernel
theorem dX9_formGroups_81 : decode cX9_formGroups 81 = .ok (.aload_n 0, 1) := by decide +kernel
theorem dX9_formGroups_82 : decode cX9_formGroups 82 = .ok (.getfield 30, 3) := by decide +kernel
theorem dX9_formGroups_85 : decode cX9_formGroups 85 = .ok (.iload_n 3, 1) := by decide +kernel
theorem dX9_formGroups_86 : decode cX9_formGroups 86 = .ok (.dup2, 1) := by decide +kernel
theorem dX9_formGroups_87 : decode cX9_formGroups 87 = .ok (.iaload, 1) := by decide +kernel
theorem dX9_formGroups_88 : decode cX9_formGroups 88 = .ok (.iconst 1, 1) := by decide +kernel
theorem dX9_formGroups_89 : decode cX9_formGroups 89 = .ok (.iadd, 1) := by decide +kernel
theorem dX9_formGroups_90 : decode cX9_formGroups 90 = .ok (.iastore, 1) := by decide +kernel
theorem dX9_formGroups_91 : decode cX9_formGroups 91 = .ok (.aload_n 0, 1) := by decide +kernel
theorem dX9_formGroups_92 : decode cX9_formGroups 92 = .ok (.getfield 27, 3) := by decide +kernel
theorem dX9_formGroups_95 : decode cX9_formGroups 95 = .ok (.iload_n 2, 1) := by decide +kernel
theorem dX9_formGroups_96 : decode cX9_formGroups 96 = .ok (.iload_n 3, 1) := by decide +kernel
theorem dX9_formGroups_97 : decode cX9_formGroups 97 = .ok (.iastore, 1) := by decide +kernel
theorem dX9_formGroups_98 : decode cX9_formGroups 98 = .ok (.iinc 1 1, 3) := by decide +kernel
theorem dX9_formGroups_101 : decode cX9_formGroups 101 = .ok (.goto (-83), 3) := by decide +kernel
theorem dX9_formGroups_104 : decode cX9_formGroups 104 = .ok (.return_, 1) := by decide +kernel
theorem dX9_clear_0 : decode cX9_clear 0 = .ok (.iconst 0, 1) := by decide +kernel
theorem dX9_clear_1 : decode cX9_clear 1 = .ok (.istore_n 1, 1) := by decide +kernel
theorem dX9_clear_2 : decode cX9_clear 2 = .ok (.iload_n 1, 1) := by decide +kernel
theorem dX9_clear_3 : decode cX9_clear 3 = .ok (.aload_n 0, 1) := by decide +kernel
theorem dX9_clear_4 : decode cX9_clear 4 = .ok (.getfield 50, 3) := by decide +kernel
theorem dX9_clear_7 : decode cX9_clear 7 = .ok (.aload_n 0, 1) := by decide +kernel
theorem dX9_clear_8 : decode cX9_clear 8 = .ok (.getfield 68, 3) := by decide +kernel
theorem dX9_clear_11 : decode cX9_clear 11 = .ok (.invokevirtual 64, 3) := by decide +kernel
theorem dX9_clear_14 : decode cX9_clear 14 = .ok (.if_icmp .gt 25, 3) := by decide +kernel
theorem dX9_clear_17 : decode cX9_clear 17 = .ok (.aload_n 0, 1) := by decide +kernel
theorem dX9_clear_18 : decode cX9_clear 18 = .ok (.getfield 21, 3) := by decide +kernel
theorem dX9_clear_21 : decode cX9_clear 21 = .ok (.aload_n 0, 1) := by decide +kernel
theorem dX9_clear_22 : decode cX9_clear 22 = .ok (.aload_n 0, 1) := by decide +kernel
theorem dX9_clear_23 : decode cX9_clear 23 = .ok (.getfield 68, 3) := by decide +kernel
theorem dX9_clear_26 : decode cX9_clear 26 = .ok (.invokevirtual 88, 3) := by decide +kernel
theorem dX9_clear_29 : decode cX9_clear 29 = .ok (.iload_n 1, 1) := by decide +kernel
theorem dX9_clear_30 : decode cX9_clear 30 = .ok (.iadd, 1) := by decide +kernel
theorem dX9_clear_31 : decode cX9_clear 31 = .ok (.iconst 0, 1) := by decide +kernel
theorem dX9_clear_32 : decode cX9_clear 32 = .ok (.iastore, 1) := by decide +kernel
theorem dX9_clear_33 : decode cX9_clear 33 = .ok (.iinc 1 1, 3) := by decide +kernel
theorem dX9_clear_36 : decode cX9_clear 36 = .ok (.goto (-34), 3) := by decide +kernel
theorem dX9_clear_39 : decode cX9_clear 39 = .ok (.aload_n 0, 1) := by decide +kernel
theorem dX9_clear_40 : decode cX9_clear 40 = .ok (.getfield 24, 3) := by decide +kernel
theorem dX9_clear_43 : decode cX9_clear 43 = .ok (.iconst 0, 1) := by decide +kernel
theorem dX9_clear_44 : decode cX9_clear 44 = .ok (.invokestatic 91, 3) := by decide +kernel
theorem dX9_clear_47 : decode cX9_clear 47 = .ok (.aload_n 0, 1) := by decide +kernel
theorem dX9_clear_48 : decode cX9_clear 48 = .ok (.getfield 44, 3) := by decide +kernel
theorem dX9_clear_51 : decode cX9_clear 51 = .ok (.iconst 0, 1) := by decide +kernel
theorem dX9_clear_52 : decode cX9_clear 52 = .ok (.invokestatic 91, 3) := by decide +kernel
theorem dX9_clear_55 : decode cX9_clear 55 = .ok (.aload_n 0, 1) := by decide +kernel
theorem dX9_clear_56 : decode cX9_clear 56 = .ok (.getfield 47, 3) := by decide +kernel
theorem dX9_clear_59 : decode cX9_clear 59 = .ok (.iconst 0, 1) := by decide +kernel
theorem dX9_clear_60 : decode cX9_clear 60 = .ok (.invokestatic 91, 3) := by decide +kernel
theorem dX9_clear_63 : decode cX9_clear 63 = .ok (.aload_n 0, 1) := by decide +kernel
theorem dX9_clear_64 : decode cX9_clear 64 = .ok (.getfield 18, 3) := by decide +kernel
theorem dX9_clear_67 : decode cX9_clear 67 = .ok (.aload_n 0, 1) := by decide +kernel
theorem dX9_clear_68 : decode cX9_clear 68 = .ok (.getfield 68, 3) := by decide +kernel
theorem dX9_clear_71 : decode cX9_clear 71 = .ok (.iconst 0, 1) := by decide +kernel
theorem dX9_clear_72 : decode cX9_clear 72 = .ok (.iastore, 1) := by decide +kernel
theorem dX9_clear_73 : decode cX9_clear 73 = .ok (.return_, 1) := by decide +kernel
theorem dX9_assign_0 : decode cX9_assign 0 = .ok (.iload_n 1, 1) := by decide +kernel
theorem dX9_assign_1 : decode cX9_assign 1 = .ok (.bipush 8, 2) := by decide +kernel
theorem dX9_assign_3 : decode cX9_assign 3 = .ok (.imul, 1) := by decide +kernel
theorem dX9_assign_4 : decode cX9_assign 4 = .ok (.istore 4, 2) := by decide +kernel
theorem dX9_assign_6 : decode cX9_assign 6 = .ok (.iload 4, 2) := by decide +kernel
theorem dX9_assign_8 : decode cX9_assign 8 = .ok (.aload_n 0, 1) := by decide +kernel
theorem dX9_assign_9 : decode cX9_assign 9 = .ok (.getfield 38, 3) := by decide +kernel
theorem dX9_assign_12 : decode cX9_assign 12 = .ok (.iload_n 1, 1) := by decide +kernel
theorem dX9_assign_13 : decode cX9_assign 13 = .ok (.iaload, 1) := by decide +kernel
theorem dX9_assign_14 : decode cX9_assign 14 = .ok (.if_icmp .ge 47, 3) := by decide +kernel
theorem dX9_assign_17 : decode cX9_assign 17 = .ok (.aload_n 0, 1) := by decide +kernel
theorem dX9_assign_18 : decode cX9_assign 18 = .ok (.getfield 50, 3) := by decide +kernel
theorem dX9_assign_21 : decode cX9_assign 21 = .ok (.getfield 135, 3) := by decide +kernel
theorem dX9_assign_24 : decode cX9_assign 24 = .ok (.aload_n 0, 1) := by decide +kernel
theorem dX9_assign_25 : decode cX9_assign 25 = .ok (.getfield 35, 3) := by decide +kernel
theorem dX9_assign_28 : decode cX9_assign 28 = .ok (.iload 4, 2) := by decide +kernel
theorem dX9_assign_30 : decode cX9_assign 30 = .ok (.iaload, 1) := by decide +kernel
theorem dX9_assign_31 : decode cX9_assign 31 = .ok (.dup2, 1) := by decide +kernel
theorem dX9_assign_32 : decode cX9_assign 32 = .ok (.iaload, 1) := by decide +kernel
theorem dX9_assign_33 : decode cX9_assign 33 = .ok (.iload_n 2, 1) := by decide +kernel
theorem dX9_assign_34 : decode cX9_assign 34 = .ok (.isub, 1) := by decide +kernel
theorem dX9_assign_35 : decode cX9_assign 35 = .ok (.iastore, 1) := by decide +kernel
theorem dX9_assign_36 : decode cX9_assign 36 = .ok (.aload_n 0, 1) := by decide +kernel
theorem dX9_assign_37 : decode cX9_assign 37 = .ok (.getfield 50, 3) := by decide +kernel
theorem dX9_assign_40 : decode cX9_assign 40 = .ok (.getfield 126, 3) := by decide +kernel
theorem dX9_assign_43 : decode cX9_assign 43 = .ok (.aload_n 0, 1) := by decide +kernel
theorem dX9_assign_44 : decode cX9_assign 44 = .ok (.getfield 35, 3) := by decide +kernel
theorem dX9_assign_47 : decode cX9_assign 47 = .ok (.iload 4, 2) := by decide +kernel
theorem dX9_assign_49 : decode cX9_assign 49 = .ok (.iaload, 1) := by decide +kernel
theorem dX9_assign_50 : decode cX9_assign 50 = .ok (.dup2, 1) := by decide +kernel
theorem dX9_assign_51 : decode cX9_assign 51 = .ok (.iaload, 1) := by decide +kernel
theorem dX9_assign_52 : decode cX9_assign 52 = .ok (.iload_n 3, 1) := by decide +kernel
theorem dX9_assign_53 : decode cX9_assign 53 = .ok (.isub, 1) := by decide +kernel
theorem dX9_assign_54 : decode cX9_assign 54 = .ok (.iastore, 1) := by decide +kernel
theorem dX9_assign_55 : decode cX9_assign 55 = .ok (.iinc 4 1, 3) := by decide +kernel
theorem dX9_assign_58 : decode cX9_assign 58 = .ok (.goto (-52), 3) := by decide +kernel
theorem dX9_assign_61 : decode cX9_assign 61 = .ok (.return_, 1) := by decide +kernel
theorem dX9_record_0 : decode cX9_record 0 = .ok (.iconst 1, 1) := by decide +kernel
theorem dX9_record_1 : decode cX9_record 1 = .ok (.iload_n 1, 1) := by decide +kernel
theorem dX9_record_2 : decode cX9_record 2 = .ok (.ishl, 1) := by decide +kernel
theorem dX9_record_3 : decode cX9_record 3 = .ok (.istore_n 3, 1) := by decide +kernel
theorem dX9_record_4 : decode cX9_record 4 = .ok (.aload_n 0, 1) := by decide +kernel
theorem dX9_record_5 : decode cX9_record 5 = .ok (.getfield 21, 3) := by decide +kernel
theorem dX9_record_8 : decode cX9_record 8 = .ok (.aload_n 0, 1) := by decide +kernel
theorem dX9_record_9 : decode cX9_record 9 = .ok (.aload_n 0, 1) := by decide +kernel
theorem dX9_record_10 : decode cX9_record 10 = .ok (.getfield 68, 3) := by decide +kernel
theorem dX9_record_13 : decode cX9_record 13 = .ok (.invokevirtual 88, 3) := by decide +kernel
theorem dX9_record_16 : decode cX9_record 16 = .ok (.iload_n 1, 1) := by decide +kernel
theorem dX9_record_17 : decode cX9_record 17 = .ok (.iadd, 1) := by decide +kernel
theorem dX9_record_18 : decode cX9_record 18 = .ok (.dup2, 1) := by decide +kernel
theorem dX9_record_19 : decode cX9_record 19 = .ok (.iaload, 1) := by decide +kernel
theorem dX9_record_20 : decode cX9_record 20 = .ok (.iload_n 2, 1) := by decide +kernel
theorem dX9_record_21 : decode cX9_record 21 = .ok (.iadd, 1) := by decide +kernel
theorem dX9_record_22 : decode cX9_record 22 = .ok (.iastore, 1) := by decide +kernel
theorem dX9_record_23 : decode cX9_record 23 = .ok (.aload_n 0, 1) := by decide +kernel
theorem dX9_record_24 : decode cX9_record 24 = .ok (.getfield 18, 3) := by decide +kernel
theorem dX9_record_27 : decode cX9_record 27 = .ok (.aload_n 0, 1) := by decide +kernel
theorem dX9_record_28 : decode cX9_record 28 = .ok (.getfield 68, 3) := by decide +kernel
theorem dX9_record_31 : decode cX9_record 31 = .ok (.dup2, 1) := by decide +kernel
theorem dX9_record_32 : decode cX9_record 32 = .ok (.iaload, 1) := by decide +kernel
theorem dX9_record_33 : decode cX9_record 33 = .ok (.iload_n 3, 1) := by decide +kernel
theorem dX9_record_34 : decode cX9_record 34 = .ok (.ior, 1) := by decide +kernel
theorem dX9_record_35 : decode cX9_record 35 = .ok (.iastore, 1) := by decide +kernel
theorem dX9_record_36 : decode cX9_record 36 = .ok (.iconst 0, 1) := by decide +kernel
theorem dX9_record_37 : decode cX9_record 37 = .ok (.istore 4, 2) := by decide +kernel
theorem dX9_record_39 : decode cX9_record 39 = .ok (.iload 4, 2) := by decide +kernel
theorem dX9_record_41 : decode cX9_record 41 = .ok (.aload_n 0, 1) := by decide +kernel
theorem dX9_record_42 : decode cX9_record 42 = .ok (.getfield 97, 3) := by decide +kernel
theorem dX9_record_45 : decode cX9_record 45 = .ok (.if_icmp .ge 58, 3) := by decide +kernel
theorem dX9_record_48 : decode cX9_record 48 = .ok (.aload_n 0, 1) := by decide +kernel
theorem dX9_record_49 : decode cX9_record 49 = .ok (.getfield 41, 3) := by decide +kernel
theorem dX9_record_52 : decode cX9_record 52 = .ok (.iload 4, 2) := by decide +kernel
theorem dX9_record_54 : decode cX9_record 54 = .ok (.iaload, 1) := by decide +kernel
theorem dX9_record_55 : decode cX9_record 55 = .ok (.ifCond .le 14, 3) := by decide +kernel
theorem dX9_record_58 : decode cX9_record 58 = .ok (.aload_n 0, 1) := by decide +kernel
theorem dX9_record_59 : decode cX9_record 59 = .ok (.getfield 44, 3) := by decide +kernel
theorem dX9_record_62 : decode cX9_record 62 = .ok (.iload 4, 2) := by decide +kernel
theorem dX9_record_64 : decode cX9_record 64 = .ok (.dup2, 1) := by decide +kernel
theorem dX9_record_65 : decode cX9_record 65 = .ok (.iaload, 1) := by decide +kernel
theorem dX9_record_66 : decode cX9_record 66 = .ok (.iload_n 3, 1) := by decide +kernel
theorem dX9_record_67 : decode cX9_record 67 = .ok (.ior, 1) := by decide +kernel
theorem dX9_record_68 : decode cX9_record 68 = .ok (.iastore, 1) := by decide +kernel
theorem dX9_record_69 : decode cX9_record 69 = .ok (.aload_n 0, 1) := by decide +kernel
theorem dX9_record_70 : decode cX9_record 70 = .ok (.getfield 41, 3) := by decide +kernel
theorem dX9_record_73 : decode cX9_record 73 = .ok (.iload 4, 2) := by decide +kernel
theorem dX9_record_75 : decode cX9_record 75 = .ok (.iaload, 1) := by decide +kernel
theorem dX9_record_76 : decode cX9_record 76 = .ok (.aload_n 0, 1) := by decide +kernel
theorem dX9_record_77 : decode cX9_record 77 = .ok (.getfield 30, 3) := by decide +kernel
theorem dX9_record_80 : decode cX9_record 80 = .ok (.iload 4, 2) := by decide +kernel
theorem dX9_record_82 : decode cX9_record 82 = .ok (.iaload, 1) := by decide +kernel
theorem dX9_record_83 : decode cX9_record 83 = .ok (.if_icmp .ge 14, 3) := by decide +kernel
theorem dX9_record_86 : decode cX9_record 86 = .ok (.aload_n 0, 1) := by decide +kernel
theorem dX9_record_87 : decode cX9_record 87 = .ok (.getfield 47, 3) := by decide +kernel
theorem dX9_record_90 : decode cX9_record 90 = .ok (.iload 4, 2) := by decide +kernel
theorem dX9_record_92 : decode cX9_record 92 = .ok (.dup2, 1) := by decide +kernel
theorem dX9_record_93 : decode cX9_record 93 = .ok (.iaload, 1) := by decide +kernel
theorem dX9_record_94 : decode cX9_record 94 = .ok (.iload_n 3, 1) := by decide +kernel
theorem dX9_record_95 : decode cX9_record 95 = .ok (.ior, 1) := by decide +kernel
theorem dX9_record_96 : decode cX9_record 96 = .ok (.iastore, 1) := by decide +kernel
theorem dX9_record_97 : decode cX9_record 97 = .ok (.iinc 4 1, 3) := by decide +kernel
theorem dX9_record_100 : decode cX9_record 100 = .ok (.goto (-61), 3) := by decide +kernel
theorem dX9_record_103 : decode cX9_record 103 = .ok (.aload_n 0, 1) := by decide +kernel
theorem dX9_record_104 : decode cX9_record 104 = .ok (.getfield 75, 3) := by decide +kernel
theorem dX9_record_107 : decode cX9_record 107 = .ok (.iconst (-1), 1) := by decide +kernel
theorem dX9_record_108 : decode cX9_record 108 = .ok (.if_icmp .eq 45, 3) := by decide +kernel
theorem dX9_record_111 : decode cX9_record 111 = .ok (.aload_n 0, 1) := by decide +kernel
theorem dX9_record_112 : decode cX9_record 112 = .ok (.getfield 30, 3) := by decide +kernel
theorem dX9_record_115 : decode cX9_record 115 = .ok (.aload_n 0, 1) := by decide +kernel
theorem dX9_record_116 : decode cX9_record 116 = .ok (.getfield 75, 3) := by decide +kernel
theorem dX9_record_119 : decode cX9_record 119 = .ok (.iaload, 1) := by decide +kernel
theorem dX9_record_120 : decode cX9_record 120 = .ok (.ifCond .le 33, 3) := by decide +kernel
theorem dX9_record_123 : decode cX9_record 123 = .ok (.aload_n 0, 1) := by decide +kernel
theorem dX9_record_124 : decode cX9_record 124 = .ok (.getfield 24, 3) := by decide +kernel
theorem dX9_record_127 : decode cX9_record 127 = .ok (.iload_n 1, 1) := by decide +kernel
theorem dX9_record_128 : decode cX9_record 128 = .ok (.dup2, 1) := by decide +kernel
theorem dX9_record_129 : decode cX9_record 129 = .ok (.iaload, 1) := by decide +kernel
theorem dX9_record_130 : decode cX9_record 130 = .ok (.iload_n 2, 1) := by decide +kernel
theorem dX9_record_131 : decode cX9_record 131 = .ok (.aload_n 0, 1) := by decide +kernel
theorem dX9_record_132 : decode cX9_record 132 = .ok (.getfield 41, 3) := by decide +kernel
theorem dX9_record_135 : decode cX9_record 135 = .ok (.aload_n 0, 1) := by decide +kernel
theorem dX9_record_136 : decode cX9_record 136 = .ok (.getfield 75, 3) := by decide +kernel
theorem dX9_record_139 : decode cX9_record 139 = .ok (.iaload, 1) := by decide +kernel
theorem dX9_record_140 : decode cX9_record 140 = .ok (.imul, 1) := by decide +kernel
theorem dX9_record_141 : decode cX9_record 141 = .ok (.aload_n 0, 1) := by decide +kernel
theorem dX9_record_142 : decode cX9_record 142 = .ok (.getfield 30, 3) := by decide +kernel
theorem dX9_record_145 : decode cX9_record 145 = .ok (.aload_n 0, 1) := by decide +kernel
theorem dX9_record_146 : decode cX9_record 146 = .ok (.getfield 75, 3) := by decide +kernel
theorem dX9_record_149 : decode cX9_record 149 = .ok (.iaload, 1) := by decide +kernel
theorem dX9_record_150 : decode cX9_record 150 = .ok (.idiv, 1) := by decide +kernel
theorem dX9_record_151 : decode cX9_record 151 = .ok (.iadd, 1) := by decide +kernel
theorem dX9_record_152 : decode cX9_record 152 = .ok (.iastore, 1) := by decide +kernel
theorem dX9_record_153 : decode cX9_record 153 = .ok (.return_, 1) := by decide +kernel
theorem dX9_place_0 : decode cX9_place 0 = .ok (.iload_n 1, 1) := by decide +kernel
theorem dX9_place_1 : decode cX9_place 1 = .ok (.aload_n 0, 1) := by decide +kernel
theorem dX9_place_2 : decode cX9_place 2 = .ok (.getfield 97, 3) := by decide +kernel
theorem dX9_place_5 : decode cX9_place 5 = .ok (.if_icmp .ge 9, 3) := by decide +kernel
theorem dX9_place_8 : decode cX9_place 8 = .ok (.iload_n 1, 1) := by decide +kernel
theorem dX9_place_9 : decode cX9_place 9 = .ok (.bipush 16, 2) := by decide +kernel
theorem dX9_place_11 : decode cX9_place 11 = .ok (.if_icmp .lt 10, 3) := by decide +kernel
theorem dX9_place_14 : decode cX9_place 14 = .ok (.aload_n 0, 1) := by decide +kernel
theorem dX9_place_15 : decode cX9_place 15 = .ok (.iload_n 2, 1) := by decide +kernel
theorem dX9_place_16 : decode cX9_place 16 = .ok (.iload_n 3, 1) := by decide +kernel
theorem dX9_place_17 : decode cX9_place 17 = .ok (.invokevirtual 122, 3) := by decide +kernel
theorem dX9_place_20 : decode cX9_place 20 = .ok (.return_, 1) := by decide +kernel
theorem dX9_place_21 : decode cX9_place 21 = .ok (.aload_n 0, 1) := by decide +kernel
theorem dX9_place_22 : decode cX9_place 22 = .ok (.getfield 30, 3) := by decide +kernel
theorem dX9_place_25 : decode cX9_place 25 = .ok (.iload_n 1, 1) := by decide +kernel
theorem dX9_place_26 : decode cX9_place 26 = .ok (.iaload, 1) := by decide +kernel
theorem dX9_place_27 : decode cX9_place 27 = .ok (.istore 4, 2) := by decide +kernel
theorem dX9_place_29 : decode cX9_place 29 = .ok (.iconst 0, 1) := by decide +kernel
theorem dX9_place_30 : decode cX9_place 30 = .ok (.istore 5, 2) := by decide +kernel
theorem dX9_place_32 : decode cX9_place 32 = .ok (.iload 4, 2) := by decide +kernel
theorem dX9_place_34 : decode cX9_place 34 = .ok (.istore 6, 2) := by decide +kernel
theorem dX9_place_36 : decode cX9_place 36 = .ok (.iload_n 1, 1) := by decide +kernel
theorem dX9_place_37 : decode cX9_place 37 = .ok (.bipush 8, 2) := by decide +kernel
theorem dX9_place_39 : decode cX9_place 39 = .ok (.imul, 1) := by decide +kernel
theorem dX9_place_40 : decode cX9_place 40 = .ok (.istore 7, 2) := by decide +kernel
theorem dX9_place_42 : decode cX9_place 42 = .ok (.iload 7, 2) := by decide +kernel
theorem dX9_place_44 : decode cX9_place 44 = .ok (.aload_n 0, 1) := by decide +kernel
theorem dX9_place_45 : decode cX9_place 45 = .ok (.getfield 38, 3) := by decide +kernel
theorem dX9_place_48 : decode cX9_place 48 = .ok (.iload_n 1, 1) := by decide +kernel
theorem dX9_place_49 : decode cX9_place 49 = .ok (.iaload, 1) := by decide +kernel
theorem dX9_place_50 : decode cX9_place 50 = .ok (.if_icmp .ge 63, 3) := by decide +kernel
theorem dX9_place_53 : decode cX9_place 53 = .ok (.aload_n 0, 1) := by decide +kernel
theorem dX9_place_54 : decode cX9_place 54 = .ok (.getfield 50, 3) := by decide +kernel
theorem dX9_place_57 : decode cX9_place 57 = .ok (.getfield 126, 3) := by decide +kernel
theorem dX9_place_60 : decode cX9_place 60 = .ok (.aload_n 0, 1) := by decide +kernel
theorem dX9_place_61 : decode cX9_place 61 = .ok (.getfield 35, 3) := by decide +kernel
theorem dX9_place_64 : decode cX9_place 64 = .ok (.iload 7, 2) := by decide +kernel
theorem dX9_place_66 : decode cX9_place 66 = .ok (.iaload, 1) := by decide +kernel
theorem dX9_place_67 : decode cX9_place 67 = .ok (.iaload, 1) := by decide +kernel
theorem dX9_place_68 : decode cX9_place 68 = .ok (.istore 8, 2) := by decide +kernel
theorem dX9_place_70 : decode cX9_place 70 = .ok (.iload 6, 2) := by decide +kernel
theorem dX9_place_72 : decode cX9_place 72 = .ok (.iload 8, 2) := by decide +kernel
theorem dX9_place_74 : decode cX9_place 74 = .ok (.invokestatic 129, 3) := by decide +kernel
theorem dX9_place_77 : decode cX9_place 77 = .ok (.istore 6, 2) := by decide +kernel
theorem dX9_place_79 : decode cX9_place 79 = .ok (.iload 5, 2) := by decide +kernel
theorem dX9_place_81 : decode cX9_place 81 = .ok (.iload 8, 2) := by decide +kernel
theorem dX9_place_83 : decode cX9_place 83 = .ok (.aload_n 0, 1) := by decide +kernel
theorem dX9_place_84 : decode cX9_place 84 = .ok (.getfield 50, 3) := by decide +kernel
theorem dX9_place_87 : decode cX9_place 87 = .ok (.getfield 135, 3) := by decide +kernel
theorem dX9_place_90 : decode cX9_place 90 = .ok (.aload_n 0, 1) := by decide +kernel
theorem dX9_place_91 : decode cX9_place 91 = .ok (.getfield 35, 3) := by decide +kernel
theorem dX9_place_94 : decode cX9_place 94 = .ok (.iload 7, 2) := by decide +kernel
theorem dX9_place_96 : decode cX9_place 96 = .ok (.iaload, 1) := by decide +kernel
theorem dX9_place_97 : decode cX9_place 97 = .ok (.iaload, 1) := by decide +kernel
theorem dX9_place_98 : decode cX9_place 98 = .ok (.isub, 1) := by decide +kernel
theorem dX9_place_99 : decode cX9_place 99 = .ok (.iload 4, 2) := by decide +kernel
theorem dX9_place_101 : decode cX9_place 101 = .ok (.iadd, 1) := by decide +kernel
theorem dX9_place_102 : decode cX9_place 102 = .ok (.invokestatic 138, 3) := by decide +kernel
theorem dX9_place_105 : decode cX9_place 105 = .ok (.istore 5, 2) := by decide +kernel
theorem dX9_place_107 : decode cX9_place 107 = .ok (.iinc 7 1, 3) := by decide +kernel
theorem dX9_place_110 : decode cX9_place 110 = .ok (.goto (-68), 3) := by decide +kernel
theorem dX9_place_113 : decode cX9_place 113 = .ok (.iload 5, 2) := by decide +kernel
theorem dX9_place_115 : decode cX9_place 115 = .ok (.iload 6, 2) := by decide +kernel
theorem dX9_place_117 : decode cX9_place 117 = .ok (.if_icmp .le 4, 3) := by decide +kernel
theorem dX9_place_120 : decode cX9_place 120 = .ok (.return_, 1) := by decide +kernel
theorem dX9_place_121 : decode cX9_place 121 = .ok (.aload_n 0, 1) := by decide +kernel
theorem dX9_place_122 : decode cX9_place 122 = .ok (.iload_n 1, 1) := by decide +kernel
theorem dX9_place_123 : decode cX9_place 123 = .ok (.iload 4, 2) := by decide +kernel
theorem dX9_place_125 : decode cX9_place 125 = .ok (.iload 5, 2) := by decide +kernel
theorem dX9_place_127 : decode cX9_place 127 = .ok (.invokevirtual 141, 3) := by decide +kernel
theorem dX9_place_130 : decode cX9_place 130 = .ok (.iload 5, 2) := by decide +kernel
theorem dX9_place_132 : decode cX9_place 132 = .ok (.istore 7, 2) := by decide +kernel
theorem dX9_place_134 : decode cX9_place 134 = .ok (.iload 7, 2) := by decide +kernel
theorem dX9_place_136 : decode cX9_place 136 = .ok (.iload 6, 2) := by decide +kernel
theorem dX9_place_138 : decode cX9_place 138 = .ok (.if_icmp .gt 49, 3) := by decide +kernel
theorem dX9_place_141 : decode cX9_place 141 = .ok (.aload_n 0, 1) := by decide +kernel
theorem dX9_place_142 : decode cX9_place 142 = .ok (.getfield 41, 3) := by decide +kernel
theorem dX9_place_145 : decode cX9_place 145 = .ok (.iload_n 1, 1) := by decide +kernel
theorem dX9_place_146 : decode cX9_place 146 = .ok (.iload 7, 2) := by decide +kernel
theorem dX9_place_148 : decode cX9_place 148 = .ok (.iastore, 1) := by decide +kernel
theorem dX9_place_149 : decode cX9_place 149 = .ok (.aload_n 0, 1) := by decide +kernel
theorem dX9_place_150 : decode cX9_place 150 = .ok (.iload_n 1, 1) := by decide +kernel
theorem dX9_place_151 : decode cX9_place 151 = .ok (.iconst 1, 1) := by decide +kernel
theorem dX9_place_152 : decode cX9_place 152 = .ok (.iadd, 1) := by decide +kernel
theorem dX9_place_153 : decode cX9_place 153 = .ok (.iload_n 2, 1) := by decide +kernel
theorem dX9_place_154 : decode cX9_place 154 = .ok (.iload 7, 2) := by decide +kernel
theorem dX9_place_156 : decode cX9_place 156 = .ok (.iadd, 1) := by decide +kernel
theorem dX9_place_157 : decode cX9_place 157 = .ok (.iload_n 3, 1) := by decide +kernel
theorem dX9_place_158 : decode cX9_place 158 = .ok (.getstatic 144, 3) := by decide +kernel
theorem dX9_place_161 : decode cX9_place 161 = .ok (.iload 4, 2) := by decide +kernel
theorem dX9_place_163 : decode cX9_place 163 = .ok (.bipush 9, 2) := by decide +kernel
theorem dX9_place_165 : decode cX9_place 165 = .ok (.imul, 1) := by decide +kernel
theorem dX9_place_166 : decode cX9_place 166 = .ok (.iload 7, 2) := by decide +kernel
theorem dX9_place_168 : decode cX9_place 168 = .ok (.iadd, 1) := by decide +kernel
theorem dX9_place_169 : decode cX9_place 169 = .ok (.iaload, 1) := by decide +kernel
theorem dX9_place_170 : decode cX9_place 170 = .ok (.imul, 1) := by decide +kernel
theorem dX9_place_171 : decode cX9_place 171 = .ok (.invokevirtual 81, 3) := by decide +kernel
theorem dX9_place_174 : decode cX9_place 174 = .ok (.aload_n 0, 1) := by decide +kernel
theorem dX9_place_175 : decode cX9_place 175 = .ok (.iload_n 1, 1) := by decide +kernel
theorem dX9_place_176 : decode cX9_place 176 = .ok (.iconst 0, 1) := by decide +kernel
theorem dX9_place_177 : decode cX9_place 177 = .ok (.iconst 1, 1) := by decide +kernel
theorem dX9_place_178 : decode cX9_place 178 = .ok (.invokevirtual 141, 3) := by decide +kernel
theorem dX9_place_181 : decode cX9_place 181 = .ok (.iinc 7 1, 3) := by decide +kernel
theorem dX9_place_184 : decode cX9_place 184 = .ok (.goto (-50), 3) := by decide +kernel
theorem dX9_place_187 : decode cX9_place 187 = .ok (.aload_n 0, 1) := by decide +kernel
theorem dX9_place_188 : decode cX9_place 188 = .ok (.iload_n 1, 1) := by decide +kernel
theorem dX9_place_189 : decode cX9_place 189 = .ok (.iload 4, 2) := by decide +kernel
theorem dX9_place_191 : decode cX9_place 191 = .ok (.ineg, 1) := by decide +kernel
theorem dX9_place_192 : decode cX9_place 192 = .ok (.iload 6, 2) := by decide +kernel
theorem dX9_place_194 : decode cX9_place 194 = .ok (.ineg, 1) := by decide +kernel
theorem dX9_place_195 : decode cX9_place 195 = .ok (.iconst 1, 1) := by decide +kernel
theorem dX9_place_196 : decode cX9_place 196 = .ok (.isub, 1) := by decide +kernel
theorem dX9_place_197 : decode cX9_place 197 = .ok (.invokevirtual 141, 3) := by decide +kernel
theorem dX9_place_200 : decode cX9_place 200 = .ok (.return_, 1) := by decide +kernel
theorem dX9_take_0 : decode cX9_take 0 = .ok (.aload_n 0, 1) := by decide +kernel
theorem dX9_take_1 : decode cX9_take 1 = .ok (.getfield 50, 3) := by decide +kernel
theorem dX9_take_4 : decode cX9_take 4 = .ok (.iload_n 1, 1) := by decide +kernel
theorem dX9_take_5 : decode cX9_take 5 = .ok (.invokevirtual 64, 3) := by decide +kernel
theorem dX9_take_8 : decode cX9_take 8 = .ok (.bipush 16, 2) := by decide +kernel
theorem dX9_take_10 : decode cX9_take 10 = .ok (.if_icmp .le 4, 3) := by decide +kernel
theorem dX9_take_13 : decode cX9_take 13 = .ok (.return_, 1) := by decide +kernel
theorem dX9_take_14 : decode cX9_take 14 = .ok (.aload_n 0, 1) := by decide +kernel
theorem dX9_take_15 : decode cX9_take 15 = .ok (.iload_n 1, 1) := by decide +kernel
theorem dX9_take_16 : decode cX9_take 16 = .ok (.putfield 68, 3) := by decide +kernel
theorem dX9_take_19 : decode cX9_take 19 = .ok (.aload_n 0, 1) := by decide +kernel
theorem dX9_take_20 : decode cX9_take 20 = .ok (.invokevirtual 72, 3) := by decide +kernel
theorem dX9_take_23 : decode cX9_take 23 = .ok (.aload_n 0, 1) := by decide +kernel
theorem dX9_take_24 : decode cX9_take 24 = .ok (.iload_n 2, 1) := by decide +kernel
theorem dX9_take_25 : decode cX9_take 25 = .ok (.iconst (-1), 1) := by decide +kernel
theorem dX9_take_26 : decode cX9_take 26 = .ok (.if_icmp .ne 7, 3) := by decide +kernel
theorem dX9_take_29 : decode cX9_take 29 = .ok (.iconst (-1), 1) := by decide +kernel
theorem dX9_take_30 : decode cX9_take 30 = .ok (.goto 9, 3) := by decide +kernel
theorem dX9_take_33 : decode cX9_take 33 = .ok (.aload_n 0, 1) := by decide +kernel
theorem dX9_take_34 : decode cX9_take 34 = .ok (.getfield 27, 3) := by decide +kernel
theorem dX9_take_37 : decode cX9_take 37 = .ok (.iload_n 2, 1) := by decide +kernel
theorem dX9_take_38 : decode cX9_take 38 = .ok (.iaload, 1) := by decide +kernel
theorem dX9_take_39 : decode cX9_take 39 = .ok (.putfield 75, 3) := by decide +kernel
theorem dX9_take_42 : decode cX9_take 42 = .ok (.aload_n 0, 1) := by decide +kernel
theorem dX9_take_43 : decode cX9_take 43 = .ok (.invokevirtual 78, 3) := by decide +kernel
theorem dX9_take_46 : decode cX9_take 46 = .ok (.aload_n 0, 1) := by decide +kernel
theorem dX9_take_47 : decode cX9_take 47 = .ok (.iconst 0, 1) := by decide +kernel
theorem dX9_take_48 : decode cX9_take 48 = .ok (.iconst 0, 1) := by decide +kernel
theorem dX9_take_49 : decode cX9_take 49 = .ok (.iconst 1, 1) := by decide +kernel
theorem dX9_take_50 : decode cX9_take 50 = .ok (.invokevirtual 81, 3) := by decide +kernel
theorem dX9_take_53 : decode cX9_take 53 = .ok (.aload_n 0, 1) := by decide +kernel
theorem dX9_take_54 : decode cX9_take 54 = .ok (.getfield 50, 3) := by decide +kernel
theorem dX9_take_57 : decode cX9_take 57 = .ok (.getfield 61, 3) := by decide +kernel
theorem dX9_take_60 : decode cX9_take 60 = .ok (.iload_n 1, 1) := by decide +kernel
theorem dX9_take_61 : decode cX9_take 61 = .ok (.iaload, 1) := by decide +kernel
theorem dX9_take_62 : decode cX9_take 62 = .ok (.istore_n 3, 1) := by decide +kernel
theorem dX9_take_63 : decode cX9_take 63 = .ok (.iload_n 3, 1) := by decide +kernel
theorem dX9_take_64 : decode cX9_take 64 = .ok (.aload_n 0, 1) := by decide +kernel
theorem dX9_take_65 : decode cX9_take 65 = .ok (.getfield 50, 3) := by decide +kernel
theorem dX9_take_68 : decode cX9_take 68 = .ok (.getfield 61, 3) := by decide +kernel
theorem dX9_take_71 : decode cX9_take 71 = .ok (.iload_n 1, 1) := by decide +kernel
theorem dX9_take_72 : decode cX9_take 72 = .ok (.iconst 1, 1) := by decide +kernel
theorem dX9_take_73 : decode cX9_take 73 = .ok (.iadd, 1) := by decide +kernel
theorem dX9_take_74 : decode cX9_take 74 = .ok (.iaload, 1) := by decide +kernel
theorem dX9_take_75 : decode cX9_take 75 = .ok (.if_icmp .ge 58, 3) := by decide +kernel
theorem dX9_take_78 : decode cX9_take 78 = .ok (.aload_n 0, 1) := by decide +kernel
theorem dX9_take_79 : decode cX9_take 79 = .ok (.getfield 50, 3) := by decide +kernel
theorem dX9_take_82 : decode cX9_take 82 = .ok (.getfield 85, 3) := by decide +kernel
theorem dX9_take_85 : decode cX9_take 85 = .ok (.iload_n 3, 1) := by decide +kernel
theorem dX9_take_86 : decode cX9_take 86 = .ok (.iaload, 1) := by decide +kernel
theorem dX9_take_87 : decode cX9_take 87 = .ok (.istore 4, 2) := by decide +kernel
theorem dX9_take_89 : decode cX9_take 89 = .ok (.aload_n 0, 1) := by decide +kernel
theorem dX9_take_90 : decode cX9_take 90 = .ok (.getfield 9, 3) := by decide +kernel
theorem dX9_take_93 : decode cX9_take 93 = .ok (.iload 4, 2) := by decide +kernel
theorem dX9_take_95 : decode cX9_take 95 = .ok (.aload_n 0, 1) := by decide +kernel
theorem dX9_take_96 : decode cX9_take 96 = .ok (.getfield 44, 3) := by decide +kernel
theorem dX9_take_99 : decode cX9_take 99 = .ok (.aload_n 0, 1) := by decide +kernel
theorem dX9_take_100 : decode cX9_take 100 = .ok (.getfield 27, 3) := by decide +kernel
theorem dX9_take_103 : decode cX9_take 103 = .ok (.iload 4, 2) := by decide +kernel
theorem dX9_take_105 : decode cX9_take 105 = .ok (.iaload, 1) := by decide +kernel
theorem dX9_take_106 : decode cX9_take 106 = .ok (.iaload, 1) := by decide +kernel
theorem dX9_take_107 : decode cX9_take 107 = .ok (.iastore, 1) := by decide +kernel
theorem dX9_take_108 : decode cX9_take 108 = .ok (.aload_n 0, 1) := by decide +kernel
theorem dX9_take_109 : decode cX9_take 109 = .ok (.getfield 15, 3) := by decide +kernel
theorem dX9_take_112 : decode cX9_take 112 = .ok (.iload 4, 2) := by decide +kernel
theorem dX9_take_114 : decode cX9_take 114 = .ok (.aload_n 0, 1) := by decide +kernel
theorem dX9_take_115 : decode cX9_take 115 = .ok (.getfield 47, 3) := by decide +kernel
theorem dX9_take_118 : decode cX9_take 118 = .ok (.aload_n 0, 1) := by decide +kernel
theorem dX9_take_119 : decode cX9_take 119 = .ok (.getfield 27, 3) := by decide +kernel
theorem dX9_take_122 : decode cX9_take 122 = .ok (.iload 4, 2) := by decide +kernel
theorem dX9_take_124 : decode cX9_take 124 = .ok (.iaload, 1) := by decide +kernel
theorem dX9_take_125 : decode cX9_take 125 = .ok (.iaload, 1) := by decide +kernel
theorem dX9_take_126 : decode cX9_take 126 = .ok (.iastore, 1) := by decide +kernel
theorem dX9_take_127 : decode cX9_take 127 = .ok (.iinc 3 1, 3) := by decide +kernel
theorem dX9_take_130 : decode cX9_take 130 = .ok (.goto (-67), 3) := by decide +kernel
theorem dX9_take_133 : decode cX9_take 133 = .ok (.return_, 1) := by decide +kernel
theorem q_X9_tallyStart : yX9_tallyStart.cls = RX9 ∧ yX9_tallyStart.cls ≠ "java/lang/invoke/MethodHandle" ∧ yX9_tallyStart.cls ≠ "java/lang/invoke/VarHandle" ∧ (parseMethodDescriptor yX9_tallyStart.desc).map (fun d => d.parameters.length) = some 1 := ⟨rfl, by decide, by decide, by decide +kernel⟩
theorem q_X9_listLinks : yX9_listLinks.cls = RX9 ∧ yX9_listLinks.cls ≠ "java/lang/invoke/MethodHandle" ∧ yX9_listLinks.cls ≠ "java/lang/invoke/VarHandle" ∧ (parseMethodDescriptor yX9_listLinks.desc).map (fun d => d.parameters.length) = some 1 := ⟨rfl, by decide, by decide, by decide +kernel⟩
theorem q_X9_hasLinksOfTheLast : yX9_hasLinksOfTheLast.cls = RX9 ∧ yX9_hasLinksOfTheLast.cls ≠ "java/lang/invoke/MethodHandle" ∧ yX9_hasLinksOfTheLast.cls ≠ "java/lang/invoke/VarHandle" ∧ (parseMethodDescriptor yX9_hasLinksOfTheLast.desc).map (fun d => d.parameters.length) = some 2 := ⟨rfl, by decide, by decide, by decide +kernel⟩
theorem q_X9_groupLikeTheLast : yX9_groupLikeTheLast.cls = RX9 ∧ yX9_groupLikeTheLast.cls ≠ "java/lang/invoke/MethodHandle" ∧ yX9_groupLikeTheLast.cls ≠ "java/lang/invoke/VarHandle" ∧ (parseMethodDescriptor yX9_groupLikeTheLast.desc).map (fun d => d.parameters.length) = some 0 := ⟨rfl, by decide, by decide, by decide +kernel⟩
theorem q_X9_formGroups : yX9_formGroups.cls = RX9 ∧ yX9_formGroups.cls ≠ "java/lang/invoke/MethodHandle" ∧ yX9_formGroups.cls ≠ "java/lang/invoke/VarHandle" ∧ (parseMethodDescriptor yX9_formGroups.desc).map (fun d => d.parameters.length) = some 0 := ⟨rfl, by decide, by decide, by decide +kernel⟩
theorem q_X9_clear : yX9_clear.cls = RX9 ∧ yX9_clear.cls ≠ "java/lang/invoke/MethodHandle" ∧ yX9_clear.cls ≠ "java/lang/invoke/VarHandle" ∧ (parseMethodDescriptor yX9_clear.desc).map (fun d => d.parameters.length) = some 0 := ⟨rfl, by decide, by decide, by decide +kernel⟩
theorem q_X9_assign : yX9_assign.cls = RX9 ∧ yX9_assign.cls ≠ "java/lang/invoke/MethodHandle" ∧ yX9_assign.cls ≠ "java/lang/invoke/VarHandle" ∧ (parseMethodDescriptor yX9_assign.desc).map (fun d => d.parameters.length) = some 3 := ⟨rfl, by decide, by decide, by decide +kernel⟩
theorem q_X9_record : yX9_record.cls = RX9 ∧ yX9_record.cls ≠ "java/lang/invoke/MethodHandle" ∧ yX9_record.cls ≠ "java/lang/invoke/VarHandle" ∧ (parseMethodDescriptor yX9_record.desc).map (fun d => d.parameters.length) = some 2 := ⟨rfl, by decide, by decide, by decide +kernel⟩
theorem q_X9_place : yX9_place.cls = RX9 ∧ yX9_place.cls ≠ "java/lang/invoke/MethodHandle" ∧ yX9_place.cls ≠ "java/lang/invoke/VarHandle" ∧ (parseMethodDescriptor yX9_place.desc).map (fun d => d.parameters.length) = some 3 := ⟨rfl, by decide, by decide, by decide +kernel⟩
theorem q_X9_take : yX9_take.cls = RX9 ∧ yX9_take.cls ≠ "java/lang/invoke/MethodHandle" ∧ yX9_take.cls ≠ "java/lang/invoke/VarHandle" ∧ (parseMethodDescriptor yX9_take.desc).map (fun d => d.parameters.length) = some 2 := ⟨rfl, by decide, by decide, by decide +kernel⟩
def P_X9_tallyStart (post : Int → Prop) (B_partStart : Int → Int) (x1 : Int) : Prop :=
  (0 ≤ x1 ∧ x1 < 145) ∧ (∀ v_2 : Int, v_2 = B_partStart x1 → inR v_2 → (inR (v_2 + x1) ∧ (post (v_2 + x1))))
set_option maxRecDepth 100000 in
set_option maxHeartbeats 4000000 in
theorem c_X9_tallyStart (l : Launch) (K : wK) (ad : Nat → Nat) {D_hasBoard : Int} {D_beganBlank : Int} {F_mines : Int} {F_moves : Int} {F_changes : Int} {G_width : Int} {G_height : Int} {G_size : Int} {B_parts : Int} {B_longest : Int} {S_groups : Int} {S_askedGroup : Int} {S_taken : Int} {R_waitingCount : Int} {R_metCount : Int} {A_grade : Int} {A_cell : Int} {A_mined : Int} {A_withTotal : Int} {A_numbers : Int} {X_low : Int} {X_high : Int} {Y_low : Int} {Y_high : Int} {F_mined : Int → Int} {F_number : Int → Int} {F_state : Int → Int} {F_cellsIn : Int → Int} {F_unknownNear : Int → Int} {F_hitNear : Int → Int} {F_moveStart : Int → Int} {F_changed : Int → Int} {F_waiting : Int → Int} {F_seen : Int → Int} {G_near : Int → Int} {G_nearEnd : Int → Int} {B_chosen : Int → Int} {B_partOf : Int → Int} {B_rest : Int → Int} {B_unknowns : Int → Int} {B_partStart : Int → Int} {B_cells : Int → Int} {S_minedSet : Int → Int} {S_safeSet : Int → Int} {S_partSet : Int → Int} {S_tally : Int → Int} {S_askedTally : Int → Int} {S_groupOf : Int → Int} {S_groupSize : Int → Int} {S_links : Int → Int} {S_linkEnd : Int → Int} {S_pick : Int → Int} {S_groupMinedSet : Int → Int} {S_groupSafeSet : Int → Int} {O_sums : Int → Int64} {O_nextSums : Int → Int64} {R_found : Int → Int} {R_openEnds : Int → Int} {R_need : Int → Int} {R_waiting : Int → Int} {R_waits : Int → Int} {R_common : Int → Int} {R_met : Int → Int} {A_number : Int → Int} {Q_mined : Int → Int64} {Q_all : Int → Int64} {Q_choices : Int → Int64} {Q_term : Int → Int64} {Q_divisor : Int → Int64} {Q_spare : Int → Int64} {X_limbs : Int → Int64} {X_sum : Int → Int64} {Y_limbs : Int → Int64} {Y_sum : Int → Int64} (x1 : Int) (rx1 : inR x1) (post : Int → Prop) (h : P_X9_tallyStart post B_partStart x1) : mI l yX9_tallyStart (Cond.code yX9_tallyStart cX9_tallyStart 2 (some .int) :: GT) ({ frames := 2, cells := 0, slots := 0, locals := 120 } : Room) [.ref (ad 4), .int (iI x1)] K ad (dW D_hasBoard D_beganBlank F_mines F_moves F_changes G_width G_height G_size B_parts B_longest S_groups S_askedGroup S_taken R_waitingCount R_metCount A_grade A_cell A_mined A_withTotal A_numbers X_low X_high Y_low Y_high F_mined F_number F_state F_cellsIn F_unknownNear F_hitNear F_moveStart F_changed F_waiting F_seen G_near G_nearEnd B_chosen B_partOf B_rest B_unknowns B_partStart B_cells S_minedSet S_safeSet S_partSet S_tally S_askedTally S_groupOf S_groupSize S_links S_linkEnd S_pick S_groupMinedSet S_groupSafeSet O_sums O_nextSums R_found R_openEnds R_need R_waiting R_waits R_common R_met A_number Q_mined Q_all Q_choices Q_term Q_divisor Q_spare X_limbs X_sum Y_limbs Y_sum) (fun z9 u9 => u9 = (dW D_hasBoard D_beganBlank F_mines F_moves F_changes G_width G_height G_size B_parts B_longest S_groups S_askedGroup S_taken R_waitingCount R_metCount A_grade A_cell A_mined A_withTotal A_numbers X_low X_high Y_low Y_high F_mined F_number F_state F_cellsIn F_unknownNear F_hitNear F_moveStart F_changed F_waiting F_seen G_near G_nearEnd B_chosen B_partOf B_rest B_unknowns B_partStart B_cells S_minedSet S_safeSet S_partSet S_tally S_askedTally S_groupOf S_groupSize S_links S_linkEnd S_pick S_groupMinedSet S_groupSafeSet O_sums O_nextSums R_found R_openEnds R_need R_waiting R_waits R_common R_met A_number Q_mined Q_all Q_choices Q_term Q_divisor Q_spare X_limbs X_sum Y_limbs Y_sum) ∧ post z9) := by
  refine mI_of (lv0 := [(0, .ref (ad 4)), (1, .int (iI x1))]) (by decide) (Nat.le_of_ble_eq_true rfl) rfl ?_
  intro p e s m args below meth c Q A C ret
  replace C : Cx p ({ frames := 2, cells := 0, slots := 0, locals := 120 } : Room) m c 0 0 cX9_tallyStart 2 s args RX9 K A := C
  unfold P_X9_tallyStart at h
  refine wa_aload_n C 0 rfl dX9_tallyStart_0 rfl ?_
  refine wa_getR C 4 5 dW_4 rfl rfl (by decide) okX9 gw_218 dX9_tallyStart_1 ?_
  refine wa_getR C 3 6 dW_3 rfl rfl (by decide) okX1 gw_172 dX9_tallyStart_4 ?_
  refine wa_iload_n C 1 rfl dX9_tallyStart_7 rfl ?_
  obtain ⟨t_1, h⟩ := h
  refine wa_iald C 28 dW_28 dX9_tallyStart_8 t_1.1 t_1.2 (fun v_2 ev_2 rv_2 => ?_)
  replace h := h v_2 ev_2 rv_2
  refine wa_iload_n C 1 rfl dX9_tallyStart_9 rfl ?_
  refine wa_iadd C dX9_tallyStart_10 ?_
  obtain ⟨r_3, h⟩ := h
  exact ret dX9_tallyStart_11 r_3 ⟨rfl, h⟩
def P_X9_listLinks (post : (Int → Int) → (Int → Int) → Prop) (S_groups : Int) (G_near : Int → Int) (G_nearEnd : Int → Int) (B_chosen : Int → Int) (S_links : Int → Int) (S_linkEnd : Int → Int) (x1 : Int) : Prop :=
  inR (S_groups * 8) ∧ (∀ x2_3 : Int, x2_3 = (S_groups * 8) → (inR (x1 * 8) ∧ (∀ x3_5 : Int, x3_5 = (x1 * 8) → (∃ Inv_6 : Nat → (Int) → (Int) → (Int → Int) → Prop, (∃ n_7 : Nat, Inv_6 n_7 x2_3 x3_5 S_links) ∧ ∀ (n_8 : Nat) (x2_11 : Int) (x3_12 : Int) (S_links_13 : Int → Int), inR x2_11 → inR x3_12 → Inv_6 n_8 x2_11 x3_12 S_links_13 → ((0 ≤ x1 ∧ x1 < 144) ∧ (∀ v_15 : Int, v_15 = G_nearEnd x1 → inR v_15 → ((v_15 ≤ x3_12 → ((0 ≤ S_groups ∧ S_groups < 17) ∧ (∀ S_linkEnd_19 : Int → Int, S_linkEnd_19 = upZ S_linkEnd S_groups x2_11 → (post S_links_13 S_linkEnd_19)))) ∧ (¬ v_15 ≤ x3_12 → ((0 ≤ x3_12 ∧ x3_12 < 1152) ∧ (∀ v_21 : Int, v_21 = G_near x3_12 → inR v_21 → ((0 ≤ v_21 ∧ v_21 < 144) ∧ (∀ v_23 : Int, v_23 = B_chosen v_21 → (v_23 = 0 ∨ v_23 = 1) → (∃ J_24 : (Int) → (Int → Int) → Prop, ((v_23 = 0 → (J_24 x2_11 S_links_13)) ∧ (¬ v_23 = 0 → ((0 ≤ x3_12 ∧ x3_12 < 1152) ∧ (∀ v_33 : Int, v_33 = G_near x3_12 → inR v_33 → ((0 ≤ x2_11 ∧ x2_11 < 136) ∧ (∀ S_links_35 : Int → Int, S_links_35 = upZ S_links_13 x2_11 v_33 → (inR (x2_11 + 1) ∧ (∀ x2_37 : Int, x2_37 = (x2_11 + 1) → (J_24 x2_37 S_links_35))))))))) ∧ (∀ (x2_26 : Int) (S_links_27 : Int → Int), inR x2_26 → J_24 x2_26 S_links_27 → (inR (x3_12 + 1) ∧ (∀ x3_29 : Int, x3_29 = (x3_12 + 1) → (∃ n_30 : Nat, n_30 < n_8 ∧ Inv_6 n_30 x2_26 x3_29 S_links_27)))))))))))))))))
set_option maxRecDepth 100000 in
set_option maxHeartbeats 4000000 in
theorem c_X9_listLinks (l : Launch) (K : wK) (ad : Nat → Nat) {D_hasBoard : Int} {D_beganBlank : Int} {F_mines : Int} {F_moves : Int} {F_changes : Int} {G_width : Int} {G_height : Int} {G_size : Int} {B_parts : Int} {B_longest : Int} {S_groups : Int} {S_askedGroup : Int} {S_taken : Int} {R_waitingCount : Int} {R_metCount : Int} {A_grade : Int} {A_cell : Int} {A_mined : Int} {A_withTotal : Int} {A_numbers : Int} {X_low : Int} {X_high : Int} {Y_low : Int} {Y_high : Int} {F_mined : Int → Int} {F_number : Int → Int} {F_state : Int → Int} {F_cellsIn : Int → Int} {F_unknownNear : Int → Int} {F_hitNear : Int → Int} {F_moveStart : Int → Int} {F_changed : Int → Int} {F_waiting : Int → Int} {F_seen : Int → Int} {G_near : Int → Int} {G_nearEnd : Int → Int} {B_chosen : Int → Int} {B_partOf : Int → Int} {B_rest : Int → Int} {B_unknowns : Int → Int} {B_partStart : Int → Int} {B_cells : Int → Int} {S_minedSet : Int → Int} {S_safeSet : Int → Int} {S_partSet : Int → Int} {S_tally : Int → Int} {S_askedTally : Int → Int} {S_groupOf : Int → Int} {S_groupSize : Int → Int} {S_links : Int → Int} {S_linkEnd : Int → Int} {S_pick : Int → Int} {S_groupMinedSet : Int → Int} {S_groupSafeSet : Int → Int} {O_sums : Int → Int64} {O_nextSums : Int → Int64} {R_found : Int → Int} {R_openEnds : Int → Int} {R_need : Int → Int} {R_waiting : Int → Int} {R_waits : Int → Int} {R_common : Int → Int} {R_met : Int → Int} {A_number : Int → Int} {Q_mined : Int → Int64} {Q_all : Int → Int64} {Q_choices : Int → Int64} {Q_term : Int → Int64} {Q_divisor : Int → Int64} {Q_spare : Int → Int64} {X_limbs : Int → Int64} {X_sum : Int → Int64} {Y_limbs : Int → Int64} {Y_sum : Int → Int64} (x1 : Int) (rx1 : inR x1) (post : (Int → Int) → (Int → Int) → Prop) (h : P_X9_listLinks post S_groups G_near G_nearEnd B_chosen S_links S_linkEnd x1) : mV l yX9_listLinks (Cond.code yX9_listLinks cX9_listLinks 4 none :: GT) ({ frames := 2, cells := 0, slots := 0, locals := 120 } : Room) [.ref (ad 4), .int (iI x1)] K ad (dW D_hasBoard D_beganBlank F_mines F_moves F_changes G_width G_height G_size B_parts B_longest S_groups S_askedGroup S_taken R_waitingCount R_metCount A_grade A_cell A_mined A_withTotal A_numbers X_low X_high Y_low Y_high F_mined F_number F_state F_cellsIn F_unknownNear F_hitNear F_moveStart F_changed F_waiting F_seen G_near G_nearEnd B_chosen B_partOf B_rest B_unknowns B_partStart B_cells S_minedSet S_safeSet S_partSet S_tally S_askedTally S_groupOf S_groupSize S_links S_linkEnd S_pick S_groupMinedSet S_groupSafeSet O_sums O_nextSums R_found R_openEnds R_need R_waiting R_waits R_common R_met A_number Q_mined Q_all Q_choices Q_term Q_divisor Q_spare X_limbs X_sum Y_limbs Y_sum) (fun u9 => ∃ S_links9 S_linkEnd9, u9 = (dW D_hasBoard D_beganBlank F_mines F_moves F_changes G_width G_height G_size B_parts B_longest S_groups S_askedGroup S_taken R_waitingCount R_metCount A_grade A_cell A_mined A_withTotal A_numbers X_low X_high Y_low Y_high F_mined F_number F_state F_cellsIn F_unknownNear F_hitNear F_moveStart F_changed F_waiting F_seen G_near G_nearEnd B_chosen B_partOf B_rest B_unknowns B_partStart B_cells S_minedSet S_safeSet S_partSet S_tally S_askedTally S_groupOf S_groupSize S_links9 S_linkEnd9 S_pick S_groupMinedSet S_groupSafeSet O_sums O_nextSums R_found R_openEnds R_need R_waiting R_waits R_common R_met A_number Q_mined Q_all Q_choices Q_term Q_divisor Q_spare X_limbs X_sum Y_limbs Y_sum) ∧ post S_links9 S_linkEnd9) := by
  refine mV_of (lv0 := [(0, .ref (ad 4)), (1, .int (iI x1))]) (by decide) (Nat.le_of_ble_eq_true rfl) rfl ?_
  intro p e s m args below meth c Q A C ret
  replace C : Cx p ({ frames := 2, cells := 0, slots := 0, locals := 120 } : Room) m c 0 0 cX9_listLinks 4 s args RX9 K A := C
  unfold P_X9_listLinks at h
  refine wa_aload_n C 0 rfl dX9_listLinks_0 rfl ?_
  refine wa_getI C 4 14 dW_4 rfl rfl (by decide) okX9 gw_227 dX9_listLinks_1 (fun r_1 => ?_)
  refine wa_bipush C (z := 8) dX9_listLinks_4 (by decide) ?_
  refine wa_imul C dX9_listLinks_6 ?_
  obtain ⟨r_2, h⟩ := h
  refine wa_nmi (fun x2_3 ex2_3 => ?_)
  replace h := h x2_3 ex2_3
  have rx2_3 : inR x2_3 := by rw [ex2_3]; exact r_2
  refine wa_istore_n C dX9_listLinks_7 rfl (by decide) rfl ?_
  refine wa_iload_n C 2 rfl dX9_listLinks_8 rfl ?_
  refine wa_bipush C (z := 8) dX9_listLinks_9 (by decide) ?_
  refine wa_imul C dX9_listLinks_11 ?_
  obtain ⟨r_4, h⟩ := h
  refine wa_nmi (fun x3_5 ex3_5 => ?_)
  replace h := h x3_5 ex3_5
  have rx3_5 : inR x3_5 := by rw [ex3_5]; exact r_4
  refine wa_istore_n C dX9_listLinks_12 rfl (by decide) rfl ?_
  obtain ⟨Inv_6, ⟨n_7, h0Inv_6⟩, hInv_6⟩ := h
  have k_10 : ∀ (n_8 : Nat) (x2_11 : Int) (x3_12 : Int) (S_links_13 : Int → Int), inR x2_11 → inR x3_12 → Inv_6 n_8 x2_11 x3_12 S_links_13 → WA p l e ({ frames := 2, cells := 0, slots := 0, locals := 120 } : Room) s m args below meth c 0 0 Q K ad 4 A 13 [(0, .ref (ad 4)), (1, .int (iI x1)), (2, .int (iI x2_11)), (3, .int (iI x3_12))] [] (dW D_hasBoard D_beganBlank F_mines F_moves F_changes G_width G_height G_size B_parts B_longest S_groups S_askedGroup S_taken R_waitingCount R_metCount A_grade A_cell A_mined A_withTotal A_numbers X_low X_high Y_low Y_high F_mined F_number F_state F_cellsIn F_unknownNear F_hitNear F_moveStart F_changed F_waiting F_seen G_near G_nearEnd B_chosen B_partOf B_rest B_unknowns B_partStart B_cells S_minedSet S_safeSet S_partSet S_tally S_askedTally S_groupOf S_groupSize S_links_13 S_linkEnd S_pick S_groupMinedSet S_groupSafeSet O_sums O_nextSums R_found R_openEnds R_need R_waiting R_waits R_common R_met A_number Q_mined Q_all Q_choices Q_term Q_divisor Q_spare X_limbs X_sum Y_limbs Y_sum) := by
    intro n_8
    induction n_8 using Nat.strongRecOn with
    | ind n_8 ih_9 =>
      intro x2_11 x3_12 S_links_13 rx2_11 rx3_12 h
      replace h := hInv_6 n_8 x2_11 x3_12 S_links_13 rx2_11 rx3_12 h
      refine wa_iload_n C 3 rfl dX9_listLinks_13 rfl ?_
      refine wa_aload_n C 0 rfl dX9_listLinks_14 rfl ?_
      refine wa_getR C 4 6 dW_4 rfl rfl (by decide) okX9 gw_219 dX9_listLinks_15 ?_
      refine wa_getR C 2 4 dW_2 rfl rfl (by decide) okX3 gw_66 dX9_listLinks_18 ?_
      refine wa_iload_n C 1 rfl dX9_listLinks_21 rfl ?_
      obtain ⟨t_14, h⟩ := h
      refine wa_iald C 23 dW_23 dX9_listLinks_22 t_14.1 t_14.2 (fun v_15 ev_15 rv_15 => ?_)
      replace h := h v_15 ev_15 rv_15
      refine wa_icmp_ge C (tgt := 70) rx3_12 rv_15 dX9_listLinks_23 (by decide) (fun c_16 => ?_) (fun c_16 => ?_)
      · replace h := h.1 c_16
        refine wa_aload_n C 0 rfl dX9_listLinks_70 rfl ?_
        refine wa_getR C 4 10 dW_4 rfl rfl (by decide) okX9 gw_223 dX9_listLinks_71 ?_
        refine wa_aload_n C 0 rfl dX9_listLinks_74 rfl ?_
        refine wa_getI C 4 14 dW_4 rfl rfl (by decide) okX9 gw_227 dX9_listLinks_75 (fun r_17 => ?_)
        refine wa_iload_n C 2 rfl dX9_listLinks_78 rfl ?_
        obtain ⟨t_18, h⟩ := h
        refine wa_iast C (ws' := fun w9 => (dW D_hasBoard D_beganBlank F_mines F_moves F_changes G_width G_height G_size B_parts B_longest S_groups S_askedGroup S_taken R_waitingCount R_metCount A_grade A_cell A_mined A_withTotal A_numbers X_low X_high Y_low Y_high F_mined F_number F_state F_cellsIn F_unknownNear F_hitNear F_moveStart F_changed F_waiting F_seen G_near G_nearEnd B_chosen B_partOf B_rest B_unknowns B_partStart B_cells S_minedSet S_safeSet S_partSet S_tally S_askedTally S_groupOf S_groupSize S_links_13 w9 S_pick S_groupMinedSet S_groupSafeSet O_sums O_nextSums R_found R_openEnds R_need R_waiting R_waits R_common R_met A_number Q_mined Q_all Q_choices Q_term Q_divisor Q_spare X_limbs X_sum Y_limbs Y_sum)) 38 dW_38 dX9_listLinks_79 t_18.1 t_18.2 rx2_11 dWs_38 (fun S_linkEnd_19 eS_linkEnd_19 => ?_)
        replace h := h S_linkEnd_19 eS_linkEnd_19
        exact ret dX9_listLinks_80 ⟨_, _, rfl, h⟩
      · replace h := h.2 c_16
        refine wa_aload_n C 0 rfl dX9_listLinks_26 rfl ?_
        refine wa_getR C 4 5 dW_4 rfl rfl (by decide) okX9 gw_218 dX9_listLinks_27 ?_
        refine wa_getR C 3 2 dW_3 rfl rfl (by decide) okX1 gw_162 dX9_listLinks_30 ?_
        refine wa_aload_n C 0 rfl dX9_listLinks_33 rfl ?_
        refine wa_getR C 4 6 dW_4 rfl rfl (by decide) okX9 gw_219 dX9_listLinks_34 ?_
        refine wa_getR C 2 3 dW_2 rfl rfl (by decide) okX3 gw_60 dX9_listLinks_37 ?_
        refine wa_iload_n C 3 rfl dX9_listLinks_40 rfl ?_
        obtain ⟨t_20, h⟩ := h
        refine wa_iald C 22 dW_22 dX9_listLinks_41 t_20.1 t_20.2 (fun v_21 ev_21 rv_21 => ?_)
        replace h := h v_21 ev_21 rv_21
        obtain ⟨t_22, h⟩ := h
        refine wa_bald C 24 dW_24 dX9_listLinks_42 t_22.1 t_22.2 (fun v_23 ev_23 rv_23 => ?_)
        replace h := h v_23 ev_23 rv_23
        obtain ⟨J_24, h, hJ_24⟩ := h
        have k_25 : ∀ (x2_26 : Int) (S_links_27 : Int → Int), inR x2_26 → J_24 x2_26 S_links_27 → WA p l e ({ frames := 2, cells := 0, slots := 0, locals := 120 } : Room) s m args below meth c 0 0 Q K ad 4 A 64 [(0, .ref (ad 4)), (1, .int (iI x1)), (2, .int (iI x2_26)), (3, .int (iI x3_12))] [] (dW D_hasBoard D_beganBlank F_mines F_moves F_changes G_width G_height G_size B_parts B_longest S_groups S_askedGroup S_taken R_waitingCount R_metCount A_grade A_cell A_mined A_withTotal A_numbers X_low X_high Y_low Y_high F_mined F_number F_state F_cellsIn F_unknownNear F_hitNear F_moveStart F_changed F_waiting F_seen G_near G_nearEnd B_chosen B_partOf B_rest B_unknowns B_partStart B_cells S_minedSet S_safeSet S_partSet S_tally S_askedTally S_groupOf S_groupSize S_links_27 S_linkEnd S_pick S_groupMinedSet S_groupSafeSet O_sums O_nextSums R_found R_openEnds R_need R_waiting R_waits R_common R_met A_number Q_mined Q_all Q_choices Q_term Q_divisor Q_spare X_limbs X_sum Y_limbs Y_sum) := by
          intro x2_26 S_links_27 rx2_26 h
          replace h := hJ_24 x2_26 S_links_27 rx2_26 h
          obtain ⟨r_28, h⟩ := h
          refine wa_iinc C (lv' := fun w9 => [(3, .int (iI w9)), (0, .ref (ad 4)), (1, .int (iI x1)), (2, .int (iI x2_26))]) 3 rfl dX9_listLinks_64 (by decide) (fun _ => rfl) (fun x3_29 ex3_29 => ?_)
          replace h := h x3_29 ex3_29
          have rx3_29 : inR x3_29 := by rw [ex3_29]; exact r_28
          refine wa_goto C (tgt := 13) dX9_listLinks_67 (by decide) ?_
          obtain ⟨n_30, ln_30, h⟩ := h
          refine wa_sub C [1, 2, 3, 0] rfl ?_
          exact ih_9 n_30 ln_30 x2_26 x3_29 S_links_27 rx2_26 rx3_29 h
        refine wa_if_eq C (tgt := 64) (inR_b rv_23) dX9_listLinks_43 (by decide) (fun c_31 => ?_) (fun c_31 => ?_)
        · replace h := h.1 c_31
          refine wa_sub C [0, 1, 2, 3] rfl ?_
          exact k_25 x2_11 S_links_13 rx2_11 h
        · replace h := h.2 c_31
          refine wa_aload_n C 0 rfl dX9_listLinks_46 rfl ?_
          refine wa_getR C 4 9 dW_4 rfl rfl (by decide) okX9 gw_222 dX9_listLinks_47 ?_
          refine wa_iload_n C 2 rfl dX9_listLinks_50 rfl ?_
          refine wa_aload_n C 0 rfl dX9_listLinks_51 rfl ?_
          refine wa_getR C 4 6 dW_4 rfl rfl (by decide) okX9 gw_219 dX9_listLinks_52 ?_
          refine wa_getR C 2 3 dW_2 rfl rfl (by decide) okX3 gw_60 dX9_listLinks_55 ?_
          refine wa_iload_n C 3 rfl dX9_listLinks_58 rfl ?_
          obtain ⟨t_32, h⟩ := h
          refine wa_iald C 22 dW_22 dX9_listLinks_59 t_32.1 t_32.2 (fun v_33 ev_33 rv_33 => ?_)
          replace h := h v_33 ev_33 rv_33
          obtain ⟨t_34, h⟩ := h
          refine wa_iast C (ws' := fun w9 => (dW D_hasBoard D_beganBlank F_mines F_moves F_changes G_width G_height G_size B_parts B_longest S_groups S_askedGroup S_taken R_waitingCount R_metCount A_grade A_cell A_mined A_withTotal A_numbers X_low X_high Y_low Y_high F_mined F_number F_state F_cellsIn F_unknownNear F_hitNear F_moveStart F_changed F_waiting F_seen G_near G_nearEnd B_chosen B_partOf B_rest B_unknowns B_partStart B_cells S_minedSet S_safeSet S_partSet S_tally S_askedTally S_groupOf S_groupSize w9 S_linkEnd S_pick S_groupMinedSet S_groupSafeSet O_sums O_nextSums R_found R_openEnds R_need R_waiting R_waits R_common R_met A_number Q_mined Q_all Q_choices Q_term Q_divisor Q_spare X_limbs X_sum Y_limbs Y_sum)) 37 dW_37 dX9_listLinks_60 t_34.1 t_34.2 rv_33 dWs_37 (fun S_links_35 eS_links_35 => ?_)
          replace h := h S_links_35 eS_links_35
          obtain ⟨r_36, h⟩ := h
          refine wa_iinc C (lv' := fun w9 => [(2, .int (iI w9)), (0, .ref (ad 4)), (1, .int (iI x1)), (3, .int (iI x3_12))]) 2 rfl dX9_listLinks_61 (by decide) (fun _ => rfl) (fun x2_37 ex2_37 => ?_)
          replace h := h x2_37 ex2_37
          have rx2_37 : inR x2_37 := by rw [ex2_37]; exact r_36
          refine wa_sub C [1, 2, 0, 3] rfl ?_
          exact k_25 x2_37 S_links_35 rx2_37 h
  refine wa_sub C [2, 3, 1, 0] rfl ?_
  exact k_10 n_7 x2_3 x3_5 S_links rx2_3 rx3_5 h0Inv_6
def P_X9_hasLinksOfTheLast (post : Int → Prop) (S_groups : Int) (S_links : Int → Int) (x1 : Int) (x2 : Int) : Prop :=
  ∃ Inv_1 : Nat → (Int) → Prop, (∃ n_2 : Nat, Inv_1 n_2 0) ∧ ∀ (n_3 : Nat) (x3_6 : Int), inR x3_6 → Inv_1 n_3 x3_6 → ((x2 ≤ x3_6 → (post 1)) ∧ (¬ x2 ≤ x3_6 → ((0 ≤ ((x1 * 8) + x3_6) ∧ ((x1 * 8) + x3_6) < 136) ∧ (∀ v_9 : Int, v_9 = S_links ((x1 * 8) + x3_6) → inR v_9 → ((0 ≤ ((S_groups * 8) + x3_6) ∧ ((S_groups * 8) + x3_6) < 136) ∧ (∀ v_12 : Int, v_12 = S_links ((S_groups * 8) + x3_6) → inR v_12 → ((v_9 = v_12 → (inR (x3_6 + 1) ∧ (∀ x3_15 : Int, x3_15 = (x3_6 + 1) → (∃ n_16 : Nat, n_16 < n_3 ∧ Inv_1 n_16 x3_15)))) ∧ (¬ v_9 = v_12 → (post 0)))))))))
set_option maxRecDepth 100000 in
set_option maxHeartbeats 4000000 in
theorem c_X9_hasLinksOfTheLast (l : Launch) (K : wK) (ad : Nat → Nat) {D_hasBoard : Int} {D_beganBlank : Int} {F_mines : Int} {F_moves : Int} {F_changes : Int} {G_width : Int} {G_height : Int} {G_size : Int} {B_parts : Int} {B_longest : Int} {S_groups : Int} {S_askedGroup : Int} {S_taken : Int} {R_waitingCount : Int} {R_metCount : Int} {A_grade : Int} {A_cell : Int} {A_mined : Int} {A_withTotal : Int} {A_numbers : Int} {X_low : Int} {X_high : Int} {Y_low : Int} {Y_high : Int} {F_mined : Int → Int} {F_number : Int → Int} {F_state : Int → Int} {F_cellsIn : Int → Int} {F_unknownNear : Int → Int} {F_hitNear : Int → Int} {F_moveStart : Int → Int} {F_changed : Int → Int} {F_waiting : Int → Int} {F_seen : Int → Int} {G_near : Int → Int} {G_nearEnd : Int → Int} {B_chosen : Int → Int} {B_partOf : Int → Int} {B_rest : Int → Int} {B_unknowns : Int → Int} {B_partStart : Int → Int} {B_cells : Int → Int} {S_minedSet : Int → Int} {S_safeSet : Int → Int} {S_partSet : Int → Int} {S_tally : Int → Int} {S_askedTally : Int → Int} {S_groupOf : Int → Int} {S_groupSize : Int → Int} {S_links : Int → Int} {S_linkEnd : Int → Int} {S_pick : Int → Int} {S_groupMinedSet : Int → Int} {S_groupSafeSet : Int → Int} {O_sums : Int → Int64} {O_nextSums : Int → Int64} {R_found : Int → Int} {R_openEnds : Int → Int} {R_need : Int → Int} {R_waiting : Int → Int} {R_waits : Int → Int} {R_common : Int → Int} {R_met : Int → Int} {A_number : Int → Int} {Q_mined : Int → Int64} {Q_all : Int → Int64} {Q_choices : Int → Int64} {Q_term : Int → Int64} {Q_divisor : Int → Int64} {Q_spare : Int → Int64} {X_limbs : Int → Int64} {X_sum : Int → Int64} {Y_limbs : Int → Int64} {Y_sum : Int → Int64} (x1 : Int) (x2 : Int) (rx1 : inR x1) (rx2 : inR x2) (post : Int → Prop) (h : P_X9_hasLinksOfTheLast post S_groups S_links x1 x2) : mI l yX9_hasLinksOfTheLast (Cond.code yX9_hasLinksOfTheLast cX9_hasLinksOfTheLast 4 (some .boolean) :: GT) ({ frames := 2, cells := 0, slots := 0, locals := 120 } : Room) [.ref (ad 4), .int (iI x1), .int (iI x2)] K ad (dW D_hasBoard D_beganBlank F_mines F_moves F_changes G_width G_height G_size B_parts B_longest S_groups S_askedGroup S_taken R_waitingCount R_metCount A_grade A_cell A_mined A_withTotal A_numbers X_low X_high Y_low Y_high F_mined F_number F_state F_cellsIn F_unknownNear F_hitNear F_moveStart F_changed F_waiting F_seen G_near G_nearEnd B_chosen B_partOf B_rest B_unknowns B_partStart B_cells S_minedSet S_safeSet S_partSet S_tally S_askedTally S_groupOf S_groupSize S_links S_linkEnd S_pick S_groupMinedSet S_groupSafeSet O_sums O_nextSums R_found R_openEnds R_need R_waiting R_waits R_common R_met A_number Q_mined Q_all Q_choices Q_term Q_divisor Q_spare X_limbs X_sum Y_limbs Y_sum) (fun z9 u9 => (z9 = 0 ∨ z9 = 1) ∧ u9 = (dW D_hasBoard D_beganBlank F_mines F_moves F_changes G_width G_height G_size B_parts B_longest S_groups S_askedGroup S_taken R_waitingCount R_metCount A_grade A_cell A_mined A_withTotal A_numbers X_low X_high Y_low Y_high F_mined F_number F_state F_cellsIn F_unknownNear F_hitNear F_moveStart F_changed F_waiting F_seen G_near G_nearEnd B_chosen B_partOf B_rest B_unknowns B_partStart B_cells S_minedSet S_safeSet S_partSet S_tally S_askedTally S_groupOf S_groupSize S_links S_linkEnd S_pick S_groupMinedSet S_groupSafeSet O_sums O_nextSums R_found R_openEnds R_need R_waiting R_waits R_common R_met A_number Q_mined Q_all Q_choices Q_term Q_divisor Q_spare X_limbs X_sum Y_limbs Y_sum) ∧ post z9) := by
  refine mZ_of (lv0 := [(0, .ref (ad 4)), (1, .int (iI x1)), (2, .int (iI x2))]) (by decide) (Nat.le_of_ble_eq_true rfl) rfl ?_
  intro p e s m args below meth c Q A C ret
  replace C : Cx p ({ frames := 2, cells := 0, slots := 0, locals := 120 } : Room) m c 0 0 cX9_hasLinksOfTheLast 4 s args RX9 K A := C
  unfold P_X9_hasLinksOfTheLast at h
  refine wa_iconst C (z := 0) dX9_hasLinksOfTheLast_0 rfl ?_
  refine wa_istore_n C dX9_hasLinksOfTheLast_1 rfl (by decide) rfl ?_
  obtain ⟨Inv_1, ⟨n_2, h0Inv_1⟩, hInv_1⟩ := h
  have k_5 : ∀ (n_3 : Nat) (x3_6 : Int), inR x3_6 → Inv_1 n_3 x3_6 → WA p l e ({ frames := 2, cells := 0, slots := 0, locals := 120 } : Room) s m args below meth c 0 0 Q K ad 4 A 2 [(0, .ref (ad 4)), (1, .int (iI x1)), (2, .int (iI x2)), (3, .int (iI x3_6))] [] (dW D_hasBoard D_beganBlank F_mines F_moves F_changes G_width G_height G_size B_parts B_longest S_groups S_askedGroup S_taken R_waitingCount R_metCount A_grade A_cell A_mined A_withTotal A_numbers X_low X_high Y_low Y_high F_mined F_number F_state F_cellsIn F_unknownNear F_hitNear F_moveStart F_changed F_waiting F_seen G_near G_nearEnd B_chosen B_partOf B_rest B_unknowns B_partStart B_cells S_minedSet S_safeSet S_partSet S_tally S_askedTally S_groupOf S_groupSize S_links S_linkEnd S_pick S_groupMinedSet S_groupSafeSet O_sums O_nextSums R_found R_openEnds R_need R_waiting R_waits R_common R_met A_number Q_mined Q_all Q_choices Q_term Q_divisor Q_spare X_limbs X_sum Y_limbs Y_sum) := by
    intro n_3
    induction n_3 using Nat.strongRecOn with
    | ind n_3 ih_4 =>
      intro x3_6 rx3_6 h
      replace h := hInv_1 n_3 x3_6 rx3_6 h
      refine wa_iload_n C 3 rfl dX9_hasLinksOfTheLast_2 rfl ?_
      refine wa_iload_n C 2 rfl dX9_hasLinksOfTheLast_3 rfl ?_
      refine wa_icmp_ge C (tgt := 43) rx3_6 rx2 dX9_hasLinksOfTheLast_4 (by decide) (fun c_7 => ?_) (fun c_7 => ?_)
      · replace h := h.1 c_7
        refine wa_iconst C (z := 1) dX9_hasLinksOfTheLast_43 rfl ?_
        exact ret dX9_hasLinksOfTheLast_44 (Or.inr rfl) ⟨(Or.inr rfl), rfl, h⟩
      · replace h := h.2 c_7
        refine wa_aload_n C 0 rfl dX9_hasLinksOfTheLast_7 rfl ?_
        refine wa_getR C 4 9 dW_4 rfl rfl (by decide) okX9 gw_222 dX9_hasLinksOfTheLast_8 ?_
        refine wa_iload_n C 1 rfl dX9_hasLinksOfTheLast_11 rfl ?_
        refine wa_bipush C (z := 8) dX9_hasLinksOfTheLast_12 (by decide) ?_
        refine wa_imul C dX9_hasLinksOfTheLast_14 ?_
        refine wa_iload_n C 3 rfl dX9_hasLinksOfTheLast_15 rfl ?_
        refine wa_iadd C dX9_hasLinksOfTheLast_16 ?_
        obtain ⟨t_8, h⟩ := h
        refine wa_iald C 37 dW_37 dX9_hasLinksOfTheLast_17 t_8.1 t_8.2 (fun v_9 ev_9 rv_9 => ?_)
        replace h := h v_9 ev_9 rv_9
        refine wa_aload_n C 0 rfl dX9_hasLinksOfTheLast_18 rfl ?_
        refine wa_getR C 4 9 dW_4 rfl rfl (by decide) okX9 gw_222 dX9_hasLinksOfTheLast_19 ?_
        refine wa_aload_n C 0 rfl dX9_hasLinksOfTheLast_22 rfl ?_
        refine wa_getI C 4 14 dW_4 rfl rfl (by decide) okX9 gw_227 dX9_hasLinksOfTheLast_23 (fun r_10 => ?_)
        refine wa_bipush C (z := 8) dX9_hasLinksOfTheLast_26 (by decide) ?_
        refine wa_imul C dX9_hasLinksOfTheLast_28 ?_
        refine wa_iload_n C 3 rfl dX9_hasLinksOfTheLast_29 rfl ?_
        refine wa_iadd C dX9_hasLinksOfTheLast_30 ?_
        obtain ⟨t_11, h⟩ := h
        refine wa_iald C 37 dW_37 dX9_hasLinksOfTheLast_31 t_11.1 t_11.2 (fun v_12 ev_12 rv_12 => ?_)
        replace h := h v_12 ev_12 rv_12
        refine wa_icmp_eq C (tgt := 37) rv_9 rv_12 dX9_hasLinksOfTheLast_32 (by decide) (fun c_13 => ?_) (fun c_13 => ?_)
        · replace h := h.1 c_13
          obtain ⟨r_14, h⟩ := h
          refine wa_iinc C (lv' := fun w9 => [(3, .int (iI w9)), (0, .ref (ad 4)), (1, .int (iI x1)), (2, .int (iI x2))]) 3 rfl dX9_hasLinksOfTheLast_37 (by decide) (fun _ => rfl) (fun x3_15 ex3_15 => ?_)
          replace h := h x3_15 ex3_15
          have rx3_15 : inR x3_15 := by rw [ex3_15]; exact r_14
          refine wa_goto C (tgt := 2) dX9_hasLinksOfTheLast_40 (by decide) ?_
          obtain ⟨n_16, ln_16, h⟩ := h
          refine wa_sub C [1, 2, 3, 0] rfl ?_
          exact ih_4 n_16 ln_16 x3_15 rx3_15 h
        · replace h := h.2 c_13
          refine wa_iconst C (z := 0) dX9_hasLinksOfTheLast_35 rfl ?_
          exact ret dX9_hasLinksOfTheLast_36 (Or.inl rfl) ⟨(Or.inl rfl), rfl, h⟩
  refine wa_sub C [1, 2, 3, 0] rfl ?_
  exact k_5 n_2 0 (inR_k 0 rfl) h0Inv_1
def P_X9_groupLikeTheLast (post : Int → Prop) (S_groups : Int) (S_links : Int → Int) (S_linkEnd : Int → Int) : Prop :=
  (0 ≤ S_groups ∧ S_groups < 17) ∧ (∀ v_3 : Int, v_3 = S_linkEnd S_groups → inR v_3 → (inR (v_3 - (S_groups * 8)) ∧ (∀ x1_6 : Int, x1_6 = (v_3 - (S_groups * 8)) → (∃ Inv_7 : Nat → (Int) → Prop, (∃ n_8 : Nat, Inv_7 n_8 0) ∧ ∀ (n_9 : Nat) (x2_12 : Int), inR x2_12 → Inv_7 n_9 x2_12 → ((S_groups ≤ x2_12 → (post S_groups)) ∧ (¬ S_groups ≤ x2_12 → ((0 ≤ x2_12 ∧ x2_12 < 17) ∧ (∀ v_17 : Int, v_17 = S_linkEnd x2_12 → inR v_17 → (inR (v_17 - (x2_12 * 8)) ∧ (∃ J_19 : Prop, ((¬ (v_17 - (x2_12 * 8)) = x1_6 → (J_19)) ∧ ((v_17 - (x2_12 * 8)) = x1_6 → (P_X9_hasLinksOfTheLast (fun (c_25 : Int) => (c_25 = 0 ∨ c_25 = 1) → ((c_25 = 0 → (J_19)) ∧ (¬ c_25 = 0 → (post x2_12)))) S_groups S_links x2_12 x1_6))) ∧ (J_19 → (inR (x2_12 + 1) ∧ (∀ x2_22 : Int, x2_22 = (x2_12 + 1) → (∃ n_23 : Nat, n_23 < n_9 ∧ Inv_7 n_23 x2_22))))))))))))))
set_option maxRecDepth 100000 in
set_option maxHeartbeats 4000000 in
theorem c_X9_groupLikeTheLast (l : Launch) (K : wK) (ad : Nat → Nat) {D_hasBoard : Int} {D_beganBlank : Int} {F_mines : Int} {F_moves : Int} {F_changes : Int} {G_width : Int} {G_height : Int} {G_size : Int} {B_parts : Int} {B_longest : Int} {S_groups : Int} {S_askedGroup : Int} {S_taken : Int} {R_waitingCount : Int} {R_metCount : Int} {A_grade : Int} {A_cell : Int} {A_mined : Int} {A_withTotal : Int} {A_numbers : Int} {X_low : Int} {X_high : Int} {Y_low : Int} {Y_high : Int} {F_mined : Int → Int} {F_number : Int → Int} {F_state : Int → Int} {F_cellsIn : Int → Int} {F_unknownNear : Int → Int} {F_hitNear : Int → Int} {F_moveStart : Int → Int} {F_changed : Int → Int} {F_waiting : Int → Int} {F_seen : Int → Int} {G_near : Int → Int} {G_nearEnd : Int → Int} {B_chosen : Int → Int} {B_partOf : Int → Int} {B_rest : Int → Int} {B_unknowns : Int → Int} {B_partStart : Int → Int} {B_cells : Int → Int} {S_minedSet : Int → Int} {S_safeSet : Int → Int} {S_partSet : Int → Int} {S_tally : Int → Int} {S_askedTally : Int → Int} {S_groupOf : Int → Int} {S_groupSize : Int → Int} {S_links : Int → Int} {S_linkEnd : Int → Int} {S_pick : Int → Int} {S_groupMinedSet : Int → Int} {S_groupSafeSet : Int → Int} {O_sums : Int → Int64} {O_nextSums : Int → Int64} {R_found : Int → Int} {R_openEnds : Int → Int} {R_need : Int → Int} {R_waiting : Int → Int} {R_waits : Int → Int} {R_common : Int → Int} {R_met : Int → Int} {A_number : Int → Int} {Q_mined : Int → Int64} {Q_all : Int → Int64} {Q_choices : Int → Int64} {Q_term : Int → Int64} {Q_divisor : Int → Int64} {Q_spare : Int → Int64} {X_limbs : Int → Int64} {X_sum : Int → Int64} {Y_limbs : Int → Int64} {Y_sum : Int → Int64}   (post : Int → Prop) (h : P_X9_groupLikeTheLast post S_groups S_links S_linkEnd) : mI l yX9_groupLikeTheLast (Cond.code yX9_groupLikeTheLast cX9_groupLikeTheLast 3 (some .int) :: GT) ({ frames := 3, cells := 0, slots := 0, locals := 180 } : Room) [.ref (ad 4)] K ad (dW D_hasBoard D_beganBlank F_mines F_moves F_changes G_width G_height G_size B_parts B_longest S_groups S_askedGroup S_taken R_waitingCount R_metCount A_grade A_cell A_mined A_withTotal A_numbers X_low X_high Y_low Y_high F_mined F_number F_state F_cellsIn F_unknownNear F_hitNear F_moveStart F_changed F_waiting F_seen G_near G_nearEnd B_chosen B_partOf B_rest B_unknowns B_partStart B_cells S_minedSet S_safeSet S_partSet S_tally S_askedTally S_groupOf S_groupSize S_links S_linkEnd S_pick S_groupMinedSet S_groupSafeSet O_sums O_nextSums R_found R_openEnds R_need R_waiting R_waits R_common R_met A_number Q_mined Q_all Q_choices Q_term Q_divisor Q_spare X_limbs X_sum Y_limbs Y_sum) (fun z9 u9 => u9 = (dW D_hasBoard D_beganBlank F_mines F_moves F_changes G_width G_height G_size B_parts B_longest S_groups S_askedGroup S_taken R_waitingCount R_metCount A_grade A_cell A_mined A_withTotal A_numbers X_low X_high Y_low Y_high F_mined F_number F_state F_cellsIn F_unknownNear F_hitNear F_moveStart F_changed F_waiting F_seen G_near G_nearEnd B_chosen B_partOf B_rest B_unknowns B_partStart B_cells S_minedSet S_safeSet S_partSet S_tally S_askedTally S_groupOf S_groupSize S_links S_linkEnd S_pick S_groupMinedSet S_groupSafeSet O_sums O_nextSums R_found R_openEnds R_need R_waiting R_waits R_common R_met A_number Q_mined Q_all Q_choices Q_term Q_divisor Q_spare X_limbs X_sum Y_limbs Y_sum) ∧ post z9) := by
  refine mI_of (lv0 := [(0, .ref (ad 4))]) (by decide) (Nat.le_of_ble_eq_true rfl) rfl ?_
  intro p e s m args below meth c Q A C ret
  replace C : Cx p ({ frames := 3, cells := 0, slots := 0, locals := 180 } : Room) m c 0 0 cX9_groupLikeTheLast 3 s args RX9 K A := C
  unfold P_X9_groupLikeTheLast at h
  refine wa_aload_n C 0 rfl dX9_groupLikeTheLast_0 rfl ?_
  refine wa_getR C 4 10 dW_4 rfl rfl (by decide) okX9 gw_223 dX9_groupLikeTheLast_1 ?_
  refine wa_aload_n C 0 rfl dX9_groupLikeTheLast_4 rfl ?_
  refine wa_getI C 4 14 dW_4 rfl rfl (by decide) okX9 gw_227 dX9_groupLikeTheLast_5 (fun r_1 => ?_)
  obtain ⟨t_2, h⟩ := h
  refine wa_iald C 38 dW_38 dX9_groupLikeTheLast_8 t_2.1 t_2.2 (fun v_3 ev_3 rv_3 => ?_)
  replace h := h v_3 ev_3 rv_3
  refine wa_aload_n C 0 rfl dX9_groupLikeTheLast_9 rfl ?_
  refine wa_getI C 4 14 dW_4 rfl rfl (by decide) okX9 gw_227 dX9_groupLikeTheLast_10 (fun r_4 => ?_)
  refine wa_bipush C (z := 8) dX9_groupLikeTheLast_13 (by decide) ?_
  refine wa_imul C dX9_groupLikeTheLast_15 ?_
  refine wa_isub C dX9_groupLikeTheLast_16 ?_
  obtain ⟨r_5, h⟩ := h
  refine wa_nmi (fun x1_6 ex1_6 => ?_)
  replace h := h x1_6 ex1_6
  have rx1_6 : inR x1_6 := by rw [ex1_6]; exact r_5
  refine wa_istore_n C dX9_groupLikeTheLast_17 rfl (by decide) rfl ?_
  refine wa_iconst C (z := 0) dX9_groupLikeTheLast_18 rfl ?_
  refine wa_istore_n C dX9_groupLikeTheLast_19 rfl (by decide) rfl ?_
  obtain ⟨Inv_7, ⟨n_8, h0Inv_7⟩, hInv_7⟩ := h
  have k_11 : ∀ (n_9 : Nat) (x2_12 : Int), inR x2_12 → Inv_7 n_9 x2_12 → WA p l e ({ frames := 3, cells := 0, slots := 0, locals := 180 } : Room) s m args below meth c 0 0 Q K ad 3 A 20 [(0, .ref (ad 4)), (1, .int (iI x1_6)), (2, .int (iI x2_12))] [] (dW D_hasBoard D_beganBlank F_mines F_moves F_changes G_width G_height G_size B_parts B_longest S_groups S_askedGroup S_taken R_waitingCount R_metCount A_grade A_cell A_mined A_withTotal A_numbers X_low X_high Y_low Y_high F_mined F_number F_state F_cellsIn F_unknownNear F_hitNear F_moveStart F_changed F_waiting F_seen G_near G_nearEnd B_chosen B_partOf B_rest B_unknowns B_partStart B_cells S_minedSet S_safeSet S_partSet S_tally S_askedTally S_groupOf S_groupSize S_links S_linkEnd S_pick S_groupMinedSet S_groupSafeSet O_sums O_nextSums R_found R_openEnds R_need R_waiting R_waits R_common R_met A_number Q_mined Q_all Q_choices Q_term Q_divisor Q_spare X_limbs X_sum Y_limbs Y_sum) := by
    intro n_9
    induction n_9 using Nat.strongRecOn with
    | ind n_9 ih_10 =>
      intro x2_12 rx2_12 h
      replace h := hInv_7 n_9 x2_12 rx2_12 h
      refine wa_iload_n C 2 rfl dX9_groupLikeTheLast_20 rfl ?_
      refine wa_aload_n C 0 rfl dX9_groupLikeTheLast_21 rfl ?_
      refine wa_getI C 4 14 dW_4 rfl rfl (by decide) okX9 gw_227 dX9_groupLikeTheLast_22 (fun r_13 => ?_)
      refine wa_icmp_ge C (tgt := 60) rx2_12 r_1 dX9_groupLikeTheLast_25 (by decide) (fun c_14 => ?_) (fun c_14 => ?_)
      · replace h := h.1 c_14
        refine wa_aload_n C 0 rfl dX9_groupLikeTheLast_60 rfl ?_
        refine wa_getI C 4 14 dW_4 rfl rfl (by decide) okX9 gw_227 dX9_groupLikeTheLast_61 (fun r_15 => ?_)
        exact ret dX9_groupLikeTheLast_64 r_1 ⟨rfl, h⟩
      · replace h := h.2 c_14
        refine wa_aload_n C 0 rfl dX9_groupLikeTheLast_28 rfl ?_
        refine wa_getR C 4 10 dW_4 rfl rfl (by decide) okX9 gw_223 dX9_groupLikeTheLast_29 ?_
        refine wa_iload_n C 2 rfl dX9_groupLikeTheLast_32 rfl ?_
        obtain ⟨t_16, h⟩ := h
        refine wa_iald C 38 dW_38 dX9_groupLikeTheLast_33 t_16.1 t_16.2 (fun v_17 ev_17 rv_17 => ?_)
        replace h := h v_17 ev_17 rv_17
        refine wa_iload_n C 2 rfl dX9_groupLikeTheLast_34 rfl ?_
        refine wa_bipush C (z := 8) dX9_groupLikeTheLast_35 (by decide) ?_
        refine wa_imul C dX9_groupLikeTheLast_37 ?_
        refine wa_isub C dX9_groupLikeTheLast_38 ?_
        refine wa_iload_n C 1 rfl dX9_groupLikeTheLast_39 rfl ?_
        obtain ⟨r_18, h⟩ := h
        obtain ⟨J_19, h, hJ_19⟩ := h
        have k_20 : J_19 → WA p l e ({ frames := 3, cells := 0, slots := 0, locals := 180 } : Room) s m args below meth c 0 0 Q K ad 3 A 54 [(0, .ref (ad 4)), (1, .int (iI x1_6)), (2, .int (iI x2_12))] [] (dW D_hasBoard D_beganBlank F_mines F_moves F_changes G_width G_height G_size B_parts B_longest S_groups S_askedGroup S_taken R_waitingCount R_metCount A_grade A_cell A_mined A_withTotal A_numbers X_low X_high Y_low Y_high F_mined F_number F_state F_cellsIn F_unknownNear F_hitNear F_moveStart F_changed F_waiting F_seen G_near G_nearEnd B_chosen B_partOf B_rest B_unknowns B_partStart B_cells S_minedSet S_safeSet S_partSet S_tally S_askedTally S_groupOf S_groupSize S_links S_linkEnd S_pick S_groupMinedSet S_groupSafeSet O_sums O_nextSums R_found R_openEnds R_need R_waiting R_waits R_common R_met A_number Q_mined Q_all Q_choices Q_term Q_divisor Q_spare X_limbs X_sum Y_limbs Y_sum) := by
          intro h
          replace h := hJ_19 h
          obtain ⟨r_21, h⟩ := h
          refine wa_iinc C (lv' := fun w9 => [(2, .int (iI w9)), (0, .ref (ad 4)), (1, .int (iI x1_6))]) 2 rfl dX9_groupLikeTheLast_54 (by decide) (fun _ => rfl) (fun x2_22 ex2_22 => ?_)
          replace h := h x2_22 ex2_22
          have rx2_22 : inR x2_22 := by rw [ex2_22]; exact r_21
          refine wa_goto C (tgt := 20) dX9_groupLikeTheLast_57 (by decide) ?_
          obtain ⟨n_23, ln_23, h⟩ := h
          refine wa_sub C [1, 2, 0] rfl ?_
          exact ih_10 n_23 ln_23 x2_22 rx2_22 h
        refine wa_icmp_ne C (tgt := 54) r_18 rx1_6 dX9_groupLikeTheLast_40 (by decide) (fun c_24 => ?_) (fun c_24 => ?_)
        · replace h := h.1 c_24
          refine wa_sub C [0, 1, 2] rfl ?_
          exact k_20 h
        · replace h := h.2 c_24
          refine wa_aload_n C 0 rfl dX9_groupLikeTheLast_43 rfl ?_
          refine wa_iload_n C 2 rfl dX9_groupLikeTheLast_44 rfl ?_
          refine wa_iload_n C 1 rfl dX9_groupLikeTheLast_45 rfl ?_
          refine wa_callVi C (k := 4) (As := [.int (iI x2_12), .int (iI x1_6)]) (rest := []) (c_X9_hasLinksOfTheLast l K ad x2_12 x1_6 rx2_12 rx1_6 _ h) gw_773 gw_770 dW_4 rfl gw_772 gs_24 gw_5 q_X9_hasLinksOfTheLast rfl rfl rfl ⟨by decide, by decide⟩ rfl (Nat.le_of_ble_eq_true rfl) dX9_groupLikeTheLast_46 (fun c_25 u9 rc_25 hp => ?_)
          obtain ⟨bc_25, rfl, h⟩ := hp
          replace h := h bc_25
          refine wa_if_eq C (tgt := 54) (inR_b bc_25) dX9_groupLikeTheLast_49 (by decide) (fun c_26 => ?_) (fun c_26 => ?_)
          · replace h := h.1 c_26
            refine wa_sub C [0, 1, 2] rfl ?_
            exact k_20 h
          · replace h := h.2 c_26
            refine wa_iload_n C 2 rfl dX9_groupLikeTheLast_52 rfl ?_
            exact ret dX9_groupLikeTheLast_53 rx2_12 ⟨rfl, h⟩
  refine wa_sub C [2, 1, 0] rfl ?_
  exact k_11 n_8 0 (inR_k 0 rfl) h0Inv_7
def P_X9_formGroups (post : (Int) → (Int → Int) → (Int → Int) → (Int → Int) → (Int → Int) → Prop) (S_groups : Int) (S_taken : Int) (G_near : Int → Int) (G_nearEnd : Int → Int) (B_chosen : Int → Int) (B_partStart : Int → Int) (B_cells : Int → Int) (S_groupOf : Int → Int) (S_groupSize : Int → Int) (S_links : Int → Int) (S_linkEnd : Int → Int) : Prop :=
  (0 ≤ S_taken ∧ S_taken < 145) ∧ (∀ v_3 : Int, v_3 = B_partStart S_taken → inR v_3 → (∃ Inv_4 : Nat → (Int) → (Int) → (Int → Int) → (Int → Int) → (Int → Int) → (Int → Int) → Prop, (∃ n_5 : Nat, Inv_4 n_5 v_3 0 S_groupOf S_groupSize S_links S_linkEnd) ∧ ∀ (n_6 : Nat) (x1_9 : Int) (S_groups_10 : Int) (S_groupOf_11 : Int → Int) (S_groupSize_12 : Int → Int) (S_links_13 : Int → Int) (S_linkEnd_14 : Int → Int), inR x1_9 → Inv_4 n_6 x1_9 S_groups_10 S_groupOf_11 S_groupSize_12 S_links_13 S_linkEnd_14 → ((0 ≤ (S_taken + 1) ∧ (S_taken + 1) < 145) ∧ (∀ v_17 : Int, v_17 = B_partStart (S_taken + 1) → inR v_17 → ((v_17 ≤ x1_9 → (post S_groups_10 S_groupOf_11 S_groupSize_12 S_links_13 S_linkEnd_14)) ∧ (¬ v_17 ≤ x1_9 → ((0 ≤ x1_9 ∧ x1_9 < 144) ∧ (∀ v_20 : Int, v_20 = B_cells x1_9 → inR v_20 → (P_X9_listLinks (fun (S_links_21 : Int → Int) (S_linkEnd_22 : Int → Int) => (P_X9_groupLikeTheLast (fun (c_23 : Int) => inR c_23 → (∃ J_25 : (Int) → (Int → Int) → Prop, ((¬ c_23 = S_groups_10 → (J_25 S_groups_10 S_groupSize_12)) ∧ (c_23 = S_groups_10 → ((0 ≤ c_23 ∧ c_23 < 17) ∧ (∀ S_groupSize_41 : Int → Int, S_groupSize_41 = upZ S_groupSize_12 c_23 0 → (inR (S_groups_10 + 1) ∧ (∀ S_groups_44 : Int, S_groups_44 = (S_groups_10 + 1) → (J_25 S_groups_44 S_groupSize_41))))))) ∧ (∀ (S_groups_27 : Int) (S_groupSize_28 : Int → Int), J_25 S_groups_27 S_groupSize_28 → ((0 ≤ c_23 ∧ c_23 < 17) ∧ (∀ v_30 : Int, v_30 = S_groupSize_28 c_23 → inR v_30 → ((0 ≤ c_23 ∧ c_23 < 17) ∧ (inR (v_30 + 1) ∧ (∀ S_groupSize_33 : Int → Int, S_groupSize_33 = upZ S_groupSize_28 c_23 (v_30 + 1) → ((0 ≤ v_20 ∧ v_20 < 144) ∧ (∀ S_groupOf_35 : Int → Int, S_groupOf_35 = upZ S_groupOf_11 v_20 c_23 → (inR (x1_9 + 1) ∧ (∀ x1_37 : Int, x1_37 = (x1_9 + 1) → (∃ n_38 : Nat, n_38 < n_6 ∧ Inv_4 n_38 x1_37 S_groups_27 S_groupOf_35 S_groupSize_33 S_links_21 S_linkEnd_22))))))))))))) S_groups_10 S_links_21 S_linkEnd_22 )) S_groups_10 G_near G_nearEnd B_chosen S_links_13 S_linkEnd_14 v_20)))))))))
set_option maxRecDepth 100000 in
set_option maxHeartbeats 4000000 in
theorem c_X9_formGroups (l : Launch) (K : wK) (ad : Nat → Nat) {D_hasBoard : Int} {D_beganBlank : Int} {F_mines : Int} {F_moves : Int} {F_changes : Int} {G_width : Int} {G_height : Int} {G_size : Int} {B_parts : Int} {B_longest : Int} {S_groups : Int} {S_askedGroup : Int} {S_taken : Int} {R_waitingCount : Int} {R_metCount : Int} {A_grade : Int} {A_cell : Int} {A_mined : Int} {A_withTotal : Int} {A_numbers : Int} {X_low : Int} {X_high : Int} {Y_low : Int} {Y_high : Int} {F_mined : Int → Int} {F_number : Int → Int} {F_state : Int → Int} {F_cellsIn : Int → Int} {F_unknownNear : Int → Int} {F_hitNear : Int → Int} {F_moveStart : Int → Int} {F_changed : Int → Int} {F_waiting : Int → Int} {F_seen : Int → Int} {G_near : Int → Int} {G_nearEnd : Int → Int} {B_chosen : Int → Int} {B_partOf : Int → Int} {B_rest : Int → Int} {B_unknowns : Int → Int} {B_partStart : Int → Int} {B_cells : Int → Int} {S_minedSet : Int → Int} {S_safeSet : Int → Int} {S_partSet : Int → Int} {S_tally : Int → Int} {S_askedTally : Int → Int} {S_groupOf : Int → Int} {S_groupSize : Int → Int} {S_links : Int → Int} {S_linkEnd : Int → Int} {S_pick : Int → Int} {S_groupMinedSet : Int → Int} {S_groupSafeSet : Int → Int} {O_sums : Int → Int64} {O_nextSums : Int → Int64} {R_found : Int → Int} {R_openEnds : Int → Int} {R_need : Int → Int} {R_waiting : Int → Int} {R_waits : Int → Int} {R_common : Int → Int} {R_met : Int → Int} {A_number : Int → Int} {Q_mined : Int → Int64} {Q_all : Int → Int64} {Q_choices : Int → Int64} {Q_term : Int → Int64} {Q_divisor : Int → Int64} {Q_spare : Int → Int64} {X_limbs : Int → Int64} {X_sum : Int → Int64} {Y_limbs : Int → Int64} {Y_sum : Int → Int64}   (post : (Int) → (Int → Int) → (Int → Int) → (Int → Int) → (Int → Int) → Prop) (h : P_X9_formGroups post S_groups S_taken G_near G_nearEnd B_chosen B_partStart B_cells S_groupOf S_groupSize S_links S_linkEnd) : mV l yX9_formGroups (Cond.code yX9_formGroups cX9_formGroups 4 none :: GT) ({ frames := 4, cells := 0, slots := 0, locals := 240 } : Room) [.ref (ad 4)] K ad (dW D_hasBoard D_beganBlank F_mines F_moves F_changes G_width G_height G_size B_parts B_longest S_groups S_askedGroup S_taken R_waitingCount R_metCount A_grade A_cell A_mined A_withTotal A_numbers X_low X_high Y_low Y_high F_mined F_number F_state F_cellsIn F_unknownNear F_hitNear F_moveStart F_changed F_waiting F_seen G_near G_nearEnd B_chosen B_partOf B_rest B_unknowns B_partStart B_cells S_minedSet S_safeSet S_partSet S_tally S_askedTally S_groupOf S_groupSize S_links S_linkEnd S_pick S_groupMinedSet S_groupSafeSet O_sums O_nextSums R_found R_openEnds R_need R_waiting R_waits R_common R_met A_number Q_mined Q_all Q_choices Q_term Q_divisor Q_spare X_limbs X_sum Y_limbs Y_sum) (fun u9 => ∃ S_groups9 S_groupOf9 S_groupSize9 S_links9 S_linkEnd9, u9 = (dW D_hasBoard D_beganBlank F_mines F_moves F_changes G_width G_height G_size B_parts B_longest S_groups9 S_askedGroup S_taken R_waitingCount R_metCount A_grade A_cell A_mined A_withTotal A_numbers X_low X_high Y_low Y_high F_mined F_number F_state F_cellsIn F_unknownNear F_hitNear F_moveStart F_changed F_waiting F_seen G_near G_nearEnd B_chosen B_partOf B_rest B_unknowns B_partStart B_cells S_minedSet S_safeSet S_partSet S_tally S_askedTally S_groupOf9 S_groupSize9 S_links9 S_linkEnd9 S_pick S_groupMinedSet S_groupSafeSet O_sums O_nextSums R_found R_openEnds R_need R_waiting R_waits R_common R_met A_number Q_mined Q_all Q_choices Q_term Q_divisor Q_spare X_limbs X_sum Y_limbs Y_sum) ∧ post S_groups9 S_groupOf9 S_groupSize9 S_links9 S_linkEnd9) := by
  refine mV_of (lv0 := [(0, .ref (ad 4))]) (by decide) (Nat.le_of_ble_eq_true rfl) rfl ?_
  intro p e s m args below meth c Q A C ret
  replace C : Cx p ({ frames := 4, cells := 0, slots := 0, locals := 240 } : Room) m c 0 0 cX9_formGroups 4 s args RX9 K A := C
  unfold P_X9_formGroups at h
  refine wa_aload_n C 0 rfl dX9_formGroups_0 rfl ?_
  refine wa_iconst C (z := 0) dX9_formGroups_1 rfl ?_
  refine wa_putI C (ws' := (dW D_hasBoard D_beganBlank F_mines F_moves F_changes G_width G_height G_size B_parts B_longest 0 S_askedGroup S_taken R_waitingCount R_metCount A_grade A_cell A_mined A_withTotal A_numbers X_low X_high Y_low Y_high F_mined F_number F_state F_cellsIn F_unknownNear F_hitNear F_moveStart F_changed F_waiting F_seen G_near G_nearEnd B_chosen B_partOf B_rest B_unknowns B_partStart B_cells S_minedSet S_safeSet S_partSet S_tally S_askedTally S_groupOf S_groupSize S_links S_linkEnd S_pick S_groupMinedSet S_groupSafeSet O_sums O_nextSums R_found R_openEnds R_need R_waiting R_waits R_common R_met A_number Q_mined Q_all Q_choices Q_term Q_divisor Q_spare X_limbs X_sum Y_limbs Y_sum)) 4 14 dW_4 rfl (by decide) okX9 gw_227 rfl rfl (Nat.le_of_ble_eq_true rfl) (inR_k 0 rfl) (dWp_4_14 _) dX9_formGroups_2 ?_
  refine wa_aload_n C 0 rfl dX9_formGroups_5 rfl ?_
  refine wa_getR C 4 5 dW_4 rfl rfl (by decide) okX9 gw_218 dX9_formGroups_6 ?_
  refine wa_getR C 3 6 dW_3 rfl rfl (by decide) okX1 gw_172 dX9_formGroups_9 ?_
  refine wa_aload_n C 0 rfl dX9_formGroups_12 rfl ?_
  refine wa_getI C 4 16 dW_4 rfl rfl (by decide) okX9 gw_229 dX9_formGroups_13 (fun r_1 => ?_)
  obtain ⟨t_2, h⟩ := h
  refine wa_iald C 28 dW_28 dX9_formGroups_16 t_2.1 t_2.2 (fun v_3 ev_3 rv_3 => ?_)
  replace h := h v_3 ev_3 rv_3
  refine wa_istore_n C dX9_formGroups_17 rfl (by decide) rfl ?_
  obtain ⟨Inv_4, ⟨n_5, h0Inv_4⟩, hInv_4⟩ := h
  have k_8 : ∀ (n_6 : Nat) (x1_9 : Int) (S_groups_10 : Int) (S_groupOf_11 : Int → Int) (S_groupSize_12 : Int → Int) (S_links_13 : Int → Int) (S_linkEnd_14 : Int → Int), inR x1_9 → Inv_4 n_6 x1_9 S_groups_10 S_groupOf_11 S_groupSize_12 S_links_13 S_linkEnd_14 → WA p l e ({ frames := 4, cells := 0, slots := 0, locals := 240 } : Room) s m args below meth c 0 0 Q K ad 4 A 18 [(0, .ref (ad 4)), (1, .int (iI x1_9))] [] (dW D_hasBoard D_beganBlank F_mines F_moves F_changes G_width G_height G_size B_parts B_longest S_groups_10 S_askedGroup S_taken R_waitingCount R_metCount A_grade A_cell A_mined A_withTotal A_numbers X_low X_high Y_low Y_high F_mined F_number F_state F_cellsIn F_unknownNear F_hitNear F_moveStart F_changed F_waiting F_seen G_near G_nearEnd B_chosen B_partOf B_rest B_unknowns B_partStart B_cells S_minedSet S_safeSet S_partSet S_tally S_askedTally S_groupOf_11 S_groupSize_12 S_links_13 S_linkEnd_14 S_pick S_groupMinedSet S_groupSafeSet O_sums O_nextSums R_found R_openEnds R_need R_waiting R_waits R_common R_met A_number Q_mined Q_all Q_choices Q_term Q_divisor Q_spare X_limbs X_sum Y_limbs Y_sum) := by
    intro n_6
    induction n_6 using Nat.strongRecOn with
    | ind n_6 ih_7 =>
      intro x1_9 S_groups_10 S_groupOf_11 S_groupSize_12 S_links_13 S_linkEnd_14 rx1_9 h
      replace h := hInv_4 n_6 x1_9 S_groups_10 S_groupOf_11 S_groupSize_12 S_links_13 S_linkEnd_14 rx1_9 h
      refine wa_iload_n C 1 rfl dX9_formGroups_18 rfl ?_
      refine wa_aload_n C 0 rfl dX9_formGroups_19 rfl ?_
      refine wa_getR C 4 5 dW_4 rfl rfl (by decide) okX9 gw_218 dX9_formGroups_20 ?_
      refine wa_getR C 3 6 dW_3 rfl rfl (by decide) okX1 gw_172 dX9_formGroups_23 ?_
      refine wa_aload_n C 0 rfl dX9_formGroups_26 rfl ?_
      refine wa_getI C 4 16 dW_4 rfl rfl (by decide) okX9 gw_229 dX9_formGroups_27 (fun r_15 => ?_)
      refine wa_iconst C (z := 1) dX9_formGroups_30 rfl ?_
      refine wa_iadd C dX9_formGroups_31 ?_
      obtain ⟨t_16, h⟩ := h
      refine wa_iald C 28 dW_28 dX9_formGroups_32 t_16.1 t_16.2 (fun v_17 ev_17 rv_17 => ?_)
      replace h := h v_17 ev_17 rv_17
      refine wa_icmp_ge C (tgt := 104) rx1_9 rv_17 dX9_formGroups_33 (by decide) (fun c_18 => ?_) (fun c_18 => ?_)
      · replace h := h.1 c_18
        exact ret dX9_formGroups_104 ⟨_, _, _, _, _, rfl, h⟩
      · replace h := h.2 c_18
        refine wa_aload_n C 0 rfl dX9_formGroups_36 rfl ?_
        refine wa_getR C 4 5 dW_4 rfl rfl (by decide) okX9 gw_218 dX9_formGroups_37 ?_
        refine wa_getR C 3 7 dW_3 rfl rfl (by decide) okX1 gw_175 dX9_formGroups_40 ?_
        refine wa_iload_n C 1 rfl dX9_formGroups_43 rfl ?_
        obtain ⟨t_19, h⟩ := h
        refine wa_iald C 29 dW_29 dX9_formGroups_44 t_19.1 t_19.2 (fun v_20 ev_20 rv_20 => ?_)
        replace h := h v_20 ev_20 rv_20
        refine wa_istore_n C dX9_formGroups_45 rfl (by decide) rfl ?_
        refine wa_aload_n C 1 rfl dX9_formGroups_46 rfl ?_
        refine wa_iload_n C 0 rfl dX9_formGroups_47 rfl ?_
        refine wa_callVv C (k := 4) (As := [.int (iI v_20)]) (rest := []) (c_X9_listLinks l K ad v_20 rv_20 _ h) gw_765 gw_762 dW_4 rfl gw_764 gs_22 gw_5 q_X9_listLinks rfl rfl rfl ⟨by decide, by decide⟩ rfl (Nat.le_of_ble_eq_true rfl) dX9_formGroups_48 (fun u9 hp => ?_)
        obtain ⟨S_links_21, S_linkEnd_22, rfl, h⟩ := hp
        refine wa_aload_n C 1 rfl dX9_formGroups_51 rfl ?_
        refine wa_callVi C (k := 4) (As := []) (rest := []) (c_X9_groupLikeTheLast l K ad  _ h) gw_769 gw_766 dW_4 rfl gw_768 gs_23 gw_5 q_X9_groupLikeTheLast rfl rfl rfl ⟨by decide, by decide⟩ rfl (Nat.le_of_ble_eq_true rfl) dX9_formGroups_52 (fun c_23 u9 rc_23 hp => ?_)
        obtain ⟨rfl, h⟩ := hp
        replace h := h rc_23
        refine wa_istore_n C dX9_formGroups_55 rfl (by decide) rfl ?_
        refine wa_iload_n C 0 rfl dX9_formGroups_56 rfl ?_
        refine wa_aload_n C 2 rfl dX9_formGroups_57 rfl ?_
        refine wa_getI C 4 14 dW_4 rfl rfl (by decide) okX9 gw_227 dX9_formGroups_58 (fun r_24 => ?_)
        obtain ⟨J_25, h, hJ_25⟩ := h
        have k_26 : ∀ (S_groups_27 : Int) (S_groupSize_28 : Int → Int), J_25 S_groups_27 S_groupSize_28 → WA p l e ({ frames := 4, cells := 0, slots := 0, locals := 240 } : Room) s m args below meth c 0 0 Q K ad 4 A 81 [(0, .ref (ad 4)), (1, .int (iI x1_9)), (2, .int (iI v_20)), (3, .int (iI c_23))] [] (dW D_hasBoard D_beganBlank F_mines F_moves F_changes G_width G_height G_size B_parts B_longest S_groups_27 S_askedGroup S_taken R_waitingCount R_metCount A_grade A_cell A_mined A_withTotal A_numbers X_low X_high Y_low Y_high F_mined F_number F_state F_cellsIn F_unknownNear F_hitNear F_moveStart F_changed F_waiting F_seen G_near G_nearEnd B_chosen B_partOf B_rest B_unknowns B_partStart B_cells S_minedSet S_safeSet S_partSet S_tally S_askedTally S_groupOf_11 S_groupSize_28 S_links_21 S_linkEnd_22 S_pick S_groupMinedSet S_groupSafeSet O_sums O_nextSums R_found R_openEnds R_need R_waiting R_waits R_common R_met A_number Q_mined Q_all Q_choices Q_term Q_divisor Q_spare X_limbs X_sum Y_limbs Y_sum) := by
          intro S_groups_27 S_groupSize_28 h
          replace h := hJ_25 S_groups_27 S_groupSize_28 h
          refine wa_aload_n C 0 rfl dX9_formGroups_81 rfl ?_
          refine wa_getR C 4 8 dW_4 rfl rfl (by decide) okX9 gw_221 dX9_formGroups_82 ?_
          refine wa_iload_n C 3 rfl dX9_formGroups_85 rfl ?_
          refine wa_dup2 C dX9_formGroups_86 rfl rfl ?_
          obtain ⟨t_29, h⟩ := h
          refine wa_iald C 36 dW_36 dX9_formGroups_87 t_29.1 t_29.2 (fun v_30 ev_30 rv_30 => ?_)
          replace h := h v_30 ev_30 rv_30
          refine wa_iconst C (z := 1) dX9_formGroups_88 rfl ?_
          refine wa_iadd C dX9_formGroups_89 ?_
          obtain ⟨t_31, h⟩ := h
          obtain ⟨r_32, h⟩ := h
          refine wa_iast C (ws' := fun w9 => (dW D_hasBoard D_beganBlank F_mines F_moves F_changes G_width G_height G_size B_parts B_longest S_groups_27 S_askedGroup S_taken R_waitingCount R_metCount A_grade A_cell A_mined A_withTotal A_numbers X_low X_high Y_low Y_high F_mined F_number F_state F_cellsIn F_unknownNear F_hitNear F_moveStart F_changed F_waiting F_seen G_near G_nearEnd B_chosen B_partOf B_rest B_unknowns B_partStart B_cells S_minedSet S_safeSet S_partSet S_tally S_askedTally S_groupOf_11 w9 S_links_21 S_linkEnd_22 S_pick S_groupMinedSet S_groupSafeSet O_sums O_nextSums R_found R_openEnds R_need R_waiting R_waits R_common R_met A_number Q_mined Q_all Q_choices Q_term Q_divisor Q_spare X_limbs X_sum Y_limbs Y_sum)) 36 dW_36 dX9_formGroups_90 t_31.1 t_31.2 r_32 dWs_36 (fun S_groupSize_33 eS_groupSize_33 => ?_)
          replace h := h S_groupSize_33 eS_groupSize_33
          refine wa_aload_n C 0 rfl dX9_formGroups_91 rfl ?_
          refine wa_getR C 4 7 dW_4 rfl rfl (by decide) okX9 gw_220 dX9_formGroups_92 ?_
          refine wa_iload_n C 2 rfl dX9_formGroups_95 rfl ?_
          refine wa_iload_n C 3 rfl dX9_formGroups_96 rfl ?_
          obtain ⟨t_34, h⟩ := h
          refine wa_iast C (ws' := fun w9 => (dW D_hasBoard D_beganBlank F_mines F_moves F_changes G_width G_height G_size B_parts B_longest S_groups_27 S_askedGroup S_taken R_waitingCount R_metCount A_grade A_cell A_mined A_withTotal A_numbers X_low X_high Y_low Y_high F_mined F_number F_state F_cellsIn F_unknownNear F_hitNear F_moveStart F_changed F_waiting F_seen G_near G_nearEnd B_chosen B_partOf B_rest B_unknowns B_partStart B_cells S_minedSet S_safeSet S_partSet S_tally S_askedTally w9 S_groupSize_33 S_links_21 S_linkEnd_22 S_pick S_groupMinedSet S_groupSafeSet O_sums O_nextSums R_found R_openEnds R_need R_waiting R_waits R_common R_met A_number Q_mined Q_all Q_choices Q_term Q_divisor Q_spare X_limbs X_sum Y_limbs Y_sum)) 35 dW_35 dX9_formGroups_97 t_34.1 t_34.2 rc_23 dWs_35 (fun S_groupOf_35 eS_groupOf_35 => ?_)
          replace h := h S_groupOf_35 eS_groupOf_35
          obtain ⟨r_36, h⟩ := h
          refine wa_iinc C (lv' := fun w9 => [(1, .int (iI w9)), (0, .ref (ad 4)), (2, .int (iI v_20)), (3, .int (iI c_23))]) 1 rfl dX9_formGroups_98 (by decide) (fun _ => rfl) (fun x1_37 ex1_37 => ?_)
          replace h := h x1_37 ex1_37
          have rx1_37 : inR x1_37 := by rw [ex1_37]; exact r_36
          refine wa_goto C (tgt := 18) dX9_formGroups_101 (by decide) ?_
          obtain ⟨n_38, ln_38, h⟩ := h
          refine wa_sub C [1, 0] rfl ?_
          exact ih_7 n_38 ln_38 x1_37 S_groups_27 S_groupOf_35 S_groupSize_33 S_links_21 S_linkEnd_22 rx1_37 h
        refine wa_icmp_ne C (tgt := 81) rc_23 r_24 dX9_formGroups_61 (by decide) (fun c_39 => ?_) (fun c_39 => ?_)
        · replace h := h.1 c_39
          refine wa_sub C [2, 3, 1, 0] rfl ?_
          exact k_26 S_groups_10 S_groupSize_12 h
        · replace h := h.2 c_39
          refine wa_aload_n C 2 rfl dX9_formGroups_64 rfl ?_
          refine wa_getR C 4 8 dW_4 rfl rfl (by decide) okX9 gw_221 dX9_formGroups_65 ?_
          refine wa_iload_n C 0 rfl dX9_formGroups_68 rfl ?_
          refine wa_iconst C (z := 0) dX9_formGroups_69 rfl ?_
          obtain ⟨t_40, h⟩ := h
          refine wa_iast C (ws' := fun w9 => (dW D_hasBoard D_beganBlank F_mines F_moves F_changes G_width G_height G_size B_parts B_longest S_groups_10 S_askedGroup S_taken R_waitingCount R_metCount A_grade A_cell A_mined A_withTotal A_numbers X_low X_high Y_low Y_high F_mined F_number F_state F_cellsIn F_unknownNear F_hitNear F_moveStart F_changed F_waiting F_seen G_near G_nearEnd B_chosen B_partOf B_rest B_unknowns B_partStart B_cells S_minedSet S_safeSet S_partSet S_tally S_askedTally S_groupOf_11 w9 S_links_21 S_linkEnd_22 S_pick S_groupMinedSet S_groupSafeSet O_sums O_nextSums R_found R_openEnds R_need R_waiting R_waits R_common R_met A_number Q_mined Q_all Q_choices Q_term Q_divisor Q_spare X_limbs X_sum Y_limbs Y_sum)) 36 dW_36 dX9_formGroups_70 t_40.1 t_40.2 (inR_k 0 rfl) dWs_36 (fun S_groupSize_41 eS_groupSize_41 => ?_)
          replace h := h S_groupSize_41 eS_groupSize_41
          refine wa_aload_n C 2 rfl dX9_formGroups_71 rfl ?_
          refine wa_dup C dX9_formGroups_72 rfl ?_
          refine wa_getI C 4 14 dW_4 rfl rfl (by decide) okX9 gw_227 dX9_formGroups_73 (fun r_42 => ?_)
          refine wa_iconst C (z := 1) dX9_formGroups_76 rfl ?_
          refine wa_iadd C dX9_formGroups_77 ?_
          obtain ⟨r_43, h⟩ := h
          refine wa_nmi (fun S_groups_44 eS_groups_44 => ?_)
          replace h := h S_groups_44 eS_groups_44
          have rS_groups_44 : inR S_groups_44 := by rw [eS_groups_44]; exact r_43
          refine wa_putI C (ws' := (dW D_hasBoard D_beganBlank F_mines F_moves F_changes G_width G_height G_size B_parts B_longest S_groups_44 S_askedGroup S_taken R_waitingCount R_metCount A_grade A_cell A_mined A_withTotal A_numbers X_low X_high Y_low Y_high F_mined F_number F_state F_cellsIn F_unknownNear F_hitNear F_moveStart F_changed F_waiting F_seen G_near G_nearEnd B_chosen B_partOf B_rest B_unknowns B_partStart B_cells S_minedSet S_safeSet S_partSet S_tally S_askedTally S_groupOf_11 S_groupSize_41 S_links_21 S_linkEnd_22 S_pick S_groupMinedSet S_groupSafeSet O_sums O_nextSums R_found R_openEnds R_need R_waiting R_waits R_common R_met A_number Q_mined Q_all Q_choices Q_term Q_divisor Q_spare X_limbs X_sum Y_limbs Y_sum)) 4 14 dW_4 rfl (by decide) okX9 gw_227 rfl rfl (Nat.le_of_ble_eq_true rfl) rS_groups_44 (dWp_4_14 _) dX9_formGroups_78 ?_
          refine wa_sub C [2, 3, 1, 0] rfl ?_
          exact k_26 S_groups_44 S_groupSize_41 h
  refine wa_sub C [1, 0] rfl ?_
  exact k_8 n_5 v_3 0 S_groupOf S_groupSize S_links S_linkEnd rv_3 h0Inv_4
def P_J7_fill_53178_34 (post : (Int → Int) → Prop) (S_askedTally : Int → Int) (x1 : Int) : Prop :=
  ∃ Inv_1 : Nat → (Int) → (Int → Int) → Prop, (∃ n_2 : Nat, Inv_1 n_2 0 S_askedTally) ∧ ∀ (n_3 : Nat) (x2_6 : Int) (S_askedTally_7 : Int → Int), inR x2_6 → Inv_1 n_3 x2_6 S_askedTally_7 → ((17 ≤ x2_6 → (post S_askedTally_7)) ∧ (¬ 17 ≤ x2_6 → ((0 ≤ x2_6 ∧ x2_6 < 17) ∧ (∀ S_askedTally_10 : Int → Int, S_askedTally_10 = upZ S_askedTally_7 x2_6 x1 → (inR (x2_6 + 1) ∧ (∀ x2_12 : Int, x2_12 = (x2_6 + 1) → (∃ n_13 : Nat, n_13 < n_3 ∧ Inv_1 n_13 x2_12 S_askedTally_10)))))))
set_option maxRecDepth 100000 in
set_option maxHeartbeats 4000000 in
theorem c_J7_fill_53178_34 (l : Launch) (K : wK) (ad : Nat → Nat) {D_hasBoard : Int} {D_beganBlank : Int} {F_mines : Int} {F_moves : Int} {F_changes : Int} {G_width : Int} {G_height : Int} {G_size : Int} {B_parts : Int} {B_longest : Int} {S_groups : Int} {S_askedGroup : Int} {S_taken : Int} {R_waitingCount : Int} {R_metCount : Int} {A_grade : Int} {A_cell : Int} {A_mined : Int} {A_withTotal : Int} {A_numbers : Int} {X_low : Int} {X_high : Int} {Y_low : Int} {Y_high : Int} {F_mined : Int → Int} {F_number : Int → Int} {F_state : Int → Int} {F_cellsIn : Int → Int} {F_unknownNear : Int → Int} {F_hitNear : Int → Int} {F_moveStart : Int → Int} {F_changed : Int → Int} {F_waiting : Int → Int} {F_seen : Int → Int} {G_near : Int → Int} {G_nearEnd : Int → Int} {B_chosen : Int → Int} {B_partOf : Int → Int} {B_rest : Int → Int} {B_unknowns : Int → Int} {B_partStart : Int → Int} {B_cells : Int → Int} {S_minedSet : Int → Int} {S_safeSet : Int → Int} {S_partSet : Int → Int} {S_tally : Int → Int} {S_askedTally : Int → Int} {S_groupOf : Int → Int} {S_groupSize : Int → Int} {S_links : Int → Int} {S_linkEnd : Int → Int} {S_pick : Int → Int} {S_groupMinedSet : Int → Int} {S_groupSafeSet : Int → Int} {O_sums : Int → Int64} {O_nextSums : Int → Int64} {R_found : Int → Int} {R_openEnds : Int → Int} {R_need : Int → Int} {R_waiting : Int → Int} {R_waits : Int → Int} {R_common : Int → Int} {R_met : Int → Int} {A_number : Int → Int} {Q_mined : Int → Int64} {Q_all : Int → Int64} {Q_choices : Int → Int64} {Q_term : Int → Int64} {Q_divisor : Int → Int64} {Q_spare : Int → Int64} {X_limbs : Int → Int64} {X_sum : Int → Int64} {Y_limbs : Int → Int64} {Y_sum : Int → Int64} (x1 : Int) (rx1 : inR x1) (post : (Int → Int) → Prop) (h : P_J7_fill_53178_34 post S_askedTally x1) : mV l yJ7_fill_53178 (Cond.code yJ7_fill_53178 cJ7_fill_53178 4 none :: GT) ({ frames := 2, cells := 0, slots := 0, locals := 120 } : Room) [.ref (ad 34), .int (iI x1)] K ad (dW D_hasBoard D_beganBlank F_mines F_moves F_changes G_width G_height G_size B_parts B_longest S_groups S_askedGroup S_taken R_waitingCount R_metCount A_grade A_cell A_mined A_withTotal A_numbers X_low X_high Y_low Y_high F_mined F_number F_state F_cellsIn F_unknownNear F_hitNear F_moveStart F_changed F_waiting F_seen G_near G_nearEnd B_chosen B_partOf B_rest B_unknowns B_partStart B_cells S_minedSet S_safeSet S_partSet S_tally S_askedTally S_groupOf S_groupSize S_links S_linkEnd S_pick S_groupMinedSet S_groupSafeSet O_sums O_nextSums R_found R_openEnds R_need R_waiting R_waits R_common R_met A_number Q_mined Q_all Q_choices Q_term Q_divisor Q_spare X_limbs X_sum Y_limbs Y_sum) (fun u9 => ∃ S_askedTally9, u9 = (dW D_hasBoard D_beganBlank F_mines F_moves F_changes G_width G_height G_size B_parts B_longest S_groups S_askedGroup S_taken R_waitingCount R_metCount A_grade A_cell A_mined A_withTotal A_numbers X_low X_high Y_low Y_high F_mined F_number F_state F_cellsIn F_unknownNear F_hitNear F_moveStart F_changed F_waiting F_seen G_near G_nearEnd B_chosen B_partOf B_rest B_unknowns B_partStart B_cells S_minedSet S_safeSet S_partSet S_tally S_askedTally9 S_groupOf S_groupSize S_links S_linkEnd S_pick S_groupMinedSet S_groupSafeSet O_sums O_nextSums R_found R_openEnds R_need R_waiting R_waits R_common R_met A_number Q_mined Q_all Q_choices Q_term Q_divisor Q_spare X_limbs X_sum Y_limbs Y_sum) ∧ post S_askedTally9) := by
  refine mV_of (lv0 := [(0, .ref (ad 34)), (1, .int (iI x1))]) (by decide) (Nat.le_of_ble_eq_true rfl) rfl ?_
  intro p e s m args below meth c Q A C ret
  replace C : Cx p ({ frames := 2, cells := 0, slots := 0, locals := 120 } : Room) m c 0 0 cJ7_fill_53178 4 s args RJ7 K A := C
  unfold P_J7_fill_53178_34 at h
  refine wa_iconst C (z := 0) dJ7_fill_53178_0 rfl ?_
  refine wa_istore_n C dJ7_fill_53178_1 rfl (by decide) rfl ?_
  refine wa_aload_n C 1 rfl dJ7_fill_53178_2 rfl ?_
  refine wa_alen C (z := 17) 34 dW_34 rfl dJ7_fill_53178_3 ?_
  refine wa_istore_n C dJ7_fill_53178_4 rfl (by decide) rfl ?_
  obtain ⟨Inv_1, ⟨n_2, h0Inv_1⟩, hInv_1⟩ := h
  have k_5 : ∀ (n_3 : Nat) (x2_6 : Int) (S_askedTally_7 : Int → Int), inR x2_6 → Inv_1 n_3 x2_6 S_askedTally_7 → WA p l e ({ frames := 2, cells := 0, slots := 0, locals := 120 } : Room) s m args below meth c 0 0 Q K ad 4 A 5 [(0, .ref (ad 34)), (1, .int (iI x1)), (2, .int (iI x2_6)), (3, .int (iI 17))] [] (dW D_hasBoard D_beganBlank F_mines F_moves F_changes G_width G_height G_size B_parts B_longest S_groups S_askedGroup S_taken R_waitingCount R_metCount A_grade A_cell A_mined A_withTotal A_numbers X_low X_high Y_low Y_high F_mined F_number F_state F_cellsIn F_unknownNear F_hitNear F_moveStart F_changed F_waiting F_seen G_near G_nearEnd B_chosen B_partOf B_rest B_unknowns B_partStart B_cells S_minedSet S_safeSet S_partSet S_tally S_askedTally_7 S_groupOf S_groupSize S_links S_linkEnd S_pick S_groupMinedSet S_groupSafeSet O_sums O_nextSums R_found R_openEnds R_need R_waiting R_waits R_common R_met A_number Q_mined Q_all Q_choices Q_term Q_divisor Q_spare X_limbs X_sum Y_limbs Y_sum) := by
    intro n_3
    induction n_3 using Nat.strongRecOn with
    | ind n_3 ih_4 =>
      intro x2_6 S_askedTally_7 rx2_6 h
      replace h := hInv_1 n_3 x2_6 S_askedTally_7 rx2_6 h
      refine wa_iload_n C 2 rfl dJ7_fill_53178_5 rfl ?_
      refine wa_iload_n C 3 rfl dJ7_fill_53178_6 rfl ?_
      refine wa_icmp_ge C (tgt := 20) rx2_6 (inR_k 17 rfl) dJ7_fill_53178_7 (by decide) (fun c_8 => ?_) (fun c_8 => ?_)
      · replace h := h.1 c_8
        exact ret dJ7_fill_53178_20 ⟨_, rfl, h⟩
      · replace h := h.2 c_8
        refine wa_aload_n C 0 rfl dJ7_fill_53178_10 rfl ?_
        refine wa_iload_n C 2 rfl dJ7_fill_53178_11 rfl ?_
        refine wa_iload_n C 1 rfl dJ7_fill_53178_12 rfl ?_
        obtain ⟨t_9, h⟩ := h
        refine wa_iast C (ws' := fun w9 => (dW D_hasBoard D_beganBlank F_mines F_moves F_changes G_width G_height G_size B_parts B_longest S_groups S_askedGroup S_taken R_waitingCount R_metCount A_grade A_cell A_mined A_withTotal A_numbers X_low X_high Y_low Y_high F_mined F_number F_state F_cellsIn F_unknownNear F_hitNear F_moveStart F_changed F_waiting F_seen G_near G_nearEnd B_chosen B_partOf B_rest B_unknowns B_partStart B_cells S_minedSet S_safeSet S_partSet S_tally w9 S_groupOf S_groupSize S_links S_linkEnd S_pick S_groupMinedSet S_groupSafeSet O_sums O_nextSums R_found R_openEnds R_need R_waiting R_waits R_common R_met A_number Q_mined Q_all Q_choices Q_term Q_divisor Q_spare X_limbs X_sum Y_limbs Y_sum)) 34 dW_34 dJ7_fill_53178_13 t_9.1 t_9.2 rx1 dWs_34 (fun S_askedTally_10 eS_askedTally_10 => ?_)
        replace h := h S_askedTally_10 eS_askedTally_10
        obtain ⟨r_11, h⟩ := h
        refine wa_iinc C (lv' := fun w9 => [(2, .int (iI w9)), (0, .ref (ad 34)), (1, .int (iI x1)), (3, .int (iI 17))]) 2 rfl dJ7_fill_53178_14 (by decide) (fun _ => rfl) (fun x2_12 ex2_12 => ?_)
        replace h := h x2_12 ex2_12
        have rx2_12 : inR x2_12 := by rw [ex2_12]; exact r_11
        refine wa_goto C (tgt := 5) dJ7_fill_53178_17 (by decide) ?_
        obtain ⟨n_13, ln_13, h⟩ := h
        refine wa_sub C [1, 2, 0, 3] rfl ?_
        exact ih_4 n_13 ln_13 x2_12 S_askedTally_10 rx2_12 h
  refine wa_sub C [2, 3, 1, 0] rfl ?_
  exact k_5 n_2 0 S_askedTally (inR_k 0 rfl) h0Inv_1
def P_J7_fill_53178_40 (post : (Int → Int) → Prop) (S_groupMinedSet : Int → Int) (x1 : Int) : Prop :=
  ∃ Inv_1 : Nat → (Int) → (Int → Int) → Prop, (∃ n_2 : Nat, Inv_1 n_2 0 S_groupMinedSet) ∧ ∀ (n_3 : Nat) (x2_6 : Int) (S_groupMinedSet_7 : Int → Int), inR x2_6 → Inv_1 n_3 x2_6 S_groupMinedSet_7 → ((16 ≤ x2_6 → (post S_groupMinedSet_7)) ∧ (¬ 16 ≤ x2_6 → ((0 ≤ x2_6 ∧ x2_6 < 16) ∧ (∀ S_groupMinedSet_10 : Int → Int, S_groupMinedSet_10 = upZ S_groupMinedSet_7 x2_6 x1 → (inR (x2_6 + 1) ∧ (∀ x2_12 : Int, x2_12 = (x2_6 + 1) → (∃ n_13 : Nat, n_13 < n_3 ∧ Inv_1 n_13 x2_12 S_groupMinedSet_10)))))))
set_option maxRecDepth 100000 in
set_option maxHeartbeats 4000000 in
theorem c_J7_fill_53178_40 (l : Launch) (K : wK) (ad : Nat → Nat) {D_hasBoard : Int} {D_beganBlank : Int} {F_mines : Int} {F_moves : Int} {F_changes : Int} {G_width : Int} {G_height : Int} {G_size : Int} {B_parts : Int} {B_longest : Int} {S_groups : Int} {S_askedGroup : Int} {S_taken : Int} {R_waitingCount : Int} {R_metCount : Int} {A_grade : Int} {A_cell : Int} {A_mined : Int} {A_withTotal : Int} {A_numbers : Int} {X_low : Int} {X_high : Int} {Y_low : Int} {Y_high : Int} {F_mined : Int → Int} {F_number : Int → Int} {F_state : Int → Int} {F_cellsIn : Int → Int} {F_unknownNear : Int → Int} {F_hitNear : Int → Int} {F_moveStart : Int → Int} {F_changed : Int → Int} {F_waiting : Int → Int} {F_seen : Int → Int} {G_near : Int → Int} {G_nearEnd : Int → Int} {B_chosen : Int → Int} {B_partOf : Int → Int} {B_rest : Int → Int} {B_unknowns : Int → Int} {B_partStart : Int → Int} {B_cells : Int → Int} {S_minedSet : Int → Int} {S_safeSet : Int → Int} {S_partSet : Int → Int} {S_tally : Int → Int} {S_askedTally : Int → Int} {S_groupOf : Int → Int} {S_groupSize : Int → Int} {S_links : Int → Int} {S_linkEnd : Int → Int} {S_pick : Int → Int} {S_groupMinedSet : Int → Int} {S_groupSafeSet : Int → Int} {O_sums : Int → Int64} {O_nextSums : Int → Int64} {R_found : Int → Int} {R_openEnds : Int → Int} {R_need : Int → Int} {R_waiting : Int → Int} {R_waits : Int → Int} {R_common : Int → Int} {R_met : Int → Int} {A_number : Int → Int} {Q_mined : Int → Int64} {Q_all : Int → Int64} {Q_choices : Int → Int64} {Q_term : Int → Int64} {Q_divisor : Int → Int64} {Q_spare : Int → Int64} {X_limbs : Int → Int64} {X_sum : Int → Int64} {Y_limbs : Int → Int64} {Y_sum : Int → Int64} (x1 : Int) (rx1 : inR x1) (post : (Int → Int) → Prop) (h : P_J7_fill_53178_40 post S_groupMinedSet x1) : mV l yJ7_fill_53178 (Cond.code yJ7_fill_53178 cJ7_fill_53178 4 none :: GT) ({ frames := 2, cells := 0, slots := 0, locals := 120 } : Room) [.ref (ad 40), .int (iI x1)] K ad (dW D_hasBoard D_beganBlank F_mines F_moves F_changes G_width G_height G_size B_parts B_longest S_groups S_askedGroup S_taken R_waitingCount R_metCount A_grade A_cell A_mined A_withTotal A_numbers X_low X_high Y_low Y_high F_mined F_number F_state F_cellsIn F_unknownNear F_hitNear F_moveStart F_changed F_waiting F_seen G_near G_nearEnd B_chosen B_partOf B_rest B_unknowns B_partStart B_cells S_minedSet S_safeSet S_partSet S_tally S_askedTally S_groupOf S_groupSize S_links S_linkEnd S_pick S_groupMinedSet S_groupSafeSet O_sums O_nextSums R_found R_openEnds R_need R_waiting R_waits R_common R_met A_number Q_mined Q_all Q_choices Q_term Q_divisor Q_spare X_limbs X_sum Y_limbs Y_sum) (fun u9 => ∃ S_groupMinedSet9, u9 = (dW D_hasBoard D_beganBlank F_mines F_moves F_changes G_width G_height G_size B_parts B_longest S_groups S_askedGroup S_taken R_waitingCount R_metCount A_grade A_cell A_mined A_withTotal A_numbers X_low X_high Y_low Y_high F_mined F_number F_state F_cellsIn F_unknownNear F_hitNear F_moveStart F_changed F_waiting F_seen G_near G_nearEnd B_chosen B_partOf B_rest B_unknowns B_partStart B_cells S_minedSet S_safeSet S_partSet S_tally S_askedTally S_groupOf S_groupSize S_links S_linkEnd S_pick S_groupMinedSet9 S_groupSafeSet O_sums O_nextSums R_found R_openEnds R_need R_waiting R_waits R_common R_met A_number Q_mined Q_all Q_choices Q_term Q_divisor Q_spare X_limbs X_sum Y_limbs Y_sum) ∧ post S_groupMinedSet9) := by
  refine mV_of (lv0 := [(0, .ref (ad 40)), (1, .int (iI x1))]) (by decide) (Nat.le_of_ble_eq_true rfl) rfl ?_
  intro p e s m args below meth c Q A C ret
  replace C : Cx p ({ frames := 2, cells := 0, slots := 0, locals := 120 } : Room) m c 0 0 cJ7_fill_53178 4 s args RJ7 K A := C
  unfold P_J7_fill_53178_40 at h
  refine wa_iconst C (z := 0) dJ7_fill_53178_0 rfl ?_
  refine wa_istore_n C dJ7_fill_53178_1 rfl (by decide) rfl ?_
  refine wa_aload_n C 1 rfl dJ7_fill_53178_2 rfl ?_
  refine wa_alen C (z := 16) 40 dW_40 rfl dJ7_fill_53178_3 ?_
  refine wa_istore_n C dJ7_fill_53178_4 rfl (by decide) rfl ?_
  obtain ⟨Inv_1, ⟨n_2, h0Inv_1⟩, hInv_1⟩ := h
  have k_5 : ∀ (n_3 : Nat) (x2_6 : Int) (S_groupMinedSet_7 : Int → Int), inR x2_6 → Inv_1 n_3 x2_6 S_groupMinedSet_7 → WA p l e ({ frames := 2, cells := 0, slots := 0, locals := 120 } : Room) s m args below meth c 0 0 Q K ad 4 A 5 [(0, .ref (ad 40)), (1, .int (iI x1)), (2, .int (iI x2_6)), (3, .int (iI 16))] [] (dW D_hasBoard D_beganBlank F_mines F_moves F_changes G_width G_height G_size B_parts B_longest S_groups S_askedGroup S_taken R_waitingCount R_metCount A_grade A_cell A_mined A_withTotal A_numbers X_low X_high Y_low Y_high F_mined F_number F_state F_cellsIn F_unknownNear F_hitNear F_moveStart F_changed F_waiting F_seen G_near G_nearEnd B_chosen B_partOf B_rest B_unknowns B_partStart B_cells S_minedSet S_safeSet S_partSet S_tally S_askedTally S_groupOf S_groupSize S_links S_linkEnd S_pick S_groupMinedSet_7 S_groupSafeSet O_sums O_nextSums R_found R_openEnds R_need R_waiting R_waits R_common R_met A_number Q_mined Q_all Q_choices Q_term Q_divisor Q_spare X_limbs X_sum Y_limbs Y_sum) := by
    intro n_3
    induction n_3 using Nat.strongRecOn with
    | ind n_3 ih_4 =>
      intro x2_6 S_groupMinedSet_7 rx2_6 h
      replace h := hInv_1 n_3 x2_6 S_groupMinedSet_7 rx2_6 h
      refine wa_iload_n C 2 rfl dJ7_fill_53178_5 rfl ?_
      refine wa_iload_n C 3 rfl dJ7_fill_53178_6 rfl ?_
      refine wa_icmp_ge C (tgt := 20) rx2_6 (inR_k 16 rfl) dJ7_fill_53178_7 (by decide) (fun c_8 => ?_) (fun c_8 => ?_)
      · replace h := h.1 c_8
        exact ret dJ7_fill_53178_20 ⟨_, rfl, h⟩
      · replace h := h.2 c_8
        refine wa_aload_n C 0 rfl dJ7_fill_53178_10 rfl ?_
        refine wa_iload_n C 2 rfl dJ7_fill_53178_11 rfl ?_
        refine wa_iload_n C 1 rfl dJ7_fill_53178_12 rfl ?_
        obtain ⟨t_9, h⟩ := h
        refine wa_iast C (ws' := fun w9 => (dW D_hasBoard D_beganBlank F_mines F_moves F_changes G_width G_height G_size B_parts B_longest S_groups S_askedGroup S_taken R_waitingCount R_metCount A_grade A_cell A_mined A_withTotal A_numbers X_low X_high Y_low Y_high F_mined F_number F_state F_cellsIn F_unknownNear F_hitNear F_moveStart F_changed F_waiting F_seen G_near G_nearEnd B_chosen B_partOf B_rest B_unknowns B_partStart B_cells S_minedSet S_safeSet S_partSet S_tally S_askedTally S_groupOf S_groupSize S_links S_linkEnd S_pick w9 S_groupSafeSet O_sums O_nextSums R_found R_openEnds R_need R_waiting R_waits R_common R_met A_number Q_mined Q_all Q_choices Q_term Q_divisor Q_spare X_limbs X_sum Y_limbs Y_sum)) 40 dW_40 dJ7_fill_53178_13 t_9.1 t_9.2 rx1 dWs_40 (fun S_groupMinedSet_10 eS_groupMinedSet_10 => ?_)
        replace h := h S_groupMinedSet_10 eS_groupMinedSet_10
        obtain ⟨r_11, h⟩ := h
        refine wa_iinc C (lv' := fun w9 => [(2, .int (iI w9)), (0, .ref (ad 40)), (1, .int (iI x1)), (3, .int (iI 16))]) 2 rfl dJ7_fill_53178_14 (by decide) (fun _ => rfl) (fun x2_12 ex2_12 => ?_)
        replace h := h x2_12 ex2_12
        have rx2_12 : inR x2_12 := by rw [ex2_12]; exact r_11
        refine wa_goto C (tgt := 5) dJ7_fill_53178_17 (by decide) ?_
        obtain ⟨n_13, ln_13, h⟩ := h
        refine wa_sub C [1, 2, 0, 3] rfl ?_
        exact ih_4 n_13 ln_13 x2_12 S_groupMinedSet_10 rx2_12 h
  refine wa_sub C [2, 3, 1, 0] rfl ?_
  exact k_5 n_2 0 S_groupMinedSet (inR_k 0 rfl) h0Inv_1
def P_J7_fill_53178_41 (post : (Int → Int) → Prop) (S_groupSafeSet : Int → Int) (x1 : Int) : Prop :=
  ∃ Inv_1 : Nat → (Int) → (Int → Int) → Prop, (∃ n_2 : Nat, Inv_1 n_2 0 S_groupSafeSet) ∧ ∀ (n_3 : Nat) (x2_6 : Int) (S_groupSafeSet_7 : Int → Int), inR x2_6 → Inv_1 n_3 x2_6 S_groupSafeSet_7 → ((16 ≤ x2_6 → (post S_groupSafeSet_7)) ∧ (¬ 16 ≤ x2_6 → ((0 ≤ x2_6 ∧ x2_6 < 16) ∧ (∀ S_groupSafeSet_10 : Int → Int, S_groupSafeSet_10 = upZ S_groupSafeSet_7 x2_6 x1 → (inR (x2_6 + 1) ∧ (∀ x2_12 : Int, x2_12 = (x2_6 + 1) → (∃ n_13 : Nat, n_13 < n_3 ∧ Inv_1 n_13 x2_12 S_groupSafeSet_10)))))))
set_option maxRecDepth 100000 in
set_option maxHeartbeats 4000000 in
theorem c_J7_fill_53178_41 (l : Launch) (K : wK) (ad : Nat → Nat) {D_hasBoard : Int} {D_beganBlank : Int} {F_mines : Int} {F_moves : Int} {F_changes : Int} {G_width : Int} {G_height : Int} {G_size : Int} {B_parts : Int} {B_longest : Int} {S_groups : Int} {S_askedGroup : Int} {S_taken : Int} {R_waitingCount : Int} {R_metCount : Int} {A_grade : Int} {A_cell : Int} {A_mined : Int} {A_withTotal : Int} {A_numbers : Int} {X_low : Int} {X_high : Int} {Y_low : Int} {Y_high : Int} {F_mined : Int → Int} {F_number : Int → Int} {F_state : Int → Int} {F_cellsIn : Int → Int} {F_unknownNear : Int → Int} {F_hitNear : Int → Int} {F_moveStart : Int → Int} {F_changed : Int → Int} {F_waiting : Int → Int} {F_seen : Int → Int} {G_near : Int → Int} {G_nearEnd : Int → Int} {B_chosen : Int → Int} {B_partOf : Int → Int} {B_rest : Int → Int} {B_unknowns : Int → Int} {B_partStart : Int → Int} {B_cells : Int → Int} {S_minedSet : Int → Int} {S_safeSet : Int → Int} {S_partSet : Int → Int} {S_tally : Int → Int} {S_askedTally : Int → Int} {S_groupOf : Int → Int} {S_groupSize : Int → Int} {S_links : Int → Int} {S_linkEnd : Int → Int} {S_pick : Int → Int} {S_groupMinedSet : Int → Int} {S_groupSafeSet : Int → Int} {O_sums : Int → Int64} {O_nextSums : Int → Int64} {R_found : Int → Int} {R_openEnds : Int → Int} {R_need : Int → Int} {R_waiting : Int → Int} {R_waits : Int → Int} {R_common : Int → Int} {R_met : Int → Int} {A_number : Int → Int} {Q_mined : Int → Int64} {Q_all : Int → Int64} {Q_choices : Int → Int64} {Q_term : Int → Int64} {Q_divisor : Int → Int64} {Q_spare : Int → Int64} {X_limbs : Int → Int64} {X_sum : Int → Int64} {Y_limbs : Int → Int64} {Y_sum : Int → Int64} (x1 : Int) (rx1 : inR x1) (post : (Int → Int) → Prop) (h : P_J7_fill_53178_41 post S_groupSafeSet x1) : mV l yJ7_fill_53178 (Cond.code yJ7_fill_53178 cJ7_fill_53178 4 none :: GT) ({ frames := 2, cells := 0, slots := 0, locals := 120 } : Room) [.ref (ad 41), .int (iI x1)] K ad (dW D_hasBoard D_beganBlank F_mines F_moves F_changes G_width G_height G_size B_parts B_longest S_groups S_askedGroup S_taken R_waitingCount R_metCount A_grade A_cell A_mined A_withTotal A_numbers X_low X_high Y_low Y_high F_mined F_number F_state F_cellsIn F_unknownNear F_hitNear F_moveStart F_changed F_waiting F_seen G_near G_nearEnd B_chosen B_partOf B_rest B_unknowns B_partStart B_cells S_minedSet S_safeSet S_partSet S_tally S_askedTally S_groupOf S_groupSize S_links S_linkEnd S_pick S_groupMinedSet S_groupSafeSet O_sums O_nextSums R_found R_openEnds R_need R_waiting R_waits R_common R_met A_number Q_mined Q_all Q_choices Q_term Q_divisor Q_spare X_limbs X_sum Y_limbs Y_sum) (fun u9 => ∃ S_groupSafeSet9, u9 = (dW D_hasBoard D_beganBlank F_mines F_moves F_changes G_width G_height G_size B_parts B_longest S_groups S_askedGroup S_taken R_waitingCount R_metCount A_grade A_cell A_mined A_withTotal A_numbers X_low X_high Y_low Y_high F_mined F_number F_state F_cellsIn F_unknownNear F_hitNear F_moveStart F_changed F_waiting F_seen G_near G_nearEnd B_chosen B_partOf B_rest B_unknowns B_partStart B_cells S_minedSet S_safeSet S_partSet S_tally S_askedTally S_groupOf S_groupSize S_links S_linkEnd S_pick S_groupMinedSet S_groupSafeSet9 O_sums O_nextSums R_found R_openEnds R_need R_waiting R_waits R_common R_met A_number Q_mined Q_all Q_choices Q_term Q_divisor Q_spare X_limbs X_sum Y_limbs Y_sum) ∧ post S_groupSafeSet9) := by
  refine mV_of (lv0 := [(0, .ref (ad 41)), (1, .int (iI x1))]) (by decide) (Nat.le_of_ble_eq_true rfl) rfl ?_
  intro p e s m args below meth c Q A C ret
  replace C : Cx p ({ frames := 2, cells := 0, slots := 0, locals := 120 } : Room) m c 0 0 cJ7_fill_53178 4 s args RJ7 K A := C
  unfold P_J7_fill_53178_41 at h
  refine wa_iconst C (z := 0) dJ7_fill_53178_0 rfl ?_
  refine wa_istore_n C dJ7_fill_53178_1 rfl (by decide) rfl ?_
  refine wa_aload_n C 1 rfl dJ7_fill_53178_2 rfl ?_
  refine wa_alen C (z := 16) 41 dW_41 rfl dJ7_fill_53178_3 ?_
  refine wa_istore_n C dJ7_fill_53178_4 rfl (by decide) rfl ?_
  obtain ⟨Inv_1, ⟨n_2, h0Inv_1⟩, hInv_1⟩ := h
  have k_5 : ∀ (n_3 : Nat) (x2_6 : Int) (S_groupSafeSet_7 : Int → Int), inR x2_6 → Inv_1 n_3 x2_6 S_groupSafeSet_7 → WA p l e ({ frames := 2, cells := 0, slots := 0, locals := 120 } : Room) s m args below meth c 0 0 Q K ad 4 A 5 [(0, .ref (ad 41)), (1, .int (iI x1)), (2, .int (iI x2_6)), (3, .int (iI 16))] [] (dW D_hasBoard D_beganBlank F_mines F_moves F_changes G_width G_height G_size B_parts B_longest S_groups S_askedGroup S_taken R_waitingCount R_metCount A_grade A_cell A_mined A_withTotal A_numbers X_low X_high Y_low Y_high F_mined F_number F_state F_cellsIn F_unknownNear F_hitNear F_moveStart F_changed F_waiting F_seen G_near G_nearEnd B_chosen B_partOf B_rest B_unknowns B_partStart B_cells S_minedSet S_safeSet S_partSet S_tally S_askedTally S_groupOf S_groupSize S_links S_linkEnd S_pick S_groupMinedSet S_groupSafeSet_7 O_sums O_nextSums R_found R_openEnds R_need R_waiting R_waits R_common R_met A_number Q_mined Q_all Q_choices Q_term Q_divisor Q_spare X_limbs X_sum Y_limbs Y_sum) := by
    intro n_3
    induction n_3 using Nat.strongRecOn with
    | ind n_3 ih_4 =>
      intro x2_6 S_groupSafeSet_7 rx2_6 h
      replace h := hInv_1 n_3 x2_6 S_groupSafeSet_7 rx2_6 h
      refine wa_iload_n C 2 rfl dJ7_fill_53178_5 rfl ?_
      refine wa_iload_n C 3 rfl dJ7_fill_53178_6 rfl ?_
      refine wa_icmp_ge C (tgt := 20) rx2_6 (inR_k 16 rfl) dJ7_fill_53178_7 (by decide) (fun c_8 => ?_) (fun c_8 => ?_)
      · replace h := h.1 c_8
        exact ret dJ7_fill_53178_20 ⟨_, rfl, h⟩
      · replace h := h.2 c_8
        refine wa_aload_n C 0 rfl dJ7_fill_53178_10 rfl ?_
        refine wa_iload_n C 2 rfl dJ7_fill_53178_11 rfl ?_
        refine wa_iload_n C 1 rfl dJ7_fill_53178_12 rfl ?_
        obtain ⟨t_9, h⟩ := h
        refine wa_iast C (ws' := fun w9 => (dW D_hasBoard D_beganBlank F_mines F_moves F_changes G_width G_height G_size B_parts B_longest S_groups S_askedGroup S_taken R_waitingCount R_metCount A_grade A_cell A_mined A_withTotal A_numbers X_low X_high Y_low Y_high F_mined F_number F_state F_cellsIn F_unknownNear F_hitNear F_moveStart F_changed F_waiting F_seen G_near G_nearEnd B_chosen B_partOf B_rest B_unknowns B_partStart B_cells S_minedSet S_safeSet S_partSet S_tally S_askedTally S_groupOf S_groupSize S_links S_linkEnd S_pick S_groupMinedSet w9 O_sums O_nextSums R_found R_openEnds R_need R_waiting R_waits R_common R_met A_number Q_mined Q_all Q_choices Q_term Q_divisor Q_spare X_limbs X_sum Y_limbs Y_sum)) 41 dW_41 dJ7_fill_53178_13 t_9.1 t_9.2 rx1 dWs_41 (fun S_groupSafeSet_10 eS_groupSafeSet_10 => ?_)
        replace h := h S_groupSafeSet_10 eS_groupSafeSet_10
        obtain ⟨r_11, h⟩ := h
        refine wa_iinc C (lv' := fun w9 => [(2, .int (iI w9)), (0, .ref (ad 41)), (1, .int (iI x1)), (3, .int (iI 16))]) 2 rfl dJ7_fill_53178_14 (by decide) (fun _ => rfl) (fun x2_12 ex2_12 => ?_)
        replace h := h x2_12 ex2_12
        have rx2_12 : inR x2_12 := by rw [ex2_12]; exact r_11
        refine wa_goto C (tgt := 5) dJ7_fill_53178_17 (by decide) ?_
        obtain ⟨n_13, ln_13, h⟩ := h
        refine wa_sub C [1, 2, 0, 3] rfl ?_
        exact ih_4 n_13 ln_13 x2_12 S_groupSafeSet_10 rx2_12 h
  refine wa_sub C [2, 3, 1, 0] rfl ?_
  exact k_5 n_2 0 S_groupSafeSet (inR_k 0 rfl) h0Inv_1
def P_X9_clear (post : (Int → Int) → (Int → Int) → (Int → Int) → (Int → Int) → (Int → Int) → Prop) (S_taken : Int) (B_partStart : Int → Int) (S_partSet : Int → Int) (S_tally : Int → Int) (S_askedTally : Int → Int) (S_groupMinedSet : Int → Int) (S_groupSafeSet : Int → Int) : Prop :=
  ∃ Inv_1 : Nat → (Int) → (Int → Int) → Prop, (∃ n_2 : Nat, Inv_1 n_2 0 S_tally) ∧ ∀ (n_3 : Nat) (x1_6 : Int) (S_tally_7 : Int → Int), inR x1_6 → Inv_1 n_3 x1_6 S_tally_7 → (P_X1_sizeOf (fun (c_9 : Int) => inR c_9 → ((c_9 < x1_6 → (P_J7_fill_53178_34 (fun (S_askedTally_11 : Int → Int) => (P_J7_fill_53178_40 (fun (S_groupMinedSet_12 : Int → Int) => (P_J7_fill_53178_41 (fun (S_groupSafeSet_13 : Int → Int) => ((0 ≤ S_taken ∧ S_taken < 144) ∧ (∀ S_partSet_16 : Int → Int, S_partSet_16 = upZ S_partSet S_taken 0 → (post S_partSet_16 S_tally_7 S_askedTally_11 S_groupMinedSet_12 S_groupSafeSet_13)))) S_groupSafeSet 0)) S_groupMinedSet 0)) S_askedTally 0)) ∧ (¬ c_9 < x1_6 → (P_X9_tallyStart (fun (c_18 : Int) => inR c_18 → ((0 ≤ (c_18 + x1_6) ∧ (c_18 + x1_6) < 288) ∧ (∀ S_tally_20 : Int → Int, S_tally_20 = upZ S_tally_7 (c_18 + x1_6) 0 → (inR (x1_6 + 1) ∧ (∀ x1_22 : Int, x1_22 = (x1_6 + 1) → (∃ n_23 : Nat, n_23 < n_3 ∧ Inv_1 n_23 x1_22 S_tally_20)))))) B_partStart S_taken)))) B_partStart S_taken)
set_option maxRecDepth 100000 in
set_option maxHeartbeats 4000000 in
theorem c_X9_clear (l : Launch) (K : wK) (ad : Nat → Nat) {D_hasBoard : Int} {D_beganBlank : Int} {F_mines : Int} {F_moves : Int} {F_changes : Int} {G_width : Int} {G_height : Int} {G_size : Int} {B_parts : Int} {B_longest : Int} {S_groups : Int} {S_askedGroup : Int} {S_taken : Int} {R_waitingCount : Int} {R_metCount : Int} {A_grade : Int} {A_cell : Int} {A_mined : Int} {A_withTotal : Int} {A_numbers : Int} {X_low : Int} {X_high : Int} {Y_low : Int} {Y_high : Int} {F_mined : Int → Int} {F_number : Int → Int} {F_state : Int → Int} {F_cellsIn : Int → Int} {F_unknownNear : Int → Int} {F_hitNear : Int → Int} {F_moveStart : Int → Int} {F_changed : Int → Int} {F_waiting : Int → Int} {F_seen : Int → Int} {G_near : Int → Int} {G_nearEnd : Int → Int} {B_chosen : Int → Int} {B_partOf : Int → Int} {B_rest : Int → Int} {B_unknowns : Int → Int} {B_partStart : Int → Int} {B_cells : Int → Int} {S_minedSet : Int → Int} {S_safeSet : Int → Int} {S_partSet : Int → Int} {S_tally : Int → Int} {S_askedTally : Int → Int} {S_groupOf : Int → Int} {S_groupSize : Int → Int} {S_links : Int → Int} {S_linkEnd : Int → Int} {S_pick : Int → Int} {S_groupMinedSet : Int → Int} {S_groupSafeSet : Int → Int} {O_sums : Int → Int64} {O_nextSums : Int → Int64} {R_found : Int → Int} {R_openEnds : Int → Int} {R_need : Int → Int} {R_waiting : Int → Int} {R_waits : Int → Int} {R_common : Int → Int} {R_met : Int → Int} {A_number : Int → Int} {Q_mined : Int → Int64} {Q_all : Int → Int64} {Q_choices : Int → Int64} {Q_term : Int → Int64} {Q_divisor : Int → Int64} {Q_spare : Int → Int64} {X_limbs : Int → Int64} {X_sum : Int → Int64} {Y_limbs : Int → Int64} {Y_sum : Int → Int64}   (post : (Int → Int) → (Int → Int) → (Int → Int) → (Int → Int) → (Int → Int) → Prop) (h : P_X9_clear post S_taken B_partStart S_partSet S_tally S_askedTally S_groupMinedSet S_groupSafeSet) : mV l yX9_clear (Cond.code yX9_clear cX9_clear 2 none :: GT) ({ frames := 3, cells := 0, slots := 0, locals := 180 } : Room) [.ref (ad 4)] K ad (dW D_hasBoard D_beganBlank F_mines F_moves F_changes G_width G_height G_size B_parts B_longest S_groups S_askedGroup S_taken R_waitingCount R_metCount A_grade A_cell A_mined A_withTotal A_numbers X_low X_high Y_low Y_high F_mined F_number F_state F_cellsIn F_unknownNear F_hitNear F_moveStart F_changed F_waiting F_seen G_near G_nearEnd B_chosen B_partOf B_rest B_unknowns B_partStart B_cells S_minedSet S_safeSet S_partSet S_tally S_askedTally S_groupOf S_groupSize S_links S_linkEnd S_pick S_groupMinedSet S_groupSafeSet O_sums O_nextSums R_found R_openEnds R_need R_waiting R_waits R_common R_met A_number Q_mined Q_all Q_choices Q_term Q_divisor Q_spare X_limbs X_sum Y_limbs Y_sum) (fun u9 => ∃ S_partSet9 S_tally9 S_askedTally9 S_groupMinedSet9 S_groupSafeSet9, u9 = (dW D_hasBoard D_beganBlank F_mines F_moves F_changes G_width G_height G_size B_parts B_longest S_groups S_askedGroup S_taken R_waitingCount R_metCount A_grade A_cell A_mined A_withTotal A_numbers X_low X_high Y_low Y_high F_mined F_number F_state F_cellsIn F_unknownNear F_hitNear F_moveStart F_changed F_waiting F_seen G_near G_nearEnd B_chosen B_partOf B_rest B_unknowns B_partStart B_cells S_minedSet S_safeSet S_partSet9 S_tally9 S_askedTally9 S_groupOf S_groupSize S_links S_linkEnd S_pick S_groupMinedSet9 S_groupSafeSet9 O_sums O_nextSums R_found R_openEnds R_need R_waiting R_waits R_common R_met A_number Q_mined Q_all Q_choices Q_term Q_divisor Q_spare X_limbs X_sum Y_limbs Y_sum) ∧ post S_partSet9 S_tally9 S_askedTally9 S_groupMinedSet9 S_groupSafeSet9) := by
  refine mV_of (lv0 := [(0, .ref (ad 4))]) (by decide) (Nat.le_of_ble_eq_true rfl) rfl ?_
  intro p e s m args below meth c Q A C ret
  replace C : Cx p ({ frames := 3, cells := 0, slots := 0, locals := 180 } : Room) m c 0 0 cX9_clear 2 s args RX9 K A := C
  unfold P_X9_clear at h
  refine wa_iconst C (z := 0) dX9_clear_0 rfl ?_
  refine wa_istore_n C dX9_clear_1 rfl (by decide) rfl ?_
  obtain ⟨Inv_1, ⟨n_2, h0Inv_1⟩, hInv_1⟩ := h
  have k_5 : ∀ (n_3 : Nat) (x1_6 : Int) (S_tally_7 : Int → Int), inR x1_6 → Inv_1 n_3 x1_6 S_tally_7 → WA p l e ({ frames := 3, cells := 0, slots := 0, locals := 180 } : Room) s m args below meth c 0 0 Q K ad 2 A 2 [(0, .ref (ad 4)), (1, .int (iI x1_6))] [] (dW D_hasBoard D_beganBlank F_mines F_moves F_changes G_width G_height G_size B_parts B_longest S_groups S_askedGroup S_taken R_waitingCount R_metCount A_grade A_cell A_mined A_withTotal A_numbers X_low X_high Y_low Y_high F_mined F_number F_state F_cellsIn F_unknownNear F_hitNear F_moveStart F_changed F_waiting F_seen G_near G_nearEnd B_chosen B_partOf B_rest B_unknowns B_partStart B_cells S_minedSet S_safeSet S_partSet S_tally_7 S_askedTally S_groupOf S_groupSize S_links S_linkEnd S_pick S_groupMinedSet S_groupSafeSet O_sums O_nextSums R_found R_openEnds R_need R_waiting R_waits R_common R_met A_number Q_mined Q_all Q_choices Q_term Q_divisor Q_spare X_limbs X_sum Y_limbs Y_sum) := by
    intro n_3
    induction n_3 using Nat.strongRecOn with
    | ind n_3 ih_4 =>
      intro x1_6 S_tally_7 rx1_6 h
      replace h := hInv_1 n_3 x1_6 S_tally_7 rx1_6 h
      refine wa_iload_n C 1 rfl dX9_clear_2 rfl ?_
      refine wa_aload_n C 0 rfl dX9_clear_3 rfl ?_
      refine wa_getR C 4 5 dW_4 rfl rfl (by decide) okX9 gw_218 dX9_clear_4 ?_
      refine wa_aload_n C 0 rfl dX9_clear_7 rfl ?_
      refine wa_getI C 4 16 dW_4 rfl rfl (by decide) okX9 gw_229 dX9_clear_8 (fun r_8 => ?_)
      refine wa_callVi C (k := 3) (As := [.int (iI S_taken)]) (rest := [.int (iI x1_6)]) (c_X1_sizeOf l K ad S_taken r_8 _ h) gw_757 gw_754 dW_3 rfl gw_755 gw_756 gw_4 q_X1_sizeOf rfl rfl rfl ⟨by decide, by decide⟩ rfl (Nat.le_of_ble_eq_true rfl) dX9_clear_11 (fun c_9 u9 rc_9 hp => ?_)
      obtain ⟨rfl, h⟩ := hp
      replace h := h rc_9
      refine wa_icmp_gt C (tgt := 39) rx1_6 rc_9 dX9_clear_14 (by decide) (fun c_10 => ?_) (fun c_10 => ?_)
      · replace h := h.1 c_10
        refine wa_aload_n C 0 rfl dX9_clear_39 rfl ?_
        refine wa_getR C 4 4 dW_4 rfl rfl (by decide) okX9 gw_216 dX9_clear_40 ?_
        refine wa_iconst C (z := 0) dX9_clear_43 rfl ?_
        refine wa_callSv C (As := [.ref (ad 34), .int (iI 0)]) (rest := []) (c_J7_fill_53178_34 l K ad 0 (inR_k 0 rfl) _ h) gw_601 gw_782 gw_600 gw_17 q_J7_fill_53178 rfl rfl rfl ⟨by decide, by decide⟩ rfl (Nat.le_of_ble_eq_true rfl) dX9_clear_44 (fun u9 hp => ?_)
        obtain ⟨S_askedTally_11, rfl, h⟩ := hp
        refine wa_aload_n C 0 rfl dX9_clear_47 rfl ?_
        refine wa_getR C 4 12 dW_4 rfl rfl (by decide) okX9 gw_225 dX9_clear_48 ?_
        refine wa_iconst C (z := 0) dX9_clear_51 rfl ?_
        refine wa_callSv C (As := [.ref (ad 40), .int (iI 0)]) (rest := []) (c_J7_fill_53178_40 l K ad 0 (inR_k 0 rfl) _ h) gw_601 gw_782 gw_600 gw_17 q_J7_fill_53178 rfl rfl rfl ⟨by decide, by decide⟩ rfl (Nat.le_of_ble_eq_true rfl) dX9_clear_52 (fun u9 hp => ?_)
        obtain ⟨S_groupMinedSet_12, rfl, h⟩ := hp
        refine wa_aload_n C 0 rfl dX9_clear_55 rfl ?_
        refine wa_getR C 4 13 dW_4 rfl rfl (by decide) okX9 gw_226 dX9_clear_56 ?_
        refine wa_iconst C (z := 0) dX9_clear_59 rfl ?_
        refine wa_callSv C (As := [.ref (ad 41), .int (iI 0)]) (rest := []) (c_J7_fill_53178_41 l K ad 0 (inR_k 0 rfl) _ h) gw_601 gw_782 gw_600 gw_17 q_J7_fill_53178 rfl rfl rfl ⟨by decide, by decide⟩ rfl (Nat.le_of_ble_eq_true rfl) dX9_clear_60 (fun u9 hp => ?_)
        obtain ⟨S_groupSafeSet_13, rfl, h⟩ := hp
        refine wa_aload_n C 0 rfl dX9_clear_63 rfl ?_
        refine wa_getR C 4 2 dW_4 rfl rfl (by decide) okX9 gw_212 dX9_clear_64 ?_
        refine wa_aload_n C 0 rfl dX9_clear_67 rfl ?_
        refine wa_getI C 4 16 dW_4 rfl rfl (by decide) okX9 gw_229 dX9_clear_68 (fun r_14 => ?_)
        refine wa_iconst C (z := 0) dX9_clear_71 rfl ?_
        obtain ⟨t_15, h⟩ := h
        refine wa_iast C (ws' := fun w9 => (dW D_hasBoard D_beganBlank F_mines F_moves F_changes G_width G_height G_size B_parts B_longest S_groups S_askedGroup S_taken R_waitingCount R_metCount A_grade A_cell A_mined A_withTotal A_numbers X_low X_high Y_low Y_high F_mined F_number F_state F_cellsIn F_unknownNear F_hitNear F_moveStart F_changed F_waiting F_seen G_near G_nearEnd B_chosen B_partOf B_rest B_unknowns B_partStart B_cells S_minedSet S_safeSet w9 S_tally_7 S_askedTally_11 S_groupOf S_groupSize S_links S_linkEnd S_pick S_groupMinedSet_12 S_groupSafeSet_13 O_sums O_nextSums R_found R_openEnds R_need R_waiting R_waits R_common R_met A_number Q_mined Q_all Q_choices Q_term Q_divisor Q_spare X_limbs X_sum Y_limbs Y_sum)) 32 dW_32 dX9_clear_72 t_15.1 t_15.2 (inR_k 0 rfl) dWs_32 (fun S_partSet_16 eS_partSet_16 => ?_)
        replace h := h S_partSet_16 eS_partSet_16
        exact ret dX9_clear_73 ⟨_, _, _, _, _, rfl, h⟩
      · replace h := h.2 c_10
        refine wa_aload_n C 0 rfl dX9_clear_17 rfl ?_
        refine wa_getR C 4 3 dW_4 rfl rfl (by decide) okX9 gw_214 dX9_clear_18 ?_
        refine wa_aload_n C 0 rfl dX9_clear_21 rfl ?_
        refine wa_aload_n C 0 rfl dX9_clear_22 rfl ?_
        refine wa_getI C 4 16 dW_4 rfl rfl (by decide) okX9 gw_229 dX9_clear_23 (fun r_17 => ?_)
        refine wa_callVi C (k := 4) (As := [.int (iI S_taken)]) (rest := [.ref (ad 33)]) (c_X9_tallyStart l K ad S_taken r_8 _ h) gw_781 gw_778 dW_4 rfl gw_779 gw_780 gw_5 q_X9_tallyStart rfl rfl rfl ⟨by decide, by decide⟩ rfl (Nat.le_of_ble_eq_true rfl) dX9_clear_26 (fun c_18 u9 rc_18 hp => ?_)
        obtain ⟨rfl, h⟩ := hp
        replace h := h rc_18
        refine wa_iload_n C 1 rfl dX9_clear_29 rfl ?_
        refine wa_iadd C dX9_clear_30 ?_
        refine wa_iconst C (z := 0) dX9_clear_31 rfl ?_
        obtain ⟨t_19, h⟩ := h
        refine wa_iast C (ws' := fun w9 => (dW D_hasBoard D_beganBlank F_mines F_moves F_changes G_width G_height G_size B_parts B_longest S_groups S_askedGroup S_taken R_waitingCount R_metCount A_grade A_cell A_mined A_withTotal A_numbers X_low X_high Y_low Y_high F_mined F_number F_state F_cellsIn F_unknownNear F_hitNear F_moveStart F_changed F_waiting F_seen G_near G_nearEnd B_chosen B_partOf B_rest B_unknowns B_partStart B_cells S_minedSet S_safeSet S_partSet w9 S_askedTally S_groupOf S_groupSize S_links S_linkEnd S_pick S_groupMinedSet S_groupSafeSet O_sums O_nextSums R_found R_openEnds R_need R_waiting R_waits R_common R_met A_number Q_mined Q_all Q_choices Q_term Q_divisor Q_spare X_limbs X_sum Y_limbs Y_sum)) 33 dW_33 dX9_clear_32 t_19.1 t_19.2 (inR_k 0 rfl) dWs_33 (fun S_tally_20 eS_tally_20 => ?_)
        replace h := h S_tally_20 eS_tally_20
        obtain ⟨r_21, h⟩ := h
        refine wa_iinc C (lv' := fun w9 => [(1, .int (iI w9)), (0, .ref (ad 4))]) 1 rfl dX9_clear_33 (by decide) (fun _ => rfl) (fun x1_22 ex1_22 => ?_)
        replace h := h x1_22 ex1_22
        have rx1_22 : inR x1_22 := by rw [ex1_22]; exact r_21
        refine wa_goto C (tgt := 2) dX9_clear_36 (by decide) ?_
        obtain ⟨n_23, ln_23, h⟩ := h
        refine wa_sub C [1, 0] rfl ?_
        exact ih_4 n_23 ln_23 x1_22 S_tally_20 rx1_22 h
  refine wa_sub C [1, 0] rfl ?_
  exact k_5 n_2 0 S_tally (inR_k 0 rfl) h0Inv_1
def P_X9_assign (post : (Int → Int) → (Int → Int) → Prop) (B_rest : Int → Int) (B_unknowns : Int → Int) (S_links : Int → Int) (S_linkEnd : Int → Int) (x1 : Int) (x2 : Int) (x3 : Int) : Prop :=
  inR (x1 * 8) ∧ (∀ x4_2 : Int, x4_2 = (x1 * 8) → (∃ Inv_3 : Nat → (Int) → (Int → Int) → (Int → Int) → Prop, (∃ n_4 : Nat, Inv_3 n_4 x4_2 B_rest B_unknowns) ∧ ∀ (n_5 : Nat) (x4_8 : Int) (B_rest_9 : Int → Int) (B_unknowns_10 : Int → Int), inR x4_8 → Inv_3 n_5 x4_8 B_rest_9 B_unknowns_10 → ((0 ≤ x1 ∧ x1 < 17) ∧ (∀ v_12 : Int, v_12 = S_linkEnd x1 → inR v_12 → ((v_12 ≤ x4_8 → (post B_rest_9 B_unknowns_10)) ∧ (¬ v_12 ≤ x4_8 → ((0 ≤ x4_8 ∧ x4_8 < 136) ∧ (∀ v_15 : Int, v_15 = S_links x4_8 → inR v_15 → ((0 ≤ v_15 ∧ v_15 < 144) ∧ (∀ v_17 : Int, v_17 = B_unknowns_10 v_15 → inR v_17 → ((0 ≤ v_15 ∧ v_15 < 144) ∧ (inR (v_17 - x2) ∧ (∀ B_unknowns_20 : Int → Int, B_unknowns_20 = upZ B_unknowns_10 v_15 (v_17 - x2) → ((0 ≤ x4_8 ∧ x4_8 < 136) ∧ (∀ v_22 : Int, v_22 = S_links x4_8 → inR v_22 → ((0 ≤ v_22 ∧ v_22 < 144) ∧ (∀ v_24 : Int, v_24 = B_rest_9 v_22 → inR v_24 → ((0 ≤ v_22 ∧ v_22 < 144) ∧ (inR (v_24 - x3) ∧ (∀ B_rest_27 : Int → Int, B_rest_27 = upZ B_rest_9 v_22 (v_24 - x3) → (inR (x4_8 + 1) ∧ (∀ x4_29 : Int, x4_29 = (x4_8 + 1) → (∃ n_30 : Nat, n_30 < n_5 ∧ Inv_3 n_30 x4_29 B_rest_27 B_unknowns_20)))))))))))))))))))))))
set_option maxRecDepth 100000 in
set_option maxHeartbeats 4000000 in
theorem c_X9_assign (l : Launch) (K : wK) (ad : Nat → Nat) {D_hasBoard : Int} {D_beganBlank : Int} {F_mines : Int} {F_moves : Int} {F_changes : Int} {G_width : Int} {G_height : Int} {G_size : Int} {B_parts : Int} {B_longest : Int} {S_groups : Int} {S_askedGroup : Int} {S_taken : Int} {R_waitingCount : Int} {R_metCount : Int} {A_grade : Int} {A_cell : Int} {A_mined : Int} {A_withTotal : Int} {A_numbers : Int} {X_low : Int} {X_high : Int} {Y_low : Int} {Y_high : Int} {F_mined : Int → Int} {F_number : Int → Int} {F_state : Int → Int} {F_cellsIn : Int → Int} {F_unknownNear : Int → Int} {F_hitNear : Int → Int} {F_moveStart : Int → Int} {F_changed : Int → Int} {F_waiting : Int → Int} {F_seen : Int → Int} {G_near : Int → Int} {G_nearEnd : Int → Int} {B_chosen : Int → Int} {B_partOf : Int → Int} {B_rest : Int → Int} {B_unknowns : Int → Int} {B_partStart : Int → Int} {B_cells : Int → Int} {S_minedSet : Int → Int} {S_safeSet : Int → Int} {S_partSet : Int → Int} {S_tally : Int → Int} {S_askedTally : Int → Int} {S_groupOf : Int → Int} {S_groupSize : Int → Int} {S_links : Int → Int} {S_linkEnd : Int → Int} {S_pick : Int → Int} {S_groupMinedSet : Int → Int} {S_groupSafeSet : Int → Int} {O_sums : Int → Int64} {O_nextSums : Int → Int64} {R_found : Int → Int} {R_openEnds : Int → Int} {R_need : Int → Int} {R_waiting : Int → Int} {R_waits : Int → Int} {R_common : Int → Int} {R_met : Int → Int} {A_number : Int → Int} {Q_mined : Int → Int64} {Q_all : Int → Int64} {Q_choices : Int → Int64} {Q_term : Int → Int64} {Q_divisor : Int → Int64} {Q_spare : Int → Int64} {X_limbs : Int → Int64} {X_sum : Int → Int64} {Y_limbs : Int → Int64} {Y_sum : Int → Int64} (x1 : Int) (x2 : Int) (x3 : Int) (rx1 : inR x1) (rx2 : inR x2) (rx3 : inR x3) (post : (Int → Int) → (Int → Int) → Prop) (h : P_X9_assign post B_rest B_unknowns S_links S_linkEnd x1 x2 x3) : mV l yX9_assign (Cond.code yX9_assign cX9_assign 5 none :: GT) ({ frames := 2, cells := 0, slots := 0, locals := 120 } : Room) [.ref (ad 4), .int (iI x1), .int (iI x2), .int (iI x3)] K ad (dW D_hasBoard D_beganBlank F_mines F_moves F_changes G_width G_height G_size B_parts B_longest S_groups S_askedGroup S_taken R_waitingCount R_metCount A_grade A_cell A_mined A_withTotal A_numbers X_low X_high Y_low Y_high F_mined F_number F_state F_cellsIn F_unknownNear F_hitNear F_moveStart F_changed F_waiting F_seen G_near G_nearEnd B_chosen B_partOf B_rest B_unknowns B_partStart B_cells S_minedSet S_safeSet S_partSet S_tally S_askedTally S_groupOf S_groupSize S_links S_linkEnd S_pick S_groupMinedSet S_groupSafeSet O_sums O_nextSums R_found R_openEnds R_need R_waiting R_waits R_common R_met A_number Q_mined Q_all Q_choices Q_term Q_divisor Q_spare X_limbs X_sum Y_limbs Y_sum) (fun u9 => ∃ B_rest9 B_unknowns9, u9 = (dW D_hasBoard D_beganBlank F_mines F_moves F_changes G_width G_height G_size B_parts B_longest S_groups S_askedGroup S_taken R_waitingCount R_metCount A_grade A_cell A_mined A_withTotal A_numbers X_low X_high Y_low Y_high F_mined F_number F_state F_cellsIn F_unknownNear F_hitNear F_moveStart F_changed F_waiting F_seen G_near G_nearEnd B_chosen B_partOf B_rest9 B_unknowns9 B_partStart B_cells S_minedSet S_safeSet S_partSet S_tally S_askedTally S_groupOf S_groupSize S_links S_linkEnd S_pick S_groupMinedSet S_groupSafeSet O_sums O_nextSums R_found R_openEnds R_need R_waiting R_waits R_common R_met A_number Q_mined Q_all Q_choices Q_term Q_divisor Q_spare X_limbs X_sum Y_limbs Y_sum) ∧ post B_rest9 B_unknowns9) := by
  refine mV_of (lv0 := [(0, .ref (ad 4)), (1, .int (iI x1)), (2, .int (iI x2)), (3, .int (iI x3))]) (by decide) (Nat.le_of_ble_eq_true rfl) rfl ?_
  intro p e s m args below meth c Q A C ret
  replace C : Cx p ({ frames := 2, cells := 0, slots := 0, locals := 120 } : Room) m c 0 0 cX9_assign 5 s args RX9 K A := C
  unfold P_X9_assign at h
  refine wa_iload_n C 1 rfl dX9_assign_0 rfl ?_
  refine wa_bipush C (z := 8) dX9_assign_1 (by decide) ?_
  refine wa_imul C dX9_assign_3 ?_
  obtain ⟨r_1, h⟩ := h
  refine wa_nmi (fun x4_2 ex4_2 => ?_)
  replace h := h x4_2 ex4_2
  have rx4_2 : inR x4_2 := by rw [ex4_2]; exact r_1
  refine wa_istore C dX9_assign_4 (by decide) rfl ?_
  obtain ⟨Inv_3, ⟨n_4, h0Inv_3⟩, hInv_3⟩ := h
  have k_7 : ∀ (n_5 : Nat) (x4_8 : Int) (B_rest_9 : Int → Int) (B_unknowns_10 : Int → Int), inR x4_8 → Inv_3 n_5 x4_8 B_rest_9 B_unknowns_10 → WA p l e ({ frames := 2, cells := 0, slots := 0, locals := 120 } : Room) s m args below meth c 0 0 Q K ad 5 A 6 [(0, .ref (ad 4)), (1, .int (iI x1)), (2, .int (iI x2)), (3, .int (iI x3)), (4, .int (iI x4_8))] [] (dW D_hasBoard D_beganBlank F_mines F_moves F_changes G_width G_height G_size B_parts B_longest S_groups S_askedGroup S_taken R_waitingCount R_metCount A_grade A_cell A_mined A_withTotal A_numbers X_low X_high Y_low Y_high F_mined F_number F_state F_cellsIn F_unknownNear F_hitNear F_moveStart F_changed F_waiting F_seen G_near G_nearEnd B_chosen B_partOf B_rest_9 B_unknowns_10 B_partStart B_cells S_minedSet S_safeSet S_partSet S_tally S_askedTally S_groupOf S_groupSize S_links S_linkEnd S_pick S_groupMinedSet S_groupSafeSet O_sums O_nextSums R_found R_openEnds R_need R_waiting R_waits R_common R_met A_number Q_mined Q_all Q_choices Q_term Q_divisor Q_spare X_limbs X_sum Y_limbs Y_sum) := by
    intro n_5
    induction n_5 using Nat.strongRecOn with
    | ind n_5 ih_6 =>
      intro x4_8 B_rest_9 B_unknowns_10 rx4_8 h
      replace h := hInv_3 n_5 x4_8 B_rest_9 B_unknowns_10 rx4_8 h
      refine wa_iload C 4 rfl dX9_assign_6 ?_
      refine wa_aload_n C 0 rfl dX9_assign_8 rfl ?_
      refine wa_getR C 4 10 dW_4 rfl rfl (by decide) okX9 gw_223 dX9_assign_9 ?_
      refine wa_iload_n C 1 rfl dX9_assign_12 rfl ?_
      obtain ⟨t_11, h⟩ := h
      refine wa_iald C 38 dW_38 dX9_assign_13 t_11.1 t_11.2 (fun v_12 ev_12 rv_12 => ?_)
      replace h := h v_12 ev_12 rv_12
      refine wa_icmp_ge C (tgt := 61) rx4_8 rv_12 dX9_assign_14 (by decide) (fun c_13 => ?_) (fun c_13 => ?_)
      · replace h := h.1 c_13
        exact ret dX9_assign_61 ⟨_, _, rfl, h⟩
      · replace h := h.2 c_13
        refine wa_aload_n C 0 rfl dX9_assign_17 rfl ?_
        refine wa_getR C 4 5 dW_4 rfl rfl (by decide) okX9 gw_218 dX9_assign_18 ?_
        refine wa_getR C 3 5 dW_3 rfl rfl (by decide) okX1 gw_170 dX9_assign_21 ?_
        refine wa_aload_n C 0 rfl dX9_assign_24 rfl ?_
        refine wa_getR C 4 9 dW_4 rfl rfl (by decide) okX9 gw_222 dX9_assign_25 ?_
        refine wa_iload C 4 rfl dX9_assign_28 ?_
        obtain ⟨t_14, h⟩ := h
        refine wa_iald C 37 dW_37 dX9_assign_30 t_14.1 t_14.2 (fun v_15 ev_15 rv_15 => ?_)
        replace h := h v_15 ev_15 rv_15
        refine wa_dup2 C dX9_assign_31 rfl rfl ?_
        obtain ⟨t_16, h⟩ := h
        refine wa_iald C 27 dW_27 dX9_assign_32 t_16.1 t_16.2 (fun v_17 ev_17 rv_17 => ?_)
        replace h := h v_17 ev_17 rv_17
        refine wa_iload_n C 2 rfl dX9_assign_33 rfl ?_
        refine wa_isub C dX9_assign_34 ?_
        obtain ⟨t_18, h⟩ := h
        obtain ⟨r_19, h⟩ := h
        refine wa_iast C (ws' := fun w9 => (dW D_hasBoard D_beganBlank F_mines F_moves F_changes G_width G_height G_size B_parts B_longest S_groups S_askedGroup S_taken R_waitingCount R_metCount A_grade A_cell A_mined A_withTotal A_numbers X_low X_high Y_low Y_high F_mined F_number F_state F_cellsIn F_unknownNear F_hitNear F_moveStart F_changed F_waiting F_seen G_near G_nearEnd B_chosen B_partOf B_rest_9 w9 B_partStart B_cells S_minedSet S_safeSet S_partSet S_tally S_askedTally S_groupOf S_groupSize S_links S_linkEnd S_pick S_groupMinedSet S_groupSafeSet O_sums O_nextSums R_found R_openEnds R_need R_waiting R_waits R_common R_met A_number Q_mined Q_all Q_choices Q_term Q_divisor Q_spare X_limbs X_sum Y_limbs Y_sum)) 27 dW_27 dX9_assign_35 t_18.1 t_18.2 r_19 dWs_27 (fun B_unknowns_20 eB_unknowns_20 => ?_)
        replace h := h B_unknowns_20 eB_unknowns_20
        refine wa_aload_n C 0 rfl dX9_assign_36 rfl ?_
        refine wa_getR C 4 5 dW_4 rfl rfl (by decide) okX9 gw_218 dX9_assign_37 ?_
        refine wa_getR C 3 4 dW_3 rfl rfl (by decide) okX1 gw_168 dX9_assign_40 ?_
        refine wa_aload_n C 0 rfl dX9_assign_43 rfl ?_
        refine wa_getR C 4 9 dW_4 rfl rfl (by decide) okX9 gw_222 dX9_assign_44 ?_
        refine wa_iload C 4 rfl dX9_assign_47 ?_
        obtain ⟨t_21, h⟩ := h
        refine wa_iald C 37 dW_37 dX9_assign_49 t_21.1 t_21.2 (fun v_22 ev_22 rv_22 => ?_)
        replace h := h v_22 ev_22 rv_22
        refine wa_dup2 C dX9_assign_50 rfl rfl ?_
        obtain ⟨t_23, h⟩ := h
        refine wa_iald C 26 dW_26 dX9_assign_51 t_23.1 t_23.2 (fun v_24 ev_24 rv_24 => ?_)
        replace h := h v_24 ev_24 rv_24
        refine wa_iload_n C 3 rfl dX9_assign_52 rfl ?_
        refine wa_isub C dX9_assign_53 ?_
        obtain ⟨t_25, h⟩ := h
        obtain ⟨r_26, h⟩ := h
        refine wa_iast C (ws' := fun w9 => (dW D_hasBoard D_beganBlank F_mines F_moves F_changes G_width G_height G_size B_parts B_longest S_groups S_askedGroup S_taken R_waitingCount R_metCount A_grade A_cell A_mined A_withTotal A_numbers X_low X_high Y_low Y_high F_mined F_number F_state F_cellsIn F_unknownNear F_hitNear F_moveStart F_changed F_waiting F_seen G_near G_nearEnd B_chosen B_partOf w9 B_unknowns_20 B_partStart B_cells S_minedSet S_safeSet S_partSet S_tally S_askedTally S_groupOf S_groupSize S_links S_linkEnd S_pick S_groupMinedSet S_groupSafeSet O_sums O_nextSums R_found R_openEnds R_need R_waiting R_waits R_common R_met A_number Q_mined Q_all Q_choices Q_term Q_divisor Q_spare X_limbs X_sum Y_limbs Y_sum)) 26 dW_26 dX9_assign_54 t_25.1 t_25.2 r_26 dWs_26 (fun B_rest_27 eB_rest_27 => ?_)
        replace h := h B_rest_27 eB_rest_27
        obtain ⟨r_28, h⟩ := h
        refine wa_iinc C (lv' := fun w9 => [(4, .int (iI w9)), (0, .ref (ad 4)), (1, .int (iI x1)), (2, .int (iI x2)), (3, .int (iI x3))]) 4 rfl dX9_assign_55 (by decide) (fun _ => rfl) (fun x4_29 ex4_29 => ?_)
        replace h := h x4_29 ex4_29
        have rx4_29 : inR x4_29 := by rw [ex4_29]; exact r_28
        refine wa_goto C (tgt := 6) dX9_assign_58 (by decide) ?_
        obtain ⟨n_30, ln_30, h⟩ := h
        refine wa_sub C [1, 2, 3, 4, 0] rfl ?_
        exact ih_6 n_30 ln_30 x4_29 B_rest_27 B_unknowns_20 rx4_29 h
  refine wa_sub C [1, 2, 3, 4, 0] rfl ?_
  exact k_7 n_4 x4_2 B_rest B_unknowns rx4_2 h0Inv_3
def P_X9_record (post : (Int → Int) → (Int → Int) → (Int → Int) → (Int → Int) → (Int → Int) → Prop) (S_groups : Int) (S_askedGroup : Int) (S_taken : Int) (B_partStart : Int → Int) (S_partSet : Int → Int) (S_tally : Int → Int) (S_askedTally : Int → Int) (S_groupSize : Int → Int) (S_pick : Int → Int) (S_groupMinedSet : Int → Int) (S_groupSafeSet : Int → Int) (x1 : Int) (x2 : Int) : Prop :=
  ∀ x3_1 : Int, x3_1 = (shlI 1 x1) → (P_X9_tallyStart (fun (c_3 : Int) => inR c_3 → ((0 ≤ (c_3 + x1) ∧ (c_3 + x1) < 288) ∧ (∀ v_5 : Int, v_5 = S_tally (c_3 + x1) → inR v_5 → ((0 ≤ (c_3 + x1) ∧ (c_3 + x1) < 288) ∧ (inR (v_5 + x2) ∧ (∀ S_tally_8 : Int → Int, S_tally_8 = upZ S_tally (c_3 + x1) (v_5 + x2) → ((0 ≤ S_taken ∧ S_taken < 144) ∧ (∀ v_11 : Int, v_11 = S_partSet S_taken → inR v_11 → ((0 ≤ S_taken ∧ S_taken < 144) ∧ (∀ S_partSet_13 : Int → Int, S_partSet_13 = upZ S_partSet S_taken (orI v_11 x3_1) → (∃ Inv_14 : Nat → (Int) → (Int → Int) → (Int → Int) → Prop, (∃ n_15 : Nat, Inv_14 n_15 0 S_groupMinedSet S_groupSafeSet) ∧ ∀ (n_16 : Nat) (x4_19 : Int) (S_groupMinedSet_20 : Int → Int) (S_groupSafeSet_21 : Int → Int), inR x4_19 → Inv_14 n_16 x4_19 S_groupMinedSet_20 S_groupSafeSet_21 → ((S_groups ≤ x4_19 → ((S_askedGroup = (-1) → (post S_partSet_13 S_tally_8 S_askedTally S_groupMinedSet_20 S_groupSafeSet_21)) ∧ (¬ S_askedGroup = (-1) → ((0 ≤ S_askedGroup ∧ S_askedGroup < 17) ∧ (∀ v_28 : Int, v_28 = S_groupSize S_askedGroup → inR v_28 → ((v_28 ≤ 0 → (post S_partSet_13 S_tally_8 S_askedTally S_groupMinedSet_20 S_groupSafeSet_21)) ∧ (¬ v_28 ≤ 0 → ((0 ≤ x1 ∧ x1 < 17) ∧ (∀ v_31 : Int, v_31 = S_askedTally x1 → inR v_31 → ((0 ≤ S_askedGroup ∧ S_askedGroup < 16) ∧ (∀ v_34 : Int, v_34 = S_pick S_askedGroup → inR v_34 → ((0 ≤ S_askedGroup ∧ S_askedGroup < 17) ∧ (∀ v_37 : Int, v_37 = S_groupSize S_askedGroup → inR v_37 → (inR (x2 * v_34) ∧ (v_37 ≠ 0 ∧ ((0 ≤ x1 ∧ x1 < 17) ∧ (inR (v_31 + ((x2 * v_34).tdiv v_37)) ∧ (∀ S_askedTally_42 : Int → Int, S_askedTally_42 = upZ S_askedTally x1 (v_31 + ((x2 * v_34).tdiv v_37)) → (post S_partSet_13 S_tally_8 S_askedTally_42 S_groupMinedSet_20 S_groupSafeSet_21))))))))))))))))))) ∧ (¬ S_groups ≤ x4_19 → ((0 ≤ x4_19 ∧ x4_19 < 16) ∧ (∀ v_44 : Int, v_44 = S_pick x4_19 → inR v_44 → (∃ J_45 : (Int → Int) → Prop, ((v_44 ≤ 0 → (J_45 S_groupMinedSet_20)) ∧ (¬ v_44 ≤ 0 → ((0 ≤ x4_19 ∧ x4_19 < 16) ∧ (∀ v_65 : Int, v_65 = S_groupMinedSet_20 x4_19 → inR v_65 → ((0 ≤ x4_19 ∧ x4_19 < 16) ∧ (∀ S_groupMinedSet_67 : Int → Int, S_groupMinedSet_67 = upZ S_groupMinedSet_20 x4_19 (orI v_65 x3_1) → (J_45 S_groupMinedSet_67))))))) ∧ (∀ (S_groupMinedSet_47 : Int → Int), J_45 S_groupMinedSet_47 → ((0 ≤ x4_19 ∧ x4_19 < 16) ∧ (∀ v_49 : Int, v_49 = S_pick x4_19 → inR v_49 → ((0 ≤ x4_19 ∧ x4_19 < 17) ∧ (∀ v_51 : Int, v_51 = S_groupSize x4_19 → inR v_51 → (∃ J_52 : (Int → Int) → Prop, ((v_51 ≤ v_49 → (J_52 S_groupSafeSet_21)) ∧ (¬ v_51 ≤ v_49 → ((0 ≤ x4_19 ∧ x4_19 < 16) ∧ (∀ v_60 : Int, v_60 = S_groupSafeSet_21 x4_19 → inR v_60 → ((0 ≤ x4_19 ∧ x4_19 < 16) ∧ (∀ S_groupSafeSet_62 : Int → Int, S_groupSafeSet_62 = upZ S_groupSafeSet_21 x4_19 (orI v_60 x3_1) → (J_52 S_groupSafeSet_62))))))) ∧ (∀ (S_groupSafeSet_54 : Int → Int), J_52 S_groupSafeSet_54 → (inR (x4_19 + 1) ∧ (∀ x4_56 : Int, x4_56 = (x4_19 + 1) → (∃ n_57 : Nat, n_57 < n_16 ∧ Inv_14 n_57 x4_56 S_groupMinedSet_47 S_groupSafeSet_54)))))))))))))))))))))))))) B_partStart S_taken)
set_option maxRecDepth 100000 in
set_option maxHeartbeats 4000000 in
theorem c_X9_record (l : Launch) (K : wK) (ad : Nat → Nat) {D_hasBoard : Int} {D_beganBlank : Int} {F_mines : Int} {F_moves : Int} {F_changes : Int} {G_width : Int} {G_height : Int} {G_size : Int} {B_parts : Int} {B_longest : Int} {S_groups : Int} {S_askedGroup : Int} {S_taken : Int} {R_waitingCount : Int} {R_metCount : Int} {A_grade : Int} {A_cell : Int} {A_mined : Int} {A_withTotal : Int} {A_numbers : Int} {X_low : Int} {X_high : Int} {Y_low : Int} {Y_high : Int} {F_mined : Int → Int} {F_number : Int → Int} {F_state : Int → Int} {F_cellsIn : Int → Int} {F_unknownNear : Int → Int} {F_hitNear : Int → Int} {F_moveStart : Int → Int} {F_changed : Int → Int} {F_waiting : Int → Int} {F_seen : Int → Int} {G_near : Int → Int} {G_nearEnd : Int → Int} {B_chosen : Int → Int} {B_partOf : Int → Int} {B_rest : Int → Int} {B_unknowns : Int → Int} {B_partStart : Int → Int} {B_cells : Int → Int} {S_minedSet : Int → Int} {S_safeSet : Int → Int} {S_partSet : Int → Int} {S_tally : Int → Int} {S_askedTally : Int → Int} {S_groupOf : Int → Int} {S_groupSize : Int → Int} {S_links : Int → Int} {S_linkEnd : Int → Int} {S_pick : Int → Int} {S_groupMinedSet : Int → Int} {S_groupSafeSet : Int → Int} {O_sums : Int → Int64} {O_nextSums : Int → Int64} {R_found : Int → Int} {R_openEnds : Int → Int} {R_need : Int → Int} {R_waiting : Int → Int} {R_waits : Int → Int} {R_common : Int → Int} {R_met : Int → Int} {A_number : Int → Int} {Q_mined : Int → Int64} {Q_all : Int → Int64} {Q_choices : Int → Int64} {Q_term : Int → Int64} {Q_divisor : Int → Int64} {Q_spare : Int → Int64} {X_limbs : Int → Int64} {X_sum : Int → Int64} {Y_limbs : Int → Int64} {Y_sum : Int → Int64} (x1 : Int) (x2 : Int) (rx1 : inR x1) (rx2 : inR x2) (post : (Int → Int) → (Int → Int) → (Int → Int) → (Int → Int) → (Int → Int) → Prop) (h : P_X9_record post S_groups S_askedGroup S_taken B_partStart S_partSet S_tally S_askedTally S_groupSize S_pick S_groupMinedSet S_groupSafeSet x1 x2) : mV l yX9_record (Cond.code yX9_record cX9_record 5 none :: GT) ({ frames := 3, cells := 0, slots := 0, locals := 180 } : Room) [.ref (ad 4), .int (iI x1), .int (iI x2)] K ad (dW D_hasBoard D_beganBlank F_mines F_moves F_changes G_width G_height G_size B_parts B_longest S_groups S_askedGroup S_taken R_waitingCount R_metCount A_grade A_cell A_mined A_withTotal A_numbers X_low X_high Y_low Y_high F_mined F_number F_state F_cellsIn F_unknownNear F_hitNear F_moveStart F_changed F_waiting F_seen G_near G_nearEnd B_chosen B_partOf B_rest B_unknowns B_partStart B_cells S_minedSet S_safeSet S_partSet S_tally S_askedTally S_groupOf S_groupSize S_links S_linkEnd S_pick S_groupMinedSet S_groupSafeSet O_sums O_nextSums R_found R_openEnds R_need R_waiting R_waits R_common R_met A_number Q_mined Q_all Q_choices Q_term Q_divisor Q_spare X_limbs X_sum Y_limbs Y_sum) (fun u9 => ∃ S_partSet9 S_tally9 S_askedTally9 S_groupMinedSet9 S_groupSafeSet9, u9 = (dW D_hasBoard D_beganBlank F_mines F_moves F_changes G_width G_height G_size B_parts B_longest S_groups S_askedGroup S_taken R_waitingCount R_metCount A_grade A_cell A_mined A_withTotal A_numbers X_low X_high Y_low Y_high F_mined F_number F_state F_cellsIn F_unknownNear F_hitNear F_moveStart F_changed F_waiting F_seen G_near G_nearEnd B_chosen B_partOf B_rest B_unknowns B_partStart B_cells S_minedSet S_safeSet S_partSet9 S_tally9 S_askedTally9 S_groupOf S_groupSize S_links S_linkEnd S_pick S_groupMinedSet9 S_groupSafeSet9 O_sums O_nextSums R_found R_openEnds R_need R_waiting R_waits R_common R_met A_number Q_mined Q_all Q_choices Q_term Q_divisor Q_spare X_limbs X_sum Y_limbs Y_sum) ∧ post S_partSet9 S_tally9 S_askedTally9 S_groupMinedSet9 S_groupSafeSet9) := by
  refine mV_of (lv0 := [(0, .ref (ad 4)), (1, .int (iI x1)), (2, .int (iI x2))]) (by decide) (Nat.le_of_ble_eq_true rfl) rfl ?_
  intro p e s m args below meth c Q A C ret
  replace C : Cx p ({ frames := 3, cells := 0, slots := 0, locals := 180 } : Room) m c 0 0 cX9_record 5 s args RX9 K A := C
  unfold P_X9_record at h
  refine wa_iconst C (z := 1) dX9_record_0 rfl ?_
  refine wa_iload_n C 1 rfl dX9_record_1 rfl ?_
  refine wa_ishl C dX9_record_2 ?_
  refine wa_nmi (fun x3_1 ex3_1 => ?_)
  replace h := h x3_1 ex3_1
  have rx3_1 : inR x3_1 := by rw [ex3_1]; exact (shlI_r _ _)
  refine wa_istore_n C dX9_record_3 rfl (by decide) rfl ?_
  refine wa_aload_n C 1 rfl dX9_record_4 rfl ?_
  refine wa_getR C 4 3 dW_4 rfl rfl (by decide) okX9 gw_214 dX9_record_5 ?_
  refine wa_aload_n C 1 rfl dX9_record_8 rfl ?_
  refine wa_aload_n C 1 rfl dX9_record_9 rfl ?_
  refine wa_getI C 4 16 dW_4 rfl rfl (by decide) okX9 gw_229 dX9_record_10 (fun r_2 => ?_)
  refine wa_callVi C (k := 4) (As := [.int (iI S_taken)]) (rest := [.ref (ad 33)]) (c_X9_tallyStart l K ad S_taken r_2 _ h) gw_781 gw_778 dW_4 rfl gw_779 gw_780 gw_5 q_X9_tallyStart rfl rfl rfl ⟨by decide, by decide⟩ rfl (Nat.le_of_ble_eq_true rfl) dX9_record_13 (fun c_3 u9 rc_3 hp => ?_)
  obtain ⟨rfl, h⟩ := hp
  replace h := h rc_3
  refine wa_iload_n C 2 rfl dX9_record_16 rfl ?_
  refine wa_iadd C dX9_record_17 ?_
  refine wa_dup2 C dX9_record_18 rfl rfl ?_
  obtain ⟨t_4, h⟩ := h
  refine wa_iald C 33 dW_33 dX9_record_19 t_4.1 t_4.2 (fun v_5 ev_5 rv_5 => ?_)
  replace h := h v_5 ev_5 rv_5
  refine wa_iload_n C 3 rfl dX9_record_20 rfl ?_
  refine wa_iadd C dX9_record_21 ?_
  obtain ⟨t_6, h⟩ := h
  obtain ⟨r_7, h⟩ := h
  refine wa_iast C (ws' := fun w9 => (dW D_hasBoard D_beganBlank F_mines F_moves F_changes G_width G_height G_size B_parts B_longest S_groups S_askedGroup S_taken R_waitingCount R_metCount A_grade A_cell A_mined A_withTotal A_numbers X_low X_high Y_low Y_high F_mined F_number F_state F_cellsIn F_unknownNear F_hitNear F_moveStart F_changed F_waiting F_seen G_near G_nearEnd B_chosen B_partOf B_rest B_unknowns B_partStart B_cells S_minedSet S_safeSet S_partSet w9 S_askedTally S_groupOf S_groupSize S_links S_linkEnd S_pick S_groupMinedSet S_groupSafeSet O_sums O_nextSums R_found R_openEnds R_need R_waiting R_waits R_common R_met A_number Q_mined Q_all Q_choices Q_term Q_divisor Q_spare X_limbs X_sum Y_limbs Y_sum)) 33 dW_33 dX9_record_22 t_6.1 t_6.2 r_7 dWs_33 (fun S_tally_8 eS_tally_8 => ?_)
  replace h := h S_tally_8 eS_tally_8
  refine wa_aload_n C 1 rfl dX9_record_23 rfl ?_
  refine wa_getR C 4 2 dW_4 rfl rfl (by decide) okX9 gw_212 dX9_record_24 ?_
  refine wa_aload_n C 1 rfl dX9_record_27 rfl ?_
  refine wa_getI C 4 16 dW_4 rfl rfl (by decide) okX9 gw_229 dX9_record_28 (fun r_9 => ?_)
  refine wa_dup2 C dX9_record_31 rfl rfl ?_
  obtain ⟨t_10, h⟩ := h
  refine wa_iald C 32 dW_32 dX9_record_32 t_10.1 t_10.2 (fun v_11 ev_11 rv_11 => ?_)
  replace h := h v_11 ev_11 rv_11
  refine wa_iload_n C 0 rfl dX9_record_33 rfl ?_
  refine wa_ior C dX9_record_34 ?_
  obtain ⟨t_12, h⟩ := h
  refine wa_iast C (ws' := fun w9 => (dW D_hasBoard D_beganBlank F_mines F_moves F_changes G_width G_height G_size B_parts B_longest S_groups S_askedGroup S_taken R_waitingCount R_metCount A_grade A_cell A_mined A_withTotal A_numbers X_low X_high Y_low Y_high F_mined F_number F_state F_cellsIn F_unknownNear F_hitNear F_moveStart F_changed F_waiting F_seen G_near G_nearEnd B_chosen B_partOf B_rest B_unknowns B_partStart B_cells S_minedSet S_safeSet w9 S_tally_8 S_askedTally S_groupOf S_groupSize S_links S_linkEnd S_pick S_groupMinedSet S_groupSafeSet O_sums O_nextSums R_found R_openEnds R_need R_waiting R_waits R_common R_met A_number Q_mined Q_all Q_choices Q_term Q_divisor Q_spare X_limbs X_sum Y_limbs Y_sum)) 32 dW_32 dX9_record_35 t_12.1 t_12.2 (orI_r _ _) dWs_32 (fun S_partSet_13 eS_partSet_13 => ?_)
  replace h := h S_partSet_13 eS_partSet_13
  refine wa_iconst C (z := 0) dX9_record_36 rfl ?_
  refine wa_istore C dX9_record_37 (by decide) rfl ?_
  obtain ⟨Inv_14, ⟨n_15, h0Inv_14⟩, hInv_14⟩ := h
  have k_18 : ∀ (n_16 : Nat) (x4_19 : Int) (S_groupMinedSet_20 : Int → Int) (S_groupSafeSet_21 : Int → Int), inR x4_19 → Inv_14 n_16 x4_19 S_groupMinedSet_20 S_groupSafeSet_21 → WA p l e ({ frames := 3, cells := 0, slots := 0, locals := 180 } : Room) s m args below meth c 0 0 Q K ad 5 A 39 [(0, .ref (ad 4)), (1, .int (iI x1)), (2, .int (iI x2)), (3, .int (iI x3_1)), (4, .int (iI x4_19))] [] (dW D_hasBoard D_beganBlank F_mines F_moves F_changes G_width G_height G_size B_parts B_longest S_groups S_askedGroup S_taken R_waitingCount R_metCount A_grade A_cell A_mined A_withTotal A_numbers X_low X_high Y_low Y_high F_mined F_number F_state F_cellsIn F_unknownNear F_hitNear F_moveStart F_changed F_waiting F_seen G_near G_nearEnd B_chosen B_partOf B_rest B_unknowns B_partStart B_cells S_minedSet S_safeSet S_partSet_13 S_tally_8 S_askedTally S_groupOf S_groupSize S_links S_linkEnd S_pick S_groupMinedSet_20 S_groupSafeSet_21 O_sums O_nextSums R_found R_openEnds R_need R_waiting R_waits R_common R_met A_number Q_mined Q_all Q_choices Q_term Q_divisor Q_spare X_limbs X_sum Y_limbs Y_sum) := by
    intro n_16
    induction n_16 using Nat.strongRecOn with
    | ind n_16 ih_17 =>
      intro x4_19 S_groupMinedSet_20 S_groupSafeSet_21 rx4_19 h
      replace h := hInv_14 n_16 x4_19 S_groupMinedSet_20 S_groupSafeSet_21 rx4_19 h
      refine wa_iload C 4 rfl dX9_record_39 ?_
      refine wa_aload_n C 0 rfl dX9_record_41 rfl ?_
      refine wa_getI C 4 14 dW_4 rfl rfl (by decide) okX9 gw_227 dX9_record_42 (fun r_22 => ?_)
      refine wa_icmp_ge C (tgt := 103) rx4_19 r_22 dX9_record_45 (by decide) (fun c_23 => ?_) (fun c_23 => ?_)
      · replace h := h.1 c_23
        refine wa_aload_n C 0 rfl dX9_record_103 rfl ?_
        refine wa_getI C 4 15 dW_4 rfl rfl (by decide) okX9 gw_228 dX9_record_104 (fun r_24 => ?_)
        refine wa_iconst C (z := -1) dX9_record_107 rfl ?_
        refine wa_icmp_eq C (tgt := 153) r_24 (inR_k (-1) rfl) dX9_record_108 (by decide) (fun c_25 => ?_) (fun c_25 => ?_)
        · replace h := h.1 c_25
          exact ret dX9_record_153 ⟨_, _, _, _, _, rfl, h⟩
        · replace h := h.2 c_25
          refine wa_aload_n C 0 rfl dX9_record_111 rfl ?_
          refine wa_getR C 4 8 dW_4 rfl rfl (by decide) okX9 gw_221 dX9_record_112 ?_
          refine wa_aload_n C 0 rfl dX9_record_115 rfl ?_
          refine wa_getI C 4 15 dW_4 rfl rfl (by decide) okX9 gw_228 dX9_record_116 (fun r_26 => ?_)
          obtain ⟨t_27, h⟩ := h
          refine wa_iald C 36 dW_36 dX9_record_119 t_27.1 t_27.2 (fun v_28 ev_28 rv_28 => ?_)
          replace h := h v_28 ev_28 rv_28
          refine wa_if_le C (tgt := 153) rv_28 dX9_record_120 (by decide) (fun c_29 => ?_) (fun c_29 => ?_)
          · replace h := h.1 c_29
            exact ret dX9_record_153 ⟨_, _, _, _, _, rfl, h⟩
          · replace h := h.2 c_29
            refine wa_aload_n C 0 rfl dX9_record_123 rfl ?_
            refine wa_getR C 4 4 dW_4 rfl rfl (by decide) okX9 gw_216 dX9_record_124 ?_
            refine wa_iload_n C 1 rfl dX9_record_127 rfl ?_
            refine wa_dup2 C dX9_record_128 rfl rfl ?_
            obtain ⟨t_30, h⟩ := h
            refine wa_iald C 34 dW_34 dX9_record_129 t_30.1 t_30.2 (fun v_31 ev_31 rv_31 => ?_)
            replace h := h v_31 ev_31 rv_31
            refine wa_iload_n C 2 rfl dX9_record_130 rfl ?_
            refine wa_aload_n C 0 rfl dX9_record_131 rfl ?_
            refine wa_getR C 4 11 dW_4 rfl rfl (by decide) okX9 gw_224 dX9_record_132 ?_
            refine wa_aload_n C 0 rfl dX9_record_135 rfl ?_
            refine wa_getI C 4 15 dW_4 rfl rfl (by decide) okX9 gw_228 dX9_record_136 (fun r_32 => ?_)
            obtain ⟨t_33, h⟩ := h
            refine wa_iald C 39 dW_39 dX9_record_139 t_33.1 t_33.2 (fun v_34 ev_34 rv_34 => ?_)
            replace h := h v_34 ev_34 rv_34
            refine wa_imul C dX9_record_140 ?_
            refine wa_aload_n C 0 rfl dX9_record_141 rfl ?_
            refine wa_getR C 4 8 dW_4 rfl rfl (by decide) okX9 gw_221 dX9_record_142 ?_
            refine wa_aload_n C 0 rfl dX9_record_145 rfl ?_
            refine wa_getI C 4 15 dW_4 rfl rfl (by decide) okX9 gw_228 dX9_record_146 (fun r_35 => ?_)
            obtain ⟨t_36, h⟩ := h
            refine wa_iald C 36 dW_36 dX9_record_149 t_36.1 t_36.2 (fun v_37 ev_37 rv_37 => ?_)
            replace h := h v_37 ev_37 rv_37
            obtain ⟨r_38, h⟩ := h
            obtain ⟨q_39, h⟩ := h
            refine wa_idiv C dX9_record_150 r_38 rv_37 q_39 ?_
            refine wa_iadd C dX9_record_151 ?_
            obtain ⟨t_40, h⟩ := h
            obtain ⟨r_41, h⟩ := h
            refine wa_iast C (ws' := fun w9 => (dW D_hasBoard D_beganBlank F_mines F_moves F_changes G_width G_height G_size B_parts B_longest S_groups S_askedGroup S_taken R_waitingCount R_metCount A_grade A_cell A_mined A_withTotal A_numbers X_low X_high Y_low Y_high F_mined F_number F_state F_cellsIn F_unknownNear F_hitNear F_moveStart F_changed F_waiting F_seen G_near G_nearEnd B_chosen B_partOf B_rest B_unknowns B_partStart B_cells S_minedSet S_safeSet S_partSet_13 S_tally_8 w9 S_groupOf S_groupSize S_links S_linkEnd S_pick S_groupMinedSet_20 S_groupSafeSet_21 O_sums O_nextSums R_found R_openEnds R_need R_waiting R_waits R_common R_met A_number Q_mined Q_all Q_choices Q_term Q_divisor Q_spare X_limbs X_sum Y_limbs Y_sum)) 34 dW_34 dX9_record_152 t_40.1 t_40.2 r_41 dWs_34 (fun S_askedTally_42 eS_askedTally_42 => ?_)
            replace h := h S_askedTally_42 eS_askedTally_42
            exact ret dX9_record_153 ⟨_, _, _, _, _, rfl, h⟩
      · replace h := h.2 c_23
        refine wa_aload_n C 0 rfl dX9_record_48 rfl ?_
        refine wa_getR C 4 11 dW_4 rfl rfl (by decide) okX9 gw_224 dX9_record_49 ?_
        refine wa_iload C 4 rfl dX9_record_52 ?_
        obtain ⟨t_43, h⟩ := h
        refine wa_iald C 39 dW_39 dX9_record_54 t_43.1 t_43.2 (fun v_44 ev_44 rv_44 => ?_)
        replace h := h v_44 ev_44 rv_44
        obtain ⟨J_45, h, hJ_45⟩ := h
        have k_46 : ∀ (S_groupMinedSet_47 : Int → Int), J_45 S_groupMinedSet_47 → WA p l e ({ frames := 3, cells := 0, slots := 0, locals := 180 } : Room) s m args below meth c 0 0 Q K ad 5 A 69 [(0, .ref (ad 4)), (1, .int (iI x1)), (2, .int (iI x2)), (3, .int (iI x3_1)), (4, .int (iI x4_19))] [] (dW D_hasBoard D_beganBlank F_mines F_moves F_changes G_width G_height G_size B_parts B_longest S_groups S_askedGroup S_taken R_waitingCount R_metCount A_grade A_cell A_mined A_withTotal A_numbers X_low X_high Y_low Y_high F_mined F_number F_state F_cellsIn F_unknownNear F_hitNear F_moveStart F_changed F_waiting F_seen G_near G_nearEnd B_chosen B_partOf B_rest B_unknowns B_partStart B_cells S_minedSet S_safeSet S_partSet_13 S_tally_8 S_askedTally S_groupOf S_groupSize S_links S_linkEnd S_pick S_groupMinedSet_47 S_groupSafeSet_21 O_sums O_nextSums R_found R_openEnds R_need R_waiting R_waits R_common R_met A_number Q_mined Q_all Q_choices Q_term Q_divisor Q_spare X_limbs X_sum Y_limbs Y_sum) := by
          intro S_groupMinedSet_47 h
          replace h := hJ_45 S_groupMinedSet_47 h
          refine wa_aload_n C 0 rfl dX9_record_69 rfl ?_
          refine wa_getR C 4 11 dW_4 rfl rfl (by decide) okX9 gw_224 dX9_record_70 ?_
          refine wa_iload C 4 rfl dX9_record_73 ?_
          obtain ⟨t_48, h⟩ := h
          refine wa_iald C 39 dW_39 dX9_record_75 t_48.1 t_48.2 (fun v_49 ev_49 rv_49 => ?_)
          replace h := h v_49 ev_49 rv_49
          refine wa_aload_n C 0 rfl dX9_record_76 rfl ?_
          refine wa_getR C 4 8 dW_4 rfl rfl (by decide) okX9 gw_221 dX9_record_77 ?_
          refine wa_iload C 4 rfl dX9_record_80 ?_
          obtain ⟨t_50, h⟩ := h
          refine wa_iald C 36 dW_36 dX9_record_82 t_50.1 t_50.2 (fun v_51 ev_51 rv_51 => ?_)
          replace h := h v_51 ev_51 rv_51
          obtain ⟨J_52, h, hJ_52⟩ := h
          have k_53 : ∀ (S_groupSafeSet_54 : Int → Int), J_52 S_groupSafeSet_54 → WA p l e ({ frames := 3, cells := 0, slots := 0, locals := 180 } : Room) s m args below meth c 0 0 Q K ad 5 A 97 [(0, .ref (ad 4)), (1, .int (iI x1)), (2, .int (iI x2)), (3, .int (iI x3_1)), (4, .int (iI x4_19))] [] (dW D_hasBoard D_beganBlank F_mines F_moves F_changes G_width G_height G_size B_parts B_longest S_groups S_askedGroup S_taken R_waitingCount R_metCount A_grade A_cell A_mined A_withTotal A_numbers X_low X_high Y_low Y_high F_mined F_number F_state F_cellsIn F_unknownNear F_hitNear F_moveStart F_changed F_waiting F_seen G_near G_nearEnd B_chosen B_partOf B_rest B_unknowns B_partStart B_cells S_minedSet S_safeSet S_partSet_13 S_tally_8 S_askedTally S_groupOf S_groupSize S_links S_linkEnd S_pick S_groupMinedSet_47 S_groupSafeSet_54 O_sums O_nextSums R_found R_openEnds R_need R_waiting R_waits R_common R_met A_number Q_mined Q_all Q_choices Q_term Q_divisor Q_spare X_limbs X_sum Y_limbs Y_sum) := by
            intro S_groupSafeSet_54 h
            replace h := hJ_52 S_groupSafeSet_54 h
            obtain ⟨r_55, h⟩ := h
            refine wa_iinc C (lv' := fun w9 => [(4, .int (iI w9)), (0, .ref (ad 4)), (1, .int (iI x1)), (2, .int (iI x2)), (3, .int (iI x3_1))]) 4 rfl dX9_record_97 (by decide) (fun _ => rfl) (fun x4_56 ex4_56 => ?_)
            replace h := h x4_56 ex4_56
            have rx4_56 : inR x4_56 := by rw [ex4_56]; exact r_55
            refine wa_goto C (tgt := 39) dX9_record_100 (by decide) ?_
            obtain ⟨n_57, ln_57, h⟩ := h
            refine wa_sub C [1, 2, 3, 4, 0] rfl ?_
            exact ih_17 n_57 ln_57 x4_56 S_groupMinedSet_47 S_groupSafeSet_54 rx4_56 h
          refine wa_icmp_ge C (tgt := 97) rv_49 rv_51 dX9_record_83 (by decide) (fun c_58 => ?_) (fun c_58 => ?_)
          · replace h := h.1 c_58
            refine wa_sub C [0, 1, 2, 3, 4] rfl ?_
            exact k_53 S_groupSafeSet_21 h
          · replace h := h.2 c_58
            refine wa_aload_n C 0 rfl dX9_record_86 rfl ?_
            refine wa_getR C 4 13 dW_4 rfl rfl (by decide) okX9 gw_226 dX9_record_87 ?_
            refine wa_iload C 4 rfl dX9_record_90 ?_
            refine wa_dup2 C dX9_record_92 rfl rfl ?_
            obtain ⟨t_59, h⟩ := h
            refine wa_iald C 41 dW_41 dX9_record_93 t_59.1 t_59.2 (fun v_60 ev_60 rv_60 => ?_)
            replace h := h v_60 ev_60 rv_60
            refine wa_iload_n C 3 rfl dX9_record_94 rfl ?_
            refine wa_ior C dX9_record_95 ?_
            obtain ⟨t_61, h⟩ := h
            refine wa_iast C (ws' := fun w9 => (dW D_hasBoard D_beganBlank F_mines F_moves F_changes G_width G_height G_size B_parts B_longest S_groups S_askedGroup S_taken R_waitingCount R_metCount A_grade A_cell A_mined A_withTotal A_numbers X_low X_high Y_low Y_high F_mined F_number F_state F_cellsIn F_unknownNear F_hitNear F_moveStart F_changed F_waiting F_seen G_near G_nearEnd B_chosen B_partOf B_rest B_unknowns B_partStart B_cells S_minedSet S_safeSet S_partSet_13 S_tally_8 S_askedTally S_groupOf S_groupSize S_links S_linkEnd S_pick S_groupMinedSet_47 w9 O_sums O_nextSums R_found R_openEnds R_need R_waiting R_waits R_common R_met A_number Q_mined Q_all Q_choices Q_term Q_divisor Q_spare X_limbs X_sum Y_limbs Y_sum)) 41 dW_41 dX9_record_96 t_61.1 t_61.2 (orI_r _ _) dWs_41 (fun S_groupSafeSet_62 eS_groupSafeSet_62 => ?_)
            replace h := h S_groupSafeSet_62 eS_groupSafeSet_62
            refine wa_sub C [0, 1, 2, 3, 4] rfl ?_
            exact k_53 S_groupSafeSet_62 h
        refine wa_if_le C (tgt := 69) rv_44 dX9_record_55 (by decide) (fun c_63 => ?_) (fun c_63 => ?_)
        · replace h := h.1 c_63
          refine wa_sub C [0, 1, 2, 3, 4] rfl ?_
          exact k_46 S_groupMinedSet_20 h
        · replace h := h.2 c_63
          refine wa_aload_n C 0 rfl dX9_record_58 rfl ?_
          refine wa_getR C 4 12 dW_4 rfl rfl (by decide) okX9 gw_225 dX9_record_59 ?_
          refine wa_iload C 4 rfl dX9_record_62 ?_
          refine wa_dup2 C dX9_record_64 rfl rfl ?_
          obtain ⟨t_64, h⟩ := h
          refine wa_iald C 40 dW_40 dX9_record_65 t_64.1 t_64.2 (fun v_65 ev_65 rv_65 => ?_)
          replace h := h v_65 ev_65 rv_65
          refine wa_iload_n C 3 rfl dX9_record_66 rfl ?_
          refine wa_ior C dX9_record_67 ?_
          obtain ⟨t_66, h⟩ := h
          refine wa_iast C (ws' := fun w9 => (dW D_hasBoard D_beganBlank F_mines F_moves F_changes G_width G_height G_size B_parts B_longest S_groups S_askedGroup S_taken R_waitingCount R_metCount A_grade A_cell A_mined A_withTotal A_numbers X_low X_high Y_low Y_high F_mined F_number F_state F_cellsIn F_unknownNear F_hitNear F_moveStart F_changed F_waiting F_seen G_near G_nearEnd B_chosen B_partOf B_rest B_unknowns B_partStart B_cells S_minedSet S_safeSet S_partSet_13 S_tally_8 S_askedTally S_groupOf S_groupSize S_links S_linkEnd S_pick w9 S_groupSafeSet_21 O_sums O_nextSums R_found R_openEnds R_need R_waiting R_waits R_common R_met A_number Q_mined Q_all Q_choices Q_term Q_divisor Q_spare X_limbs X_sum Y_limbs Y_sum)) 40 dW_40 dX9_record_68 t_66.1 t_66.2 (orI_r _ _) dWs_40 (fun S_groupMinedSet_67 eS_groupMinedSet_67 => ?_)
          replace h := h S_groupMinedSet_67 eS_groupMinedSet_67
          refine wa_sub C [0, 1, 2, 3, 4] rfl ?_
          exact k_46 S_groupMinedSet_67 h
  refine wa_sub C [2, 3, 4, 1, 0] rfl ?_
  exact k_18 n_15 0 S_groupMinedSet S_groupSafeSet (inR_k 0 rfl) h0Inv_14
def P_X9_place : Nat → ((Int → Int) → (Int → Int) → (Int → Int) → (Int → Int) → (Int → Int) → (Int → Int) → (Int → Int) → (Int → Int) → Prop) → (Int) → (Int) → (Int) → (Int → Int) → (Int → Int) → (Int → Int) → (Int → Int) → (Int → Int) → (Int → Int) → (Int → Int) → (Int → Int) → (Int → Int) → (Int → Int) → (Int → Int) → (Int → Int) → (Int) → (Int) → (Int) → Prop
  | 0 => fun _ _ _ _ _ _ _ _ _ _ _ _ _ _ _ _ _ _ _ => False
  | d + 1 => fun post S_groups S_askedGroup S_taken B_rest B_unknowns B_partStart S_partSet S_tally S_askedTally S_groupSize S_links S_linkEnd S_pick S_groupMinedSet S_groupSafeSet x1 x2 x3 => ∃ J_2 : Prop, ((S_groups ≤ x1 → (J_2)) ∧ (¬ S_groups ≤ x1 → ((x1 < 16 → ((0 ≤ x1 ∧ x1 < 17) ∧ (∀ v_12 : Int, v_12 = S_groupSize x1 → inR v_12 → (inR (x1 * 8) ∧ (∀ x7_14 : Int, x7_14 = (x1 * 8) → (∃ Inv_15 : Nat → (Int) → (Int) → (Int) → Prop, (∃ n_16 : Nat, Inv_15 n_16 0 v_12 x7_14) ∧ ∀ (n_17 : Nat) (x5_20 : Int) (x6_21 : Int) (x7_22 : Int), inR x5_20 → inR x6_21 → inR x7_22 → Inv_15 n_17 x5_20 x6_21 x7_22 → ((0 ≤ x1 ∧ x1 < 17) ∧ (∀ v_24 : Int, v_24 = S_linkEnd x1 → inR v_24 → ((v_24 ≤ x7_22 → ((x5_20 ≤ x6_21 → (P_X9_assign (fun (B_rest_27 : Int → Int) (B_unknowns_28 : Int → Int) => (∃ Inv_29 : Nat → (Int) → (Int → Int) → (Int → Int) → (Int → Int) → (Int → Int) → (Int → Int) → (Int → Int) → (Int → Int) → (Int → Int) → Prop, (∃ n_30 : Nat, Inv_29 n_30 x5_20 B_rest_27 B_unknowns_28 S_partSet S_tally S_askedTally S_pick S_groupMinedSet S_groupSafeSet) ∧ ∀ (n_31 : Nat) (x7_34 : Int) (B_rest_35 : Int → Int) (B_unknowns_36 : Int → Int) (S_partSet_37 : Int → Int) (S_tally_38 : Int → Int) (S_askedTally_39 : Int → Int) (S_pick_40 : Int → Int) (S_groupMinedSet_41 : Int → Int) (S_groupSafeSet_42 : Int → Int), inR x7_34 → Inv_29 n_31 x7_34 B_rest_35 B_unknowns_36 S_partSet_37 S_tally_38 S_askedTally_39 S_pick_40 S_groupMinedSet_41 S_groupSafeSet_42 → ((x6_21 < x7_34 → (inR (-v_12) ∧ (inR ((-x6_21) - 1) ∧ (P_X9_assign (fun (B_rest_46 : Int → Int) (B_unknowns_47 : Int → Int) => (post B_rest_46 B_unknowns_47 S_partSet_37 S_tally_38 S_askedTally_39 S_pick_40 S_groupMinedSet_41 S_groupSafeSet_42)) B_rest_35 B_unknowns_36 S_links S_linkEnd x1 (-v_12) ((-x6_21) - 1))))) ∧ (¬ x6_21 < x7_34 → ((0 ≤ x1 ∧ x1 < 16) ∧ (∀ S_pick_49 : Int → Int, S_pick_49 = upZ S_pick_40 x1 x7_34 → ((0 ≤ ((v_12 * 9) + x7_34) ∧ ((v_12 * 9) + x7_34) < 81) ∧ (∀ v_52 : Int, v_52 = chZ ((v_12 * 9) + x7_34) → (inR (x1 + 1) ∧ (inR (x2 + x7_34) ∧ (inR (x3 * v_52) ∧ (P_X9_place d (fun (B_rest_56 : Int → Int) (B_unknowns_57 : Int → Int) (S_partSet_58 : Int → Int) (S_tally_59 : Int → Int) (S_askedTally_60 : Int → Int) (S_pick_61 : Int → Int) (S_groupMinedSet_62 : Int → Int) (S_groupSafeSet_63 : Int → Int) => (P_X9_assign (fun (B_rest_64 : Int → Int) (B_unknowns_65 : Int → Int) => (inR (x7_34 + 1) ∧ (∀ x7_67 : Int, x7_67 = (x7_34 + 1) → (∃ n_68 : Nat, n_68 < n_31 ∧ Inv_29 n_68 x7_67 B_rest_64 B_unknowns_65 S_partSet_58 S_tally_59 S_askedTally_60 S_pick_61 S_groupMinedSet_62 S_groupSafeSet_63)))) B_rest_56 B_unknowns_57 S_links S_linkEnd x1 0 1)) S_groups S_askedGroup S_taken B_rest_35 B_unknowns_36 B_partStart S_partSet_37 S_tally_38 S_askedTally_39 S_groupSize S_links S_linkEnd S_pick_49 S_groupMinedSet_41 S_groupSafeSet_42 (x1 + 1) (x2 + x7_34) (x3 * v_52))))))))))))) B_rest B_unknowns S_links S_linkEnd x1 v_12 x5_20)) ∧ (¬ x5_20 ≤ x6_21 → (post B_rest B_unknowns S_partSet S_tally S_askedTally S_pick S_groupMinedSet S_groupSafeSet)))) ∧ (¬ v_24 ≤ x7_22 → ((0 ≤ x7_22 ∧ x7_22 < 136) ∧ (∀ v_70 : Int, v_70 = S_links x7_22 → inR v_70 → ((0 ≤ v_70 ∧ v_70 < 144) ∧ (∀ v_72 : Int, v_72 = B_rest v_70 → inR v_72 → (inR (if v_72 < x6_21 then v_72 else x6_21) ∧ (∀ x6_74 : Int, x6_74 = (if v_72 < x6_21 then v_72 else x6_21) → ((0 ≤ x7_22 ∧ x7_22 < 136) ∧ (∀ v_76 : Int, v_76 = S_links x7_22 → inR v_76 → ((0 ≤ v_76 ∧ v_76 < 144) ∧ (∀ v_78 : Int, v_78 = B_unknowns v_76 → inR v_78 → (inR ((v_72 - v_78) + v_12) ∧ (inR (if x5_20 < ((v_72 - v_78) + v_12) then ((v_72 - v_78) + v_12) else x5_20) ∧ (∀ x5_81 : Int, x5_81 = (if x5_20 < ((v_72 - v_78) + v_12) then ((v_72 - v_78) + v_12) else x5_20) → (inR (x7_22 + 1) ∧ (∀ x7_83 : Int, x7_83 = (x7_22 + 1) → (∃ n_84 : Nat, n_84 < n_17 ∧ Inv_15 n_84 x5_81 x6_74 x7_83)))))))))))))))))))))))))) ∧ (¬ x1 < 16 → (J_2))))) ∧ (J_2 → (P_X9_record (fun (S_partSet_4 : Int → Int) (S_tally_5 : Int → Int) (S_askedTally_6 : Int → Int) (S_groupMinedSet_7 : Int → Int) (S_groupSafeSet_8 : Int → Int) => (post B_rest B_unknowns S_partSet_4 S_tally_5 S_askedTally_6 S_pick S_groupMinedSet_7 S_groupSafeSet_8)) S_groups S_askedGroup S_taken B_partStart S_partSet S_tally S_askedTally S_groupSize S_pick S_groupMinedSet S_groupSafeSet x2 x3))
set_option maxRecDepth 100000 in
set_option maxHeartbeats 4000000 in
theorem c_X9_place (l : Launch) (K : wK) (ad : Nat → Nat) : ∀ (d : Nat) {D_hasBoard : Int} {D_beganBlank : Int} {F_mines : Int} {F_moves : Int} {F_changes : Int} {G_width : Int} {G_height : Int} {G_size : Int} {B_parts : Int} {B_longest : Int} {S_groups : Int} {S_askedGroup : Int} {S_taken : Int} {R_waitingCount : Int} {R_metCount : Int} {A_grade : Int} {A_cell : Int} {A_mined : Int} {A_withTotal : Int} {A_numbers : Int} {X_low : Int} {X_high : Int} {Y_low : Int} {Y_high : Int} {F_mined : Int → Int} {F_number : Int → Int} {F_state : Int → Int} {F_cellsIn : Int → Int} {F_unknownNear : Int → Int} {F_hitNear : Int → Int} {F_moveStart : Int → Int} {F_changed : Int → Int} {F_waiting : Int → Int} {F_seen : Int → Int} {G_near : Int → Int} {G_nearEnd : Int → Int} {B_chosen : Int → Int} {B_partOf : Int → Int} {B_rest : Int → Int} {B_unknowns : Int → Int} {B_partStart : Int → Int} {B_cells : Int → Int} {S_minedSet : Int → Int} {S_safeSet : Int → Int} {S_partSet : Int → Int} {S_tally : Int → Int} {S_askedTally : Int → Int} {S_groupOf : Int → Int} {S_groupSize : Int → Int} {S_links : Int → Int} {S_linkEnd : Int → Int} {S_pick : Int → Int} {S_groupMinedSet : Int → Int} {S_groupSafeSet : Int → Int} {O_sums : Int → Int64} {O_nextSums : Int → Int64} {R_found : Int → Int} {R_openEnds : Int → Int} {R_need : Int → Int} {R_waiting : Int → Int} {R_waits : Int → Int} {R_common : Int → Int} {R_met : Int → Int} {A_number : Int → Int} {Q_mined : Int → Int64} {Q_all : Int → Int64} {Q_choices : Int → Int64} {Q_term : Int → Int64} {Q_divisor : Int → Int64} {Q_spare : Int → Int64} {X_limbs : Int → Int64} {X_sum : Int → Int64} {Y_limbs : Int → Int64} {Y_sum : Int → Int64} (x1 : Int) (x2 : Int) (x3 : Int) (rx1 : inR x1) (rx2 : inR x2) (rx3 : inR x3) (post : (Int → Int) → (Int → Int) → (Int → Int) → (Int → Int) → (Int → Int) → (Int → Int) → (Int → Int) → (Int → Int) → Prop), P_X9_place d post S_groups S_askedGroup S_taken B_rest B_unknowns B_partStart S_partSet S_tally S_askedTally S_groupSize S_links S_linkEnd S_pick S_groupMinedSet S_groupSafeSet x1 x2 x3 → mV l yX9_place (Cond.code yX9_place cX9_place 9 none :: GT) ({ frames := 4 + d, cells := 0, slots := 0, locals := 240 + 60 * d } : Room) [.ref (ad 4), .int (iI x1), .int (iI x2), .int (iI x3)] K ad (dW D_hasBoard D_beganBlank F_mines F_moves F_changes G_width G_height G_size B_parts B_longest S_groups S_askedGroup S_taken R_waitingCount R_metCount A_grade A_cell A_mined A_withTotal A_numbers X_low X_high Y_low Y_high F_mined F_number F_state F_cellsIn F_unknownNear F_hitNear F_moveStart F_changed F_waiting F_seen G_near G_nearEnd B_chosen B_partOf B_rest B_unknowns B_partStart B_cells S_minedSet S_safeSet S_partSet S_tally S_askedTally S_groupOf S_groupSize S_links S_linkEnd S_pick S_groupMinedSet S_groupSafeSet O_sums O_nextSums R_found R_openEnds R_need R_waiting R_waits R_common R_met A_number Q_mined Q_all Q_choices Q_term Q_divisor Q_spare X_limbs X_sum Y_limbs Y_sum) (fun u9 => ∃ B_rest9 B_unknowns9 S_partSet9 S_tally9 S_askedTally9 S_pick9 S_groupMinedSet9 S_groupSafeSet9, u9 = (dW D_hasBoard D_beganBlank F_mines F_moves F_changes G_width G_height G_size B_parts B_longest S_groups S_askedGroup S_taken R_waitingCount R_metCount A_grade A_cell A_mined A_withTotal A_numbers X_low X_high Y_low Y_high F_mined F_number F_state F_cellsIn F_unknownNear F_hitNear F_moveStart F_changed F_waiting F_seen G_near G_nearEnd B_chosen B_partOf B_rest9 B_unknowns9 B_partStart B_cells S_minedSet S_safeSet S_partSet9 S_tally9 S_askedTally9 S_groupOf S_groupSize S_links S_linkEnd S_pick9 S_groupMinedSet9 S_groupSafeSet9 O_sums O_nextSums R_found R_openEnds R_need R_waiting R_waits R_common R_met A_number Q_mined Q_all Q_choices Q_term Q_divisor Q_spare X_limbs X_sum Y_limbs Y_sum) ∧ post B_rest9 B_unknowns9 S_partSet9 S_tally9 S_askedTally9 S_pick9 S_groupMinedSet9 S_groupSafeSet9) := by
  intro d
  induction d with
  | zero => intros; rename_i h; exact False.elim h
  | succ d ih =>
  intro D_hasBoard D_beganBlank F_mines F_moves F_changes G_width G_height G_size B_parts B_longest S_groups S_askedGroup S_taken R_waitingCount R_metCount A_grade A_cell A_mined A_withTotal A_numbers X_low X_high Y_low Y_high F_mined F_number F_state F_cellsIn F_unknownNear F_hitNear F_moveStart F_changed F_waiting F_seen G_near G_nearEnd B_chosen B_partOf B_rest B_unknowns B_partStart B_cells S_minedSet S_safeSet S_partSet S_tally S_askedTally S_groupOf S_groupSize S_links S_linkEnd S_pick S_groupMinedSet S_groupSafeSet O_sums O_nextSums R_found R_openEnds R_need R_waiting R_waits R_common R_met A_number Q_mined Q_all Q_choices Q_term Q_divisor Q_spare X_limbs X_sum Y_limbs Y_sum x1 x2 x3 rx1 rx2 rx3 post h
  refine mV_of (lv0 := [(0, .ref (ad 4)), (1, .int (iI x1)), (2, .int (iI x2)), (3, .int (iI x3))]) (by decide) (Nat.le_of_ble_eq_true rfl) rfl ?_
  intro p e s m args below meth c Q A C ret
  replace C : Cx p ({ frames := 4 + (d + 1), cells := 0, slots := 0, locals := 240 + 60 * (d + 1) } : Room) m c 0 0 cX9_place 9 s args RX9 K A := C
  dsimp only [P_X9_place] at h
  refine wa_iload_n C 1 rfl dX9_place_0 rfl ?_
  refine wa_aload_n C 0 rfl dX9_place_1 rfl ?_
  refine wa_getI C 4 14 dW_4 rfl rfl (by decide) okX9 gw_227 dX9_place_2 (fun r_1 => ?_)
  obtain ⟨J_2, h, hJ_2⟩ := h
  have k_3 : J_2 → WA p l e ({ frames := 4 + (d + 1), cells := 0, slots := 0, locals := 240 + 60 * (d + 1) } : Room) s m args below meth c 0 0 Q K ad 9 A 14 [(0, .ref (ad 4)), (2, .int (iI x2)), (3, .int (iI x3))] [] (dW D_hasBoard D_beganBlank F_mines F_moves F_changes G_width G_height G_size B_parts B_longest S_groups S_askedGroup S_taken R_waitingCount R_metCount A_grade A_cell A_mined A_withTotal A_numbers X_low X_high Y_low Y_high F_mined F_number F_state F_cellsIn F_unknownNear F_hitNear F_moveStart F_changed F_waiting F_seen G_near G_nearEnd B_chosen B_partOf B_rest B_unknowns B_partStart B_cells S_minedSet S_safeSet S_partSet S_tally S_askedTally S_groupOf S_groupSize S_links S_linkEnd S_pick S_groupMinedSet S_groupSafeSet O_sums O_nextSums R_found R_openEnds R_need R_waiting R_waits R_common R_met A_number Q_mined Q_all Q_choices Q_term Q_divisor Q_spare X_limbs X_sum Y_limbs Y_sum) := by
    intro h
    replace h := hJ_2 h
    refine wa_aload_n C 0 rfl dX9_place_14 rfl ?_
    refine wa_iload_n C 1 rfl dX9_place_15 rfl ?_
    refine wa_iload_n C 2 rfl dX9_place_16 rfl ?_
    refine wa_callVv C (k := 4) (As := [.int (iI x2), .int (iI x3)]) (rest := []) (c_X9_record l K ad x2 x3 rx2 rx3 _ h) gw_790 gw_787 dW_4 rfl gw_789 gs_27 gw_5 q_X9_record rfl rfl rfl ⟨by dsimp only; omega, by dsimp only; omega⟩ rfl (Nat.le_of_ble_eq_true rfl) dX9_place_17 (fun u9 hp => ?_)
    obtain ⟨S_partSet_4, S_tally_5, S_askedTally_6, S_groupMinedSet_7, S_groupSafeSet_8, rfl, h⟩ := hp
    exact ret dX9_place_20 ⟨_, _, _, _, _, _, _, _, rfl, h⟩
  refine wa_icmp_ge C (tgt := 14) rx1 r_1 dX9_place_5 (by decide) (fun c_9 => ?_) (fun c_9 => ?_)
  · replace h := h.1 c_9
    refine wa_sub C [0, 2, 3] rfl ?_
    exact k_3 h
  · replace h := h.2 c_9
    refine wa_iload_n C 1 rfl dX9_place_8 rfl ?_
    refine wa_bipush C (z := 16) dX9_place_9 (by decide) ?_
    refine wa_icmp_lt C (tgt := 21) rx1 (inR_k 16 rfl) dX9_place_11 (by decide) (fun c_10 => ?_) (fun c_10 => ?_)
    · replace h := h.1 c_10
      refine wa_aload_n C 0 rfl dX9_place_21 rfl ?_
      refine wa_getR C 4 8 dW_4 rfl rfl (by decide) okX9 gw_221 dX9_place_22 ?_
      refine wa_iload_n C 1 rfl dX9_place_25 rfl ?_
      obtain ⟨t_11, h⟩ := h
      refine wa_iald C 36 dW_36 dX9_place_26 t_11.1 t_11.2 (fun v_12 ev_12 rv_12 => ?_)
      replace h := h v_12 ev_12 rv_12
      refine wa_istore C dX9_place_27 (by decide) rfl ?_
      refine wa_iconst C (z := 0) dX9_place_29 rfl ?_
      refine wa_istore C dX9_place_30 (by decide) rfl ?_
      refine wa_iload C 1 rfl dX9_place_32 ?_
      refine wa_istore C dX9_place_34 (by decide) rfl ?_
      refine wa_iload_n C 4 rfl dX9_place_36 rfl ?_
      refine wa_bipush C (z := 8) dX9_place_37 (by decide) ?_
      refine wa_imul C dX9_place_39 ?_
      obtain ⟨r_13, h⟩ := h
      refine wa_nmi (fun x7_14 ex7_14 => ?_)
      replace h := h x7_14 ex7_14
      have rx7_14 : inR x7_14 := by rw [ex7_14]; exact r_13
      refine wa_istore C dX9_place_40 (by decide) rfl ?_
      obtain ⟨Inv_15, ⟨n_16, h0Inv_15⟩, hInv_15⟩ := h
      have k_19 : ∀ (n_17 : Nat) (x5_20 : Int) (x6_21 : Int) (x7_22 : Int), inR x5_20 → inR x6_21 → inR x7_22 → Inv_15 n_17 x5_20 x6_21 x7_22 → WA p l e ({ frames := 4 + (d + 1), cells := 0, slots := 0, locals := 240 + 60 * (d + 1) } : Room) s m args below meth c 0 0 Q K ad 9 A 42 [(0, .ref (ad 4)), (1, .int (iI x1)), (2, .int (iI x2)), (3, .int (iI x3)), (4, .int (iI v_12)), (5, .int (iI x5_20)), (6, .int (iI x6_21)), (7, .int (iI x7_22))] [] (dW D_hasBoard D_beganBlank F_mines F_moves F_changes G_width G_height G_size B_parts B_longest S_groups S_askedGroup S_taken R_waitingCount R_metCount A_grade A_cell A_mined A_withTotal A_numbers X_low X_high Y_low Y_high F_mined F_number F_state F_cellsIn F_unknownNear F_hitNear F_moveStart F_changed F_waiting F_seen G_near G_nearEnd B_chosen B_partOf B_rest B_unknowns B_partStart B_cells S_minedSet S_safeSet S_partSet S_tally S_askedTally S_groupOf S_groupSize S_links S_linkEnd S_pick S_groupMinedSet S_groupSafeSet O_sums O_nextSums R_found R_openEnds R_need R_waiting R_waits R_common R_met A_number Q_mined Q_all Q_choices Q_term Q_divisor Q_spare X_limbs X_sum Y_limbs Y_sum) := by
        intro n_17
        induction n_17 using Nat.strongRecOn with
        | ind n_17 ih_18 =>
          intro x5_20 x6_21 x7_22 rx5_20 rx6_21 rx7_22 h
          replace h := hInv_15 n_17 x5_20 x6_21 x7_22 rx5_20 rx6_21 rx7_22 h
          refine wa_iload C 7 rfl dX9_place_42 ?_
          refine wa_aload_n C 0 rfl dX9_place_44 rfl ?_
          refine wa_getR C 4 10 dW_4 rfl rfl (by decide) okX9 gw_223 dX9_place_45 ?_
          refine wa_iload_n C 1 rfl dX9_place_48 rfl ?_
          obtain ⟨t_23, h⟩ := h
          refine wa_iald C 38 dW_38 dX9_place_49 t_23.1 t_23.2 (fun v_24 ev_24 rv_24 => ?_)
          replace h := h v_24 ev_24 rv_24
          refine wa_icmp_ge C (tgt := 113) rx7_22 rv_24 dX9_place_50 (by decide) (fun c_25 => ?_) (fun c_25 => ?_)
          · replace h := h.1 c_25
            refine wa_iload C 5 rfl dX9_place_113 ?_
            refine wa_iload C 6 rfl dX9_place_115 ?_
            refine wa_icmp_le C (tgt := 121) rx5_20 rx6_21 dX9_place_117 (by decide) (fun c_26 => ?_) (fun c_26 => ?_)
            · replace h := h.1 c_26
              refine wa_aload_n C 0 rfl dX9_place_121 rfl ?_
              refine wa_iload_n C 1 rfl dX9_place_122 rfl ?_
              refine wa_iload C 4 rfl dX9_place_123 ?_
              refine wa_iload C 5 rfl dX9_place_125 ?_
              refine wa_callVv C (k := 4) (As := [.int (iI x1), .int (iI v_12), .int (iI x5_20)]) (rest := []) (c_X9_assign l K ad x1 v_12 x5_20 rx1 rv_12 rx5_20 _ h) gw_796 gw_793 dW_4 rfl gw_795 gs_28 gw_5 q_X9_assign rfl rfl rfl ⟨by dsimp only; omega, by dsimp only; omega⟩ rfl (Nat.le_of_ble_eq_true rfl) dX9_place_127 (fun u9 hp => ?_)
              obtain ⟨B_rest_27, B_unknowns_28, rfl, h⟩ := hp
              refine wa_iload C 5 rfl dX9_place_130 ?_
              refine wa_istore C dX9_place_132 (by decide) rfl ?_
              obtain ⟨Inv_29, ⟨n_30, h0Inv_29⟩, hInv_29⟩ := h
              have k_33 : ∀ (n_31 : Nat) (x7_34 : Int) (B_rest_35 : Int → Int) (B_unknowns_36 : Int → Int) (S_partSet_37 : Int → Int) (S_tally_38 : Int → Int) (S_askedTally_39 : Int → Int) (S_pick_40 : Int → Int) (S_groupMinedSet_41 : Int → Int) (S_groupSafeSet_42 : Int → Int), inR x7_34 → Inv_29 n_31 x7_34 B_rest_35 B_unknowns_36 S_partSet_37 S_tally_38 S_askedTally_39 S_pick_40 S_groupMinedSet_41 S_groupSafeSet_42 → WA p l e ({ frames := 4 + (d + 1), cells := 0, slots := 0, locals := 240 + 60 * (d + 1) } : Room) s m args below meth c 0 0 Q K ad 9 A 134 [(0, .ref (ad 4)), (1, .int (iI x1)), (2, .int (iI x2)), (3, .int (iI x3)), (4, .int (iI v_12)), (6, .int (iI x6_21)), (7, .int (iI x7_34))] [] (dW D_hasBoard D_beganBlank F_mines F_moves F_changes G_width G_height G_size B_parts B_longest S_groups S_askedGroup S_taken R_waitingCount R_metCount A_grade A_cell A_mined A_withTotal A_numbers X_low X_high Y_low Y_high F_mined F_number F_state F_cellsIn F_unknownNear F_hitNear F_moveStart F_changed F_waiting F_seen G_near G_nearEnd B_chosen B_partOf B_rest_35 B_unknowns_36 B_partStart B_cells S_minedSet S_safeSet S_partSet_37 S_tally_38 S_askedTally_39 S_groupOf S_groupSize S_links S_linkEnd S_pick_40 S_groupMinedSet_41 S_groupSafeSet_42 O_sums O_nextSums R_found R_openEnds R_need R_waiting R_waits R_common R_met A_number Q_mined Q_all Q_choices Q_term Q_divisor Q_spare X_limbs X_sum Y_limbs Y_sum) := by
                intro n_31
                induction n_31 using Nat.strongRecOn with
                | ind n_31 ih_32 =>
                  intro x7_34 B_rest_35 B_unknowns_36 S_partSet_37 S_tally_38 S_askedTally_39 S_pick_40 S_groupMinedSet_41 S_groupSafeSet_42 rx7_34 h
                  replace h := hInv_29 n_31 x7_34 B_rest_35 B_unknowns_36 S_partSet_37 S_tally_38 S_askedTally_39 S_pick_40 S_groupMinedSet_41 S_groupSafeSet_42 rx7_34 h
                  refine wa_iload C 6 rfl dX9_place_134 ?_
                  refine wa_iload C 5 rfl dX9_place_136 ?_
                  refine wa_icmp_gt C (tgt := 187) rx7_34 rx6_21 dX9_place_138 (by decide) (fun c_43 => ?_) (fun c_43 => ?_)
                  · replace h := h.1 c_43
                    refine wa_aload_n C 0 rfl dX9_place_187 rfl ?_
                    refine wa_iload_n C 1 rfl dX9_place_188 rfl ?_
                    refine wa_iload C 4 rfl dX9_place_189 ?_
                    refine wa_ineg C dX9_place_191 ?_
                    refine wa_iload C 5 rfl dX9_place_192 ?_
                    refine wa_ineg C dX9_place_194 ?_
                    refine wa_iconst C (z := 1) dX9_place_195 rfl ?_
                    refine wa_isub C dX9_place_196 ?_
                    obtain ⟨r_44, h⟩ := h
                    obtain ⟨r_45, h⟩ := h
                    refine wa_callVv C (k := 4) (As := [.int (iI x1), .int (iI (-v_12)), .int (iI ((-x6_21) - 1))]) (rest := []) (c_X9_assign l K ad x1 (-v_12) ((-x6_21) - 1) rx1 r_44 r_45 _ h) gw_796 gw_793 dW_4 rfl gw_795 gs_28 gw_5 q_X9_assign rfl rfl rfl ⟨by dsimp only; omega, by dsimp only; omega⟩ rfl (Nat.le_of_ble_eq_true rfl) dX9_place_197 (fun u9 hp => ?_)
                    obtain ⟨B_rest_46, B_unknowns_47, rfl, h⟩ := hp
                    exact ret dX9_place_200 ⟨_, _, _, _, _, _, _, _, rfl, h⟩
                  · replace h := h.2 c_43
                    refine wa_aload_n C 0 rfl dX9_place_141 rfl ?_
                    refine wa_getR C 4 11 dW_4 rfl rfl (by decide) okX9 gw_224 dX9_place_142 ?_
                    refine wa_iload_n C 1 rfl dX9_place_145 rfl ?_
                    refine wa_iload C 6 rfl dX9_place_146 ?_
                    obtain ⟨t_48, h⟩ := h
                    refine wa_iast C (ws' := fun w9 => (dW D_hasBoard D_beganBlank F_mines F_moves F_changes G_width G_height G_size B_parts B_longest S_groups S_askedGroup S_taken R_waitingCount R_metCount A_grade A_cell A_mined A_withTotal A_numbers X_low X_high Y_low Y_high F_mined F_number F_state F_cellsIn F_unknownNear F_hitNear F_moveStart F_changed F_waiting F_seen G_near G_nearEnd B_chosen B_partOf B_rest_35 B_unknowns_36 B_partStart B_cells S_minedSet S_safeSet S_partSet_37 S_tally_38 S_askedTally_39 S_groupOf S_groupSize S_links S_linkEnd w9 S_groupMinedSet_41 S_groupSafeSet_42 O_sums O_nextSums R_found R_openEnds R_need R_waiting R_waits R_common R_met A_number Q_mined Q_all Q_choices Q_term Q_divisor Q_spare X_limbs X_sum Y_limbs Y_sum)) 39 dW_39 dX9_place_148 t_48.1 t_48.2 rx7_34 dWs_39 (fun S_pick_49 eS_pick_49 => ?_)
                    replace h := h S_pick_49 eS_pick_49
                    refine wa_aload_n C 0 rfl dX9_place_149 rfl ?_
                    refine wa_iload_n C 1 rfl dX9_place_150 rfl ?_
                    refine wa_iconst C (z := 1) dX9_place_151 rfl ?_
                    refine wa_iadd C dX9_place_152 ?_
                    refine wa_iload_n C 2 rfl dX9_place_153 rfl ?_
                    refine wa_iload C 6 rfl dX9_place_154 ?_
                    refine wa_iadd C dX9_place_156 ?_
                    refine wa_iload_n C 3 rfl dX9_place_157 rfl ?_
                    refine wa_chs C gw_797 dX9_place_158 (fun tb_50 htb_50 => ?_)
                    refine wa_iload C 4 rfl dX9_place_161 ?_
                    refine wa_bipush C (z := 9) dX9_place_163 (by decide) ?_
                    refine wa_imul C dX9_place_165 ?_
                    refine wa_iload C 6 rfl dX9_place_166 ?_
                    refine wa_iadd C dX9_place_168 ?_
                    obtain ⟨t_51, h⟩ := h
                    refine wa_chld C htb_50 dX9_place_169 t_51.1 t_51.2 (fun v_52 ev_52 rv_52 => ?_)
                    replace h := h v_52 ev_52
                    refine wa_imul C dX9_place_170 ?_
                    obtain ⟨r_53, h⟩ := h
                    obtain ⟨r_54, h⟩ := h
                    obtain ⟨r_55, h⟩ := h
                    refine wa_callVv C (k := 4) (As := [.int (iI (x1 + 1)), .int (iI (x2 + x7_34)), .int (iI (x3 * v_52))]) (rest := []) (ih (x1 + 1) (x2 + x7_34) (x3 * v_52) r_53 r_54 r_55 _ h) gw_786 gw_783 dW_4 rfl gw_785 gs_26 gw_5 q_X9_place rfl rfl rfl ⟨by dsimp only; omega, by dsimp only; omega⟩ rfl (Nat.le_of_ble_eq_true rfl) dX9_place_171 (fun u9 hp => ?_)
                    obtain ⟨B_rest_56, B_unknowns_57, S_partSet_58, S_tally_59, S_askedTally_60, S_pick_61, S_groupMinedSet_62, S_groupSafeSet_63, rfl, h⟩ := hp
                    refine wa_aload_n C 0 rfl dX9_place_174 rfl ?_
                    refine wa_iload_n C 1 rfl dX9_place_175 rfl ?_
                    refine wa_iconst C (z := 0) dX9_place_176 rfl ?_
                    refine wa_iconst C (z := 1) dX9_place_177 rfl ?_
                    refine wa_callVv C (k := 4) (As := [.int (iI x1), .int (iI 0), .int (iI 1)]) (rest := []) (c_X9_assign l K ad x1 0 1 rx1 (inR_k 0 rfl) (inR_k 1 rfl) _ h) gw_796 gw_793 dW_4 rfl gw_795 gs_28 gw_5 q_X9_assign rfl rfl rfl ⟨by dsimp only; omega, by dsimp only; omega⟩ rfl (Nat.le_of_ble_eq_true rfl) dX9_place_178 (fun u9 hp => ?_)
                    obtain ⟨B_rest_64, B_unknowns_65, rfl, h⟩ := hp
                    obtain ⟨r_66, h⟩ := h
                    refine wa_iinc C (lv' := fun w9 => [(7, .int (iI w9)), (0, .ref (ad 4)), (1, .int (iI x1)), (2, .int (iI x2)), (3, .int (iI x3)), (4, .int (iI v_12)), (6, .int (iI x6_21))]) 6 rfl dX9_place_181 (by decide) (fun _ => rfl) (fun x7_67 ex7_67 => ?_)
                    replace h := h x7_67 ex7_67
                    have rx7_67 : inR x7_67 := by rw [ex7_67]; exact r_66
                    refine wa_goto C (tgt := 134) dX9_place_184 (by decide) ?_
                    obtain ⟨n_68, ln_68, h⟩ := h
                    refine wa_sub C [1, 2, 3, 4, 5, 6, 0] rfl ?_
                    exact ih_32 n_68 ln_68 x7_67 B_rest_64 B_unknowns_65 S_partSet_58 S_tally_59 S_askedTally_60 S_pick_61 S_groupMinedSet_62 S_groupSafeSet_63 rx7_67 h
              refine wa_sub C [1, 2, 3, 4, 5, 7, 0] rfl ?_
              exact k_33 n_30 x5_20 B_rest_27 B_unknowns_28 S_partSet S_tally S_askedTally S_pick S_groupMinedSet S_groupSafeSet rx5_20 h0Inv_29
            · replace h := h.2 c_26
              exact ret dX9_place_120 ⟨_, _, _, _, _, _, _, _, rfl, h⟩
          · replace h := h.2 c_25
            refine wa_aload_n C 0 rfl dX9_place_53 rfl ?_
            refine wa_getR C 4 5 dW_4 rfl rfl (by decide) okX9 gw_218 dX9_place_54 ?_
            refine wa_getR C 3 4 dW_3 rfl rfl (by decide) okX1 gw_168 dX9_place_57 ?_
            refine wa_aload_n C 0 rfl dX9_place_60 rfl ?_
            refine wa_getR C 4 9 dW_4 rfl rfl (by decide) okX9 gw_222 dX9_place_61 ?_
            refine wa_iload C 7 rfl dX9_place_64 ?_
            obtain ⟨t_69, h⟩ := h
            refine wa_iald C 37 dW_37 dX9_place_66 t_69.1 t_69.2 (fun v_70 ev_70 rv_70 => ?_)
            replace h := h v_70 ev_70 rv_70
            obtain ⟨t_71, h⟩ := h
            refine wa_iald C 26 dW_26 dX9_place_67 t_71.1 t_71.2 (fun v_72 ev_72 rv_72 => ?_)
            replace h := h v_72 ev_72 rv_72
            refine wa_istore C dX9_place_68 (by decide) rfl ?_
            refine wa_iload C 7 rfl dX9_place_70 ?_
            refine wa_iload C 0 rfl dX9_place_72 ?_
            refine wa_min C rx6_21 rv_72 gw_791 gw_625 gw_18 gw_626 (by dsimp only; omega) (by show 0 + 13 ≤ _; dsimp only; omega) dX9_place_74 ?_
            obtain ⟨r_73, h⟩ := h
            refine wa_nmi (fun x6_74 ex6_74 => ?_)
            replace h := h x6_74 ex6_74
            have rx6_74 : inR x6_74 := by rw [ex6_74]; exact r_73
            refine wa_istore C dX9_place_77 (by decide) rfl ?_
            refine wa_iload C 7 rfl dX9_place_79 ?_
            refine wa_iload C 1 rfl dX9_place_81 ?_
            refine wa_aload_n C 2 rfl dX9_place_83 rfl ?_
            refine wa_getR C 4 5 dW_4 rfl rfl (by decide) okX9 gw_218 dX9_place_84 ?_
            refine wa_getR C 3 5 dW_3 rfl rfl (by decide) okX1 gw_170 dX9_place_87 ?_
            refine wa_aload_n C 2 rfl dX9_place_90 rfl ?_
            refine wa_getR C 4 9 dW_4 rfl rfl (by decide) okX9 gw_222 dX9_place_91 ?_
            refine wa_iload C 8 rfl dX9_place_94 ?_
            obtain ⟨t_75, h⟩ := h
            refine wa_iald C 37 dW_37 dX9_place_96 t_75.1 t_75.2 (fun v_76 ev_76 rv_76 => ?_)
            replace h := h v_76 ev_76 rv_76
            obtain ⟨t_77, h⟩ := h
            refine wa_iald C 27 dW_27 dX9_place_97 t_77.1 t_77.2 (fun v_78 ev_78 rv_78 => ?_)
            replace h := h v_78 ev_78 rv_78
            refine wa_isub C dX9_place_98 ?_
            refine wa_iload C 6 rfl dX9_place_99 ?_
            refine wa_iadd C dX9_place_101 ?_
            obtain ⟨r_79, h⟩ := h
            refine wa_max C rx5_20 r_79 gw_792 gw_744 gw_18 gw_745 (by dsimp only; omega) (by show 0 + 13 ≤ _; dsimp only; omega) dX9_place_102 ?_
            obtain ⟨r_80, h⟩ := h
            refine wa_nmi (fun x5_81 ex5_81 => ?_)
            replace h := h x5_81 ex5_81
            have rx5_81 : inR x5_81 := by rw [ex5_81]; exact r_80
            refine wa_istore C dX9_place_105 (by decide) rfl ?_
            obtain ⟨r_82, h⟩ := h
            refine wa_iinc C (lv' := fun w9 => [(7, .int (iI w9)), (5, .int (iI x5_81)), (6, .int (iI x6_74)), (8, .int (iI v_72)), (0, .ref (ad 4)), (1, .int (iI x1)), (2, .int (iI x2)), (3, .int (iI x3)), (4, .int (iI v_12))]) 8 rfl dX9_place_107 (by decide) (fun _ => rfl) (fun x7_83 ex7_83 => ?_)
            replace h := h x7_83 ex7_83
            have rx7_83 : inR x7_83 := by rw [ex7_83]; exact r_82
            refine wa_goto C (tgt := 42) dX9_place_110 (by decide) ?_
            obtain ⟨n_84, ln_84, h⟩ := h
            refine wa_sub C [4, 5, 6, 7, 8, 1, 2, 0] rfl ?_
            exact ih_18 n_84 ln_84 x5_81 x6_74 x7_83 rx5_81 rx6_74 rx7_83 h
      refine wa_sub C [4, 5, 6, 7, 3, 2, 1, 0] rfl ?_
      exact k_19 n_16 0 v_12 x7_14 (inR_k 0 rfl) rv_12 rx7_14 h0Inv_15
    · replace h := h.2 c_10
      refine wa_sub C [0, 2, 3] rfl ?_
      exact k_3 h
def P_X9_take (post : (Int) → (Int) → (Int) → (Int → Int) → (Int → Int) → (Int → Int) → (Int → Int) → (Int → Int) → (Int → Int) → (Int → Int) → (Int → Int) → (Int → Int) → (Int → Int) → (Int → Int) → (Int → Int) → (Int → Int) → (Int → Int) → Prop) (S_groups : Int) (S_askedGroup : Int) (S_taken : Int) (G_near : Int → Int) (G_nearEnd : Int → Int) (B_chosen : Int → Int) (B_rest : Int → Int) (B_unknowns : Int → Int) (B_partStart : Int → Int) (B_cells : Int → Int) (S_minedSet : Int → Int) (S_safeSet : Int → Int) (S_partSet : Int → Int) (S_tally : Int → Int) (S_askedTally : Int → Int) (S_groupOf : Int → Int) (S_groupSize : Int → Int) (S_links : Int → Int) (S_linkEnd : Int → Int) (S_pick : Int → Int) (S_groupMinedSet : Int → Int) (S_groupSafeSet : Int → Int) (x1 : Int) (x2 : Int) : Prop :=
  P_X1_sizeOf (fun (c_1 : Int) => inR c_1 → ((c_1 ≤ 16 → (P_X9_formGroups (fun (S_groups_3 : Int) (S_groupOf_4 : Int → Int) (S_groupSize_5 : Int → Int) (S_links_6 : Int → Int) (S_linkEnd_7 : Int → Int) => (∃ J_8 : (Int) → Prop, ((¬ x2 = (-1) → ((0 ≤ x2 ∧ x2 < 144) ∧ (∀ v_56 : Int, v_56 = S_groupOf_4 x2 → inR v_56 → (J_8 v_56)))) ∧ (x2 = (-1) → (J_8 (-1)))) ∧ (∀ (z_10 : Int), inR z_10 → J_8 z_10 → (P_X9_clear (fun (S_partSet_11 : Int → Int) (S_tally_12 : Int → Int) (S_askedTally_13 : Int → Int) (S_groupMinedSet_14 : Int → Int) (S_groupSafeSet_15 : Int → Int) => (P_X9_place 18 (fun (B_rest_16 : Int → Int) (B_unknowns_17 : Int → Int) (S_partSet_18 : Int → Int) (S_tally_19 : Int → Int) (S_askedTally_20 : Int → Int) (S_pick_21 : Int → Int) (S_groupMinedSet_22 : Int → Int) (S_groupSafeSet_23 : Int → Int) => ((0 ≤ x1 ∧ x1 < 145) ∧ (∀ v_25 : Int, v_25 = B_partStart x1 → inR v_25 → (∃ Inv_26 : Nat → (Int) → (Int → Int) → (Int → Int) → Prop, (∃ n_27 : Nat, Inv_26 n_27 v_25 S_minedSet S_safeSet) ∧ ∀ (n_28 : Nat) (x3_31 : Int) (S_minedSet_32 : Int → Int) (S_safeSet_33 : Int → Int), inR x3_31 → Inv_26 n_28 x3_31 S_minedSet_32 S_safeSet_33 → ((0 ≤ (x1 + 1) ∧ (x1 + 1) < 145) ∧ (∀ v_35 : Int, v_35 = B_partStart (x1 + 1) → inR v_35 → ((v_35 ≤ x3_31 → (post S_groups_3 z_10 x1 B_rest_16 B_unknowns_17 S_minedSet_32 S_safeSet_33 S_partSet_18 S_tally_19 S_askedTally_20 S_groupOf_4 S_groupSize_5 S_links_6 S_linkEnd_7 S_pick_21 S_groupMinedSet_22 S_groupSafeSet_23)) ∧ (¬ v_35 ≤ x3_31 → ((0 ≤ x3_31 ∧ x3_31 < 144) ∧ (∀ v_38 : Int, v_38 = B_cells x3_31 → inR v_38 → ((0 ≤ v_38 ∧ v_38 < 144) ∧ (∀ v_40 : Int, v_40 = S_groupOf_4 v_38 → inR v_40 → ((0 ≤ v_40 ∧ v_40 < 16) ∧ (∀ v_42 : Int, v_42 = S_groupMinedSet_22 v_40 → inR v_42 → ((0 ≤ v_38 ∧ v_38 < 144) ∧ (∀ S_minedSet_44 : Int → Int, S_minedSet_44 = upZ S_minedSet_32 v_38 v_42 → ((0 ≤ v_38 ∧ v_38 < 144) ∧ (∀ v_46 : Int, v_46 = S_groupOf_4 v_38 → inR v_46 → ((0 ≤ v_46 ∧ v_46 < 16) ∧ (∀ v_48 : Int, v_48 = S_groupSafeSet_23 v_46 → inR v_48 → ((0 ≤ v_38 ∧ v_38 < 144) ∧ (∀ S_safeSet_50 : Int → Int, S_safeSet_50 = upZ S_safeSet_33 v_38 v_48 → (inR (x3_31 + 1) ∧ (∀ x3_52 : Int, x3_52 = (x3_31 + 1) → (∃ n_53 : Nat, n_53 < n_28 ∧ Inv_26 n_53 x3_52 S_minedSet_44 S_safeSet_50))))))))))))))))))))))))) S_groups_3 z_10 x1 B_rest B_unknowns B_partStart S_partSet_11 S_tally_12 S_askedTally_13 S_groupSize_5 S_links_6 S_linkEnd_7 S_pick S_groupMinedSet_14 S_groupSafeSet_15 0 0 1)) x1 B_partStart S_partSet S_tally S_askedTally S_groupMinedSet S_groupSafeSet )))) S_groups x1 G_near G_nearEnd B_chosen B_partStart B_cells S_groupOf S_groupSize S_links S_linkEnd )) ∧ (¬ c_1 ≤ 16 → (post S_groups S_askedGroup S_taken B_rest B_unknowns S_minedSet S_safeSet S_partSet S_tally S_askedTally S_groupOf S_groupSize S_links S_linkEnd S_pick S_groupMinedSet S_groupSafeSet)))) B_partStart x1
set_option maxRecDepth 100000 in
set_option maxHeartbeats 4000000 in
theorem c_X9_take (l : Launch) (K : wK) (ad : Nat → Nat) {D_hasBoard : Int} {D_beganBlank : Int} {F_mines : Int} {F_moves : Int} {F_changes : Int} {G_width : Int} {G_height : Int} {G_size : Int} {B_parts : Int} {B_longest : Int} {S_groups : Int} {S_askedGroup : Int} {S_taken : Int} {R_waitingCount : Int} {R_metCount : Int} {A_grade : Int} {A_cell : Int} {A_mined : Int} {A_withTotal : Int} {A_numbers : Int} {X_low : Int} {X_high : Int} {Y_low : Int} {Y_high : Int} {F_mined : Int → Int} {F_number : Int → Int} {F_state : Int → Int} {F_cellsIn : Int → Int} {F_unknownNear : Int → Int} {F_hitNear : Int → Int} {F_moveStart : Int → Int} {F_changed : Int → Int} {F_waiting : Int → Int} {F_seen : Int → Int} {G_near : Int → Int} {G_nearEnd : Int → Int} {B_chosen : Int → Int} {B_partOf : Int → Int} {B_rest : Int → Int} {B_unknowns : Int → Int} {B_partStart : Int → Int} {B_cells : Int → Int} {S_minedSet : Int → Int} {S_safeSet : Int → Int} {S_partSet : Int → Int} {S_tally : Int → Int} {S_askedTally : Int → Int} {S_groupOf : Int → Int} {S_groupSize : Int → Int} {S_links : Int → Int} {S_linkEnd : Int → Int} {S_pick : Int → Int} {S_groupMinedSet : Int → Int} {S_groupSafeSet : Int → Int} {O_sums : Int → Int64} {O_nextSums : Int → Int64} {R_found : Int → Int} {R_openEnds : Int → Int} {R_need : Int → Int} {R_waiting : Int → Int} {R_waits : Int → Int} {R_common : Int → Int} {R_met : Int → Int} {A_number : Int → Int} {Q_mined : Int → Int64} {Q_all : Int → Int64} {Q_choices : Int → Int64} {Q_term : Int → Int64} {Q_divisor : Int → Int64} {Q_spare : Int → Int64} {X_limbs : Int → Int64} {X_sum : Int → Int64} {Y_limbs : Int → Int64} {Y_sum : Int → Int64} (x1 : Int) (x2 : Int) (rx1 : inR x1) (rx2 : inR x2) (post : (Int) → (Int) → (Int) → (Int → Int) → (Int → Int) → (Int → Int) → (Int → Int) → (Int → Int) → (Int → Int) → (Int → Int) → (Int → Int) → (Int → Int) → (Int → Int) → (Int → Int) → (Int → Int) → (Int → Int) → (Int → Int) → Prop) (h : P_X9_take post S_groups S_askedGroup S_taken G_near G_nearEnd B_chosen B_rest B_unknowns B_partStart B_cells S_minedSet S_safeSet S_partSet S_tally S_askedTally S_groupOf S_groupSize S_links S_linkEnd S_pick S_groupMinedSet S_groupSafeSet x1 x2) : mV l yX9_take (Cond.code yX9_take cX9_take 5 none :: GT) ({ frames := 23, cells := 0, slots := 0, locals := 1380 } : Room) [.ref (ad 4), .int (iI x1), .int (iI x2)] K ad (dW D_hasBoard D_beganBlank F_mines F_moves F_changes G_width G_height G_size B_parts B_longest S_groups S_askedGroup S_taken R_waitingCount R_metCount A_grade A_cell A_mined A_withTotal A_numbers X_low X_high Y_low Y_high F_mined F_number F_state F_cellsIn F_unknownNear F_hitNear F_moveStart F_changed F_waiting F_seen G_near G_nearEnd B_chosen B_partOf B_rest B_unknowns B_partStart B_cells S_minedSet S_safeSet S_partSet S_tally S_askedTally S_groupOf S_groupSize S_links S_linkEnd S_pick S_groupMinedSet S_groupSafeSet O_sums O_nextSums R_found R_openEnds R_need R_waiting R_waits R_common R_met A_number Q_mined Q_all Q_choices Q_term Q_divisor Q_spare X_limbs X_sum Y_limbs Y_sum) (fun u9 => ∃ S_groups9 S_askedGroup9 S_taken9 B_rest9 B_unknowns9 S_minedSet9 S_safeSet9 S_partSet9 S_tally9 S_askedTally9 S_groupOf9 S_groupSize9 S_links9 S_linkEnd9 S_pick9 S_groupMinedSet9 S_groupSafeSet9, u9 = (dW D_hasBoard D_beganBlank F_mines F_moves F_changes G_width G_height G_size B_parts B_longest S_groups9 S_askedGroup9 S_taken9 R_waitingCount R_metCount A_grade A_cell A_mined A_withTotal A_numbers X_low X_high Y_low Y_high F_mined F_number F_state F_cellsIn F_unknownNear F_hitNear F_moveStart F_changed F_waiting F_seen G_near G_nearEnd B_chosen B_partOf B_rest9 B_unknowns9 B_partStart B_cells S_minedSet9 S_safeSet9 S_partSet9 S_tally9 S_askedTally9 S_groupOf9 S_groupSize9 S_links9 S_linkEnd9 S_pick9 S_groupMinedSet9 S_groupSafeSet9 O_sums O_nextSums R_found R_openEnds R_need R_waiting R_waits R_common R_met A_number Q_mined Q_all Q_choices Q_term Q_divisor Q_spare X_limbs X_sum Y_limbs Y_sum) ∧ post S_groups9 S_askedGroup9 S_taken9 B_rest9 B_unknowns9 S_minedSet9 S_safeSet9 S_partSet9 S_tally9 S_askedTally9 S_groupOf9 S_groupSize9 S_links9 S_linkEnd9 S_pick9 S_groupMinedSet9 S_groupSafeSet9) := by
  refine mV_of (lv0 := [(0, .ref (ad 4)), (1, .int (iI x1)), (2, .int (iI x2))]) (by decide) (Nat.le_of_ble_eq_true rfl) rfl ?_
  intro p e s m args below meth c Q A C ret
  replace C : Cx p ({ frames := 23, cells := 0, slots := 0, locals := 1380 } : Room) m c 0 0 cX9_take 5 s args RX9 K A := C
  unfold P_X9_take at h
  refine wa_aload_n C 0 rfl dX9_take_0 rfl ?_
  refine wa_getR C 4 5 dW_4 rfl rfl (by decide) okX9 gw_218 dX9_take_1 ?_
  refine wa_iload_n C 1 rfl dX9_take_4 rfl ?_
  refine wa_callVi C (k := 3) (As := [.int (iI x1)]) (rest := []) (c_X1_sizeOf l K ad x1 rx1 _ h) gw_757 gw_754 dW_3 rfl gw_755 gw_756 gw_4 q_X1_sizeOf rfl rfl rfl ⟨by decide, by decide⟩ rfl (Nat.le_of_ble_eq_true rfl) dX9_take_5 (fun c_1 u9 rc_1 hp => ?_)
  obtain ⟨rfl, h⟩ := hp
  replace h := h rc_1
  refine wa_bipush C (z := 16) dX9_take_8 (by decide) ?_
  refine wa_icmp_le C (tgt := 14) rc_1 (inR_k 16 rfl) dX9_take_10 (by decide) (fun c_2 => ?_) (fun c_2 => ?_)
  · replace h := h.1 c_2
    refine wa_aload_n C 0 rfl dX9_take_14 rfl ?_
    refine wa_iload_n C 1 rfl dX9_take_15 rfl ?_
    refine wa_putI C (ws' := (dW D_hasBoard D_beganBlank F_mines F_moves F_changes G_width G_height G_size B_parts B_longest S_groups S_askedGroup x1 R_waitingCount R_metCount A_grade A_cell A_mined A_withTotal A_numbers X_low X_high Y_low Y_high F_mined F_number F_state F_cellsIn F_unknownNear F_hitNear F_moveStart F_changed F_waiting F_seen G_near G_nearEnd B_chosen B_partOf B_rest B_unknowns B_partStart B_cells S_minedSet S_safeSet S_partSet S_tally S_askedTally S_groupOf S_groupSize S_links S_linkEnd S_pick S_groupMinedSet S_groupSafeSet O_sums O_nextSums R_found R_openEnds R_need R_waiting R_waits R_common R_met A_number Q_mined Q_all Q_choices Q_term Q_divisor Q_spare X_limbs X_sum Y_limbs Y_sum)) 4 16 dW_4 rfl (by decide) okX9 gw_229 rfl rfl (Nat.le_of_ble_eq_true rfl) rx1 (dWp_4_16 _) dX9_take_16 ?_
    refine wa_aload_n C 0 rfl dX9_take_19 rfl ?_
    refine wa_callVv C (k := 4) (As := []) (rest := []) (c_X9_formGroups l K ad  _ h) gw_761 gw_758 dW_4 rfl gw_760 gs_21 gw_5 q_X9_formGroups rfl rfl rfl ⟨by decide, by decide⟩ rfl (Nat.le_of_ble_eq_true rfl) dX9_take_20 (fun u9 hp => ?_)
    obtain ⟨S_groups_3, S_groupOf_4, S_groupSize_5, S_links_6, S_linkEnd_7, rfl, h⟩ := hp
    refine wa_aload_n C 0 rfl dX9_take_23 rfl ?_
    refine wa_iload_n C 2 rfl dX9_take_24 rfl ?_
    refine wa_iconst C (z := -1) dX9_take_25 rfl ?_
    obtain ⟨J_8, h, hJ_8⟩ := h
    have k_9 : ∀ (z_10 : Int), inR z_10 → J_8 z_10 → WA p l e ({ frames := 23, cells := 0, slots := 0, locals := 1380 } : Room) s m args below meth c 0 0 Q K ad 5 A 39 [(0, .ref (ad 4)), (1, .int (iI x1))] [.int (iI z_10), .ref (ad 4)] (dW D_hasBoard D_beganBlank F_mines F_moves F_changes G_width G_height G_size B_parts B_longest S_groups_3 S_askedGroup x1 R_waitingCount R_metCount A_grade A_cell A_mined A_withTotal A_numbers X_low X_high Y_low Y_high F_mined F_number F_state F_cellsIn F_unknownNear F_hitNear F_moveStart F_changed F_waiting F_seen G_near G_nearEnd B_chosen B_partOf B_rest B_unknowns B_partStart B_cells S_minedSet S_safeSet S_partSet S_tally S_askedTally S_groupOf_4 S_groupSize_5 S_links_6 S_linkEnd_7 S_pick S_groupMinedSet S_groupSafeSet O_sums O_nextSums R_found R_openEnds R_need R_waiting R_waits R_common R_met A_number Q_mined Q_all Q_choices Q_term Q_divisor Q_spare X_limbs X_sum Y_limbs Y_sum) := by
      intro z_10 rz_10 h
      replace h := hJ_8 z_10 rz_10 h
      refine wa_putI C (ws' := (dW D_hasBoard D_beganBlank F_mines F_moves F_changes G_width G_height G_size B_parts B_longest S_groups_3 z_10 x1 R_waitingCount R_metCount A_grade A_cell A_mined A_withTotal A_numbers X_low X_high Y_low Y_high F_mined F_number F_state F_cellsIn F_unknownNear F_hitNear F_moveStart F_changed F_waiting F_seen G_near G_nearEnd B_chosen B_partOf B_rest B_unknowns B_partStart B_cells S_minedSet S_safeSet S_partSet S_tally S_askedTally S_groupOf_4 S_groupSize_5 S_links_6 S_linkEnd_7 S_pick S_groupMinedSet S_groupSafeSet O_sums O_nextSums R_found R_openEnds R_need R_waiting R_waits R_common R_met A_number Q_mined Q_all Q_choices Q_term Q_divisor Q_spare X_limbs X_sum Y_limbs Y_sum)) 4 15 dW_4 rfl (by decide) okX9 gw_228 rfl rfl (Nat.le_of_ble_eq_true rfl) rz_10 (dWp_4_15 _) dX9_take_39 ?_
      refine wa_aload_n C 0 rfl dX9_take_42 rfl ?_
      refine wa_callVv C (k := 4) (As := []) (rest := []) (c_X9_clear l K ad  _ h) gw_777 gw_774 dW_4 rfl gw_776 gs_25 gw_5 q_X9_clear rfl rfl rfl ⟨by decide, by decide⟩ rfl (Nat.le_of_ble_eq_true rfl) dX9_take_43 (fun u9 hp => ?_)
      obtain ⟨S_partSet_11, S_tally_12, S_askedTally_13, S_groupMinedSet_14, S_groupSafeSet_15, rfl, h⟩ := hp
      refine wa_aload_n C 0 rfl dX9_take_46 rfl ?_
      refine wa_iconst C (z := 0) dX9_take_47 rfl ?_
      refine wa_iconst C (z := 0) dX9_take_48 rfl ?_
      refine wa_iconst C (z := 1) dX9_take_49 rfl ?_
      refine wa_callVv C (k := 4) (As := [.int (iI 0), .int (iI 0), .int (iI 1)]) (rest := []) (c_X9_place l K ad 18 0 0 1 (inR_k 0 rfl) (inR_k 0 rfl) (inR_k 1 rfl) _ h) gw_786 gw_783 dW_4 rfl gw_785 gs_26 gw_5 q_X9_place rfl rfl rfl ⟨by decide, by decide⟩ rfl (Nat.le_of_ble_eq_true rfl) dX9_take_50 (fun u9 hp => ?_)
      obtain ⟨B_rest_16, B_unknowns_17, S_partSet_18, S_tally_19, S_askedTally_20, S_pick_21, S_groupMinedSet_22, S_groupSafeSet_23, rfl, h⟩ := hp
      refine wa_aload_n C 0 rfl dX9_take_53 rfl ?_
      refine wa_getR C 4 5 dW_4 rfl rfl (by decide) okX9 gw_218 dX9_take_54 ?_
      refine wa_getR C 3 6 dW_3 rfl rfl (by decide) okX1 gw_172 dX9_take_57 ?_
      refine wa_iload_n C 1 rfl dX9_take_60 rfl ?_
      obtain ⟨t_24, h⟩ := h
      refine wa_iald C 28 dW_28 dX9_take_61 t_24.1 t_24.2 (fun v_25 ev_25 rv_25 => ?_)
      replace h := h v_25 ev_25 rv_25
      refine wa_istore_n C dX9_take_62 rfl (by decide) rfl ?_
      obtain ⟨Inv_26, ⟨n_27, h0Inv_26⟩, hInv_26⟩ := h
      have k_30 : ∀ (n_28 : Nat) (x3_31 : Int) (S_minedSet_32 : Int → Int) (S_safeSet_33 : Int → Int), inR x3_31 → Inv_26 n_28 x3_31 S_minedSet_32 S_safeSet_33 → WA p l e ({ frames := 23, cells := 0, slots := 0, locals := 1380 } : Room) s m args below meth c 0 0 Q K ad 5 A 63 [(0, .ref (ad 4)), (1, .int (iI x1)), (3, .int (iI x3_31))] [] (dW D_hasBoard D_beganBlank F_mines F_moves F_changes G_width G_height G_size B_parts B_longest S_groups_3 z_10 x1 R_waitingCount R_metCount A_grade A_cell A_mined A_withTotal A_numbers X_low X_high Y_low Y_high F_mined F_number F_state F_cellsIn F_unknownNear F_hitNear F_moveStart F_changed F_waiting F_seen G_near G_nearEnd B_chosen B_partOf B_rest_16 B_unknowns_17 B_partStart B_cells S_minedSet_32 S_safeSet_33 S_partSet_18 S_tally_19 S_askedTally_20 S_groupOf_4 S_groupSize_5 S_links_6 S_linkEnd_7 S_pick_21 S_groupMinedSet_22 S_groupSafeSet_23 O_sums O_nextSums R_found R_openEnds R_need R_waiting R_waits R_common R_met A_number Q_mined Q_all Q_choices Q_term Q_divisor Q_spare X_limbs X_sum Y_limbs Y_sum) := by
        intro n_28
        induction n_28 using Nat.strongRecOn with
        | ind n_28 ih_29 =>
          intro x3_31 S_minedSet_32 S_safeSet_33 rx3_31 h
          replace h := hInv_26 n_28 x3_31 S_minedSet_32 S_safeSet_33 rx3_31 h
          refine wa_iload_n C 2 rfl dX9_take_63 rfl ?_
          refine wa_aload_n C 0 rfl dX9_take_64 rfl ?_
          refine wa_getR C 4 5 dW_4 rfl rfl (by decide) okX9 gw_218 dX9_take_65 ?_
          refine wa_getR C 3 6 dW_3 rfl rfl (by decide) okX1 gw_172 dX9_take_68 ?_
          refine wa_iload_n C 1 rfl dX9_take_71 rfl ?_
          refine wa_iconst C (z := 1) dX9_take_72 rfl ?_
          refine wa_iadd C dX9_take_73 ?_
          obtain ⟨t_34, h⟩ := h
          refine wa_iald C 28 dW_28 dX9_take_74 t_34.1 t_34.2 (fun v_35 ev_35 rv_35 => ?_)
          replace h := h v_35 ev_35 rv_35
          refine wa_icmp_ge C (tgt := 133) rx3_31 rv_35 dX9_take_75 (by decide) (fun c_36 => ?_) (fun c_36 => ?_)
          · replace h := h.1 c_36
            exact ret dX9_take_133 ⟨_, _, _, _, _, _, _, _, _, _, _, _, _, _, _, _, _, rfl, h⟩
          · replace h := h.2 c_36
            refine wa_aload_n C 0 rfl dX9_take_78 rfl ?_
            refine wa_getR C 4 5 dW_4 rfl rfl (by decide) okX9 gw_218 dX9_take_79 ?_
            refine wa_getR C 3 7 dW_3 rfl rfl (by decide) okX1 gw_175 dX9_take_82 ?_
            refine wa_iload_n C 2 rfl dX9_take_85 rfl ?_
            obtain ⟨t_37, h⟩ := h
            refine wa_iald C 29 dW_29 dX9_take_86 t_37.1 t_37.2 (fun v_38 ev_38 rv_38 => ?_)
            replace h := h v_38 ev_38 rv_38
            refine wa_istore C dX9_take_87 (by decide) rfl ?_
            refine wa_aload_n C 1 rfl dX9_take_89 rfl ?_
            refine wa_getR C 4 0 dW_4 rfl rfl (by decide) okX9 gw_208 dX9_take_90 ?_
            refine wa_iload C 0 rfl dX9_take_93 ?_
            refine wa_aload_n C 1 rfl dX9_take_95 rfl ?_
            refine wa_getR C 4 12 dW_4 rfl rfl (by decide) okX9 gw_225 dX9_take_96 ?_
            refine wa_aload_n C 1 rfl dX9_take_99 rfl ?_
            refine wa_getR C 4 7 dW_4 rfl rfl (by decide) okX9 gw_220 dX9_take_100 ?_
            refine wa_iload C 0 rfl dX9_take_103 ?_
            obtain ⟨t_39, h⟩ := h
            refine wa_iald C 35 dW_35 dX9_take_105 t_39.1 t_39.2 (fun v_40 ev_40 rv_40 => ?_)
            replace h := h v_40 ev_40 rv_40
            obtain ⟨t_41, h⟩ := h
            refine wa_iald C 40 dW_40 dX9_take_106 t_41.1 t_41.2 (fun v_42 ev_42 rv_42 => ?_)
            replace h := h v_42 ev_42 rv_42
            obtain ⟨t_43, h⟩ := h
            refine wa_iast C (ws' := fun w9 => (dW D_hasBoard D_beganBlank F_mines F_moves F_changes G_width G_height G_size B_parts B_longest S_groups_3 z_10 x1 R_waitingCount R_metCount A_grade A_cell A_mined A_withTotal A_numbers X_low X_high Y_low Y_high F_mined F_number F_state F_cellsIn F_unknownNear F_hitNear F_moveStart F_changed F_waiting F_seen G_near G_nearEnd B_chosen B_partOf B_rest_16 B_unknowns_17 B_partStart B_cells w9 S_safeSet_33 S_partSet_18 S_tally_19 S_askedTally_20 S_groupOf_4 S_groupSize_5 S_links_6 S_linkEnd_7 S_pick_21 S_groupMinedSet_22 S_groupSafeSet_23 O_sums O_nextSums R_found R_openEnds R_need R_waiting R_waits R_common R_met A_number Q_mined Q_all Q_choices Q_term Q_divisor Q_spare X_limbs X_sum Y_limbs Y_sum)) 30 dW_30 dX9_take_107 t_43.1 t_43.2 rv_42 dWs_30 (fun S_minedSet_44 eS_minedSet_44 => ?_)
            replace h := h S_minedSet_44 eS_minedSet_44
            refine wa_aload_n C 1 rfl dX9_take_108 rfl ?_
            refine wa_getR C 4 1 dW_4 rfl rfl (by decide) okX9 gw_210 dX9_take_109 ?_
            refine wa_iload C 0 rfl dX9_take_112 ?_
            refine wa_aload_n C 1 rfl dX9_take_114 rfl ?_
            refine wa_getR C 4 13 dW_4 rfl rfl (by decide) okX9 gw_226 dX9_take_115 ?_
            refine wa_aload_n C 1 rfl dX9_take_118 rfl ?_
            refine wa_getR C 4 7 dW_4 rfl rfl (by decide) okX9 gw_220 dX9_take_119 ?_
            refine wa_iload C 0 rfl dX9_take_122 ?_
            obtain ⟨t_45, h⟩ := h
            refine wa_iald C 35 dW_35 dX9_take_124 t_45.1 t_45.2 (fun v_46 ev_46 rv_46 => ?_)
            replace h := h v_46 ev_46 rv_46
            obtain ⟨t_47, h⟩ := h
            refine wa_iald C 41 dW_41 dX9_take_125 t_47.1 t_47.2 (fun v_48 ev_48 rv_48 => ?_)
            replace h := h v_48 ev_48 rv_48
            obtain ⟨t_49, h⟩ := h
            refine wa_iast C (ws' := fun w9 => (dW D_hasBoard D_beganBlank F_mines F_moves F_changes G_width G_height G_size B_parts B_longest S_groups_3 z_10 x1 R_waitingCount R_metCount A_grade A_cell A_mined A_withTotal A_numbers X_low X_high Y_low Y_high F_mined F_number F_state F_cellsIn F_unknownNear F_hitNear F_moveStart F_changed F_waiting F_seen G_near G_nearEnd B_chosen B_partOf B_rest_16 B_unknowns_17 B_partStart B_cells S_minedSet_44 w9 S_partSet_18 S_tally_19 S_askedTally_20 S_groupOf_4 S_groupSize_5 S_links_6 S_linkEnd_7 S_pick_21 S_groupMinedSet_22 S_groupSafeSet_23 O_sums O_nextSums R_found R_openEnds R_need R_waiting R_waits R_common R_met A_number Q_mined Q_all Q_choices Q_term Q_divisor Q_spare X_limbs X_sum Y_limbs Y_sum)) 31 dW_31 dX9_take_126 t_49.1 t_49.2 rv_48 dWs_31 (fun S_safeSet_50 eS_safeSet_50 => ?_)
            replace h := h S_safeSet_50 eS_safeSet_50
            obtain ⟨r_51, h⟩ := h
            refine wa_iinc C (lv' := fun w9 => [(3, .int (iI w9)), (4, .int (iI v_38)), (0, .ref (ad 4)), (1, .int (iI x1))]) 3 rfl dX9_take_127 (by decide) (fun _ => rfl) (fun x3_52 ex3_52 => ?_)
            replace h := h x3_52 ex3_52
            have rx3_52 : inR x3_52 := by rw [ex3_52]; exact r_51
            refine wa_goto C (tgt := 63) dX9_take_130 (by decide) ?_
            obtain ⟨n_53, ln_53, h⟩ := h
            refine wa_sub C [2, 3, 0] rfl ?_
            exact ih_29 n_53 ln_53 x3_52 S_minedSet_44 S_safeSet_50 rx3_52 h
      refine wa_sub C [1, 2, 0] rfl ?_
      exact k_30 n_27 v_25 S_minedSet S_safeSet rv_25 h0Inv_26
    refine wa_icmp_ne C (tgt := 33) rx2 (inR_k (-1) rfl) dX9_take_26 (by decide) (fun c_54 => ?_) (fun c_54 => ?_)
    · replace h := h.1 c_54
      refine wa_aload_n C 0 rfl dX9_take_33 rfl ?_
      refine wa_getR C 4 7 dW_4 rfl rfl (by decide) okX9 gw_220 dX9_take_34 ?_
      refine wa_iload_n C 2 rfl dX9_take_37 rfl ?_
      obtain ⟨t_55, h⟩ := h
      refine wa_iald C 35 dW_35 dX9_take_38 t_55.1 t_55.2 (fun v_56 ev_56 rv_56 => ?_)
      replace h := h v_56 ev_56 rv_56
      refine wa_sub C [0, 1] rfl ?_
      exact k_9 v_56 rv_56 h
    · replace h := h.2 c_54
      refine wa_iconst C (z := -1) dX9_take_29 rfl ?_
      refine wa_goto C (tgt := 39) dX9_take_30 (by decide) ?_
      refine wa_sub C [0, 1] rfl ?_
      exact k_9 (-1) (inR_k (-1) rfl) h
  · replace h := h.2 c_2
    exact ret dX9_take_13 ⟨_, _, _, _, _, _, _, _, _, _, _, _, _, _, _, _, _, rfl, h⟩
