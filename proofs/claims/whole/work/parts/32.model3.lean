theorem dX12_isPlayed_0 : decode cX12_isPlayed 0 = .ok (.aload_n 0, 1) := by decide +kernel
theorem dX12_isPlayed_1 : decode cX12_isPlayed 1 = .ok (.invokevirtual 116, 3) := by decide +kernel
theorem dX12_isPlayed_4 : decode cX12_isPlayed 4 = .ok (.aload_n 0, 1) := by decide +kernel
theorem dX12_isPlayed_5 : decode cX12_isPlayed 5 = .ok (.iload_n 1, 1) := by decide +kernel
theorem dX12_isPlayed_6 : decode cX12_isPlayed 6 = .ok (.invokevirtual 155, 3) := by decide +kernel
theorem dX12_isPlayed_9 : decode cX12_isPlayed 9 = .ok (.iconst 1, 1) := by decide +kernel
theorem dX12_isPlayed_10 : decode cX12_isPlayed 10 = .ok (.istore_n 3, 1) := by decide +kernel
theorem dX12_isPlayed_11 : decode cX12_isPlayed 11 = .ok (.iload_n 3, 1) := by decide +kernel
theorem dX12_isPlayed_12 : decode cX12_isPlayed 12 = .ok (.iload_n 2, 1) := by decide +kernel
theorem dX12_isPlayed_13 : decode cX12_isPlayed 13 = .ok (.if_icmp .gt 73, 3) := by decide +kernel
theorem dX12_isPlayed_16 : decode cX12_isPlayed 16 = .ok (.aload_n 0, 1) := by decide +kernel
theorem dX12_isPlayed_17 : decode cX12_isPlayed 17 = .ok (.iload_n 3, 1) := by decide +kernel
theorem dX12_isPlayed_18 : decode cX12_isPlayed 18 = .ok (.invokevirtual 159, 3) := by decide +kernel
theorem dX12_isPlayed_21 : decode cX12_isPlayed 21 = .ok (.iconst 0, 1) := by decide +kernel
theorem dX12_isPlayed_22 : decode cX12_isPlayed 22 = .ok (.istore 4, 2) := by decide +kernel
theorem dX12_isPlayed_24 : decode cX12_isPlayed 24 = .ok (.iconst 0, 1) := by decide +kernel
theorem dX12_isPlayed_25 : decode cX12_isPlayed 25 = .ok (.istore 5, 2) := by decide +kernel
theorem dX12_isPlayed_27 : decode cX12_isPlayed 27 = .ok (.iload 5, 2) := by decide +kernel
theorem dX12_isPlayed_29 : decode cX12_isPlayed 29 = .ok (.aload_n 0, 1) := by decide +kernel
theorem dX12_isPlayed_30 : decode cX12_isPlayed 30 = .ok (.getfield 100, 3) := by decide +kernel
theorem dX12_isPlayed_33 : decode cX12_isPlayed 33 = .ok (.if_icmp .ge 37, 3) := by decide +kernel
theorem dX12_isPlayed_36 : decode cX12_isPlayed 36 = .ok (.aload_n 0, 1) := by decide +kernel
theorem dX12_isPlayed_37 : decode cX12_isPlayed 37 = .ok (.getfield 30, 3) := by decide +kernel
theorem dX12_isPlayed_40 : decode cX12_isPlayed 40 = .ok (.iload 5, 2) := by decide +kernel
theorem dX12_isPlayed_42 : decode cX12_isPlayed 42 = .ok (.baload, 1) := by decide +kernel
theorem dX12_isPlayed_43 : decode cX12_isPlayed 43 = .ok (.ifCond .eq 21, 3) := by decide +kernel
theorem dX12_isPlayed_46 : decode cX12_isPlayed 46 = .ok (.aload_n 0, 1) := by decide +kernel
theorem dX12_isPlayed_47 : decode cX12_isPlayed 47 = .ok (.iload 5, 2) := by decide +kernel
theorem dX12_isPlayed_49 : decode cX12_isPlayed 49 = .ok (.invokevirtual 143, 3) := by decide +kernel
theorem dX12_isPlayed_52 : decode cX12_isPlayed 52 = .ok (.ifCond .eq 12, 3) := by decide +kernel
theorem dX12_isPlayed_55 : decode cX12_isPlayed 55 = .ok (.aload_n 0, 1) := by decide +kernel
theorem dX12_isPlayed_56 : decode cX12_isPlayed 56 = .ok (.iload 5, 2) := by decide +kernel
theorem dX12_isPlayed_58 : decode cX12_isPlayed 58 = .ok (.invokevirtual 155, 3) := by decide +kernel
theorem dX12_isPlayed_61 : decode cX12_isPlayed 61 = .ok (.iconst 1, 1) := by decide +kernel
theorem dX12_isPlayed_62 : decode cX12_isPlayed 62 = .ok (.istore 4, 2) := by decide +kernel
theorem dX12_isPlayed_64 : decode cX12_isPlayed 64 = .ok (.iinc 5 1, 3) := by decide +kernel
theorem dX12_isPlayed_67 : decode cX12_isPlayed 67 = .ok (.goto (-40), 3) := by decide +kernel
theorem dX12_isPlayed_70 : decode cX12_isPlayed 70 = .ok (.iload 4, 2) := by decide +kernel
theorem dX12_isPlayed_72 : decode cX12_isPlayed 72 = .ok (.ifCond .eq 7, 3) := by decide +kernel
theorem dX12_isPlayed_75 : decode cX12_isPlayed 75 = .ok (.iconst 1, 1) := by decide +kernel
theorem dX12_isPlayed_76 : decode cX12_isPlayed 76 = .ok (.goto 6, 3) := by decide +kernel
theorem dX12_isPlayed_79 : decode cX12_isPlayed 79 = .ok (.iload_n 3, 1) := by decide +kernel
theorem dX12_isPlayed_80 : decode cX12_isPlayed 80 = .ok (.iconst 1, 1) := by decide +kernel
theorem dX12_isPlayed_81 : decode cX12_isPlayed 81 = .ok (.iadd, 1) := by decide +kernel
theorem dX12_isPlayed_82 : decode cX12_isPlayed 82 = .ok (.istore_n 3, 1) := by decide +kernel
theorem dX12_isPlayed_83 : decode cX12_isPlayed 83 = .ok (.goto (-72), 3) := by decide +kernel
theorem dX12_isPlayed_86 : decode cX12_isPlayed 86 = .ok (.aload_n 0, 1) := by decide +kernel
theorem dX12_isPlayed_87 : decode cX12_isPlayed 87 = .ok (.invokevirtual 162, 3) := by decide +kernel
theorem dX12_isPlayed_90 : decode cX12_isPlayed 90 = .ok (.ireturn, 1) := by decide +kernel
theorem dX12_isNextToNumber_0 : decode cX12_isNextToNumber 0 = .ok (.aload_n 0, 1) := by decide +kernel
theorem dX12_isNextToNumber_1 : decode cX12_isNextToNumber 1 = .ok (.iload_n 1, 1) := by decide +kernel
theorem dX12_isNextToNumber_2 : decode cX12_isNextToNumber 2 = .ok (.iconst 1, 1) := by decide +kernel
theorem dX12_isNextToNumber_3 : decode cX12_isNextToNumber 3 = .ok (.invokevirtual 173, 3) := by decide +kernel
theorem dX12_isNextToNumber_6 : decode cX12_isNextToNumber 6 = .ok (.ifCond .le 7, 3) := by decide +kernel
theorem dX12_isNextToNumber_9 : decode cX12_isNextToNumber 9 = .ok (.iconst 1, 1) := by decide +kernel
theorem dX12_isNextToNumber_10 : decode cX12_isNextToNumber 10 = .ok (.goto 4, 3) := by decide +kernel
theorem dX12_isNextToNumber_13 : decode cX12_isNextToNumber 13 = .ok (.iconst 0, 1) := by decide +kernel
theorem dX12_isNextToNumber_14 : decode cX12_isNextToNumber 14 = .ok (.ireturn, 1) := by decide +kernel
theorem dX12_isMended_0 : decode cX12_isMended 0 = .ok (.iconst (-1), 1) := by decide +kernel
theorem dX12_isMended_1 : decode cX12_isMended 1 = .ok (.istore_n 1, 1) := by decide +kernel
theorem dX12_isMended_2 : decode cX12_isMended 2 = .ok (.iconst (-1), 1) := by decide +kernel
theorem dX12_isMended_3 : decode cX12_isMended 3 = .ok (.istore_n 2, 1) := by decide +kernel
theorem dX12_isMended_4 : decode cX12_isMended 4 = .ok (.aload_n 0, 1) := by decide +kernel
theorem dX12_isMended_5 : decode cX12_isMended 5 = .ok (.getfield 100, 3) := by decide +kernel
theorem dX12_isMended_8 : decode cX12_isMended 8 = .ok (.iconst 1, 1) := by decide +kernel
theorem dX12_isMended_9 : decode cX12_isMended 9 = .ok (.isub, 1) := by decide +kernel
theorem dX12_isMended_10 : decode cX12_isMended 10 = .ok (.istore_n 3, 1) := by decide +kernel
theorem dX12_isMended_11 : decode cX12_isMended 11 = .ok (.iload_n 3, 1) := by decide +kernel
theorem dX12_isMended_12 : decode cX12_isMended 12 = .ok (.ifCond .lt 63, 3) := by decide +kernel
theorem dX12_isMended_15 : decode cX12_isMended 15 = .ok (.aload_n 0, 1) := by decide +kernel
theorem dX12_isMended_16 : decode cX12_isMended 16 = .ok (.iload_n 3, 1) := by decide +kernel
theorem dX12_isMended_17 : decode cX12_isMended 17 = .ok (.invokevirtual 143, 3) := by decide +kernel
theorem dX12_isMended_20 : decode cX12_isMended 20 = .ok (.ifCond .eq 22, 3) := by decide +kernel
theorem dX12_isMended_23 : decode cX12_isMended 23 = .ok (.aload_n 0, 1) := by decide +kernel
theorem dX12_isMended_24 : decode cX12_isMended 24 = .ok (.getfield 16, 3) := by decide +kernel
theorem dX12_isMended_27 : decode cX12_isMended 27 = .ok (.iload_n 3, 1) := by decide +kernel
theorem dX12_isMended_28 : decode cX12_isMended 28 = .ok (.baload, 1) := by decide +kernel
theorem dX12_isMended_29 : decode cX12_isMended 29 = .ok (.ifCond .eq 13, 3) := by decide +kernel
theorem dX12_isMended_32 : decode cX12_isMended 32 = .ok (.aload_n 0, 1) := by decide +kernel
theorem dX12_isMended_33 : decode cX12_isMended 33 = .ok (.iload_n 3, 1) := by decide +kernel
theorem dX12_isMended_34 : decode cX12_isMended 34 = .ok (.invokevirtual 177, 3) := by decide +kernel
theorem dX12_isMended_37 : decode cX12_isMended 37 = .ok (.ifCond .eq 5, 3) := by decide +kernel
theorem dX12_isMended_40 : decode cX12_isMended 40 = .ok (.iload_n 3, 1) := by decide +kernel
theorem dX12_isMended_41 : decode cX12_isMended 41 = .ok (.istore_n 1, 1) := by decide +kernel
theorem dX12_isMended_42 : decode cX12_isMended 42 = .ok (.aload_n 0, 1) := by decide +kernel
theorem dX12_isMended_43 : decode cX12_isMended 43 = .ok (.iload_n 3, 1) := by decide +kernel
theorem dX12_isMended_44 : decode cX12_isMended 44 = .ok (.invokevirtual 143, 3) := by decide +kernel
theorem dX12_isMended_47 : decode cX12_isMended 47 = .ok (.ifCond .eq 22, 3) := by decide +kernel
theorem dX12_isMended_50 : decode cX12_isMended 50 = .ok (.aload_n 0, 1) := by decide +kernel
theorem dX12_isMended_51 : decode cX12_isMended 51 = .ok (.getfield 16, 3) := by decide +kernel
theorem dX12_isMended_54 : decode cX12_isMended 54 = .ok (.iload_n 3, 1) := by decide +kernel
theorem dX12_isMended_55 : decode cX12_isMended 55 = .ok (.baload, 1) := by decide +kernel
theorem dX12_isMended_56 : decode cX12_isMended 56 = .ok (.ifCond .ne 13, 3) := by decide +kernel
theorem dX12_isMended_59 : decode cX12_isMended 59 = .ok (.aload_n 0, 1) := by decide +kernel
theorem dX12_isMended_60 : decode cX12_isMended 60 = .ok (.iload_n 3, 1) := by decide +kernel
theorem dX12_isMended_61 : decode cX12_isMended 61 = .ok (.invokevirtual 177, 3) := by decide +kernel
theorem dX12_isMended_64 : decode cX12_isMended 64 = .ok (.ifCond .ne 5, 3) := by decide +kernel
theorem dX12_isMended_67 : decode cX12_isMended 67 = .ok (.iload_n 3, 1) := by decide +kernel
theorem dX12_isMended_68 : decode cX12_isMended 68 = .ok (.istore_n 2, 1) := by decide +kernel
theorem dX12_isMended_69 : decode cX12_isMended 69 = .ok (.iinc 3 (-1), 3) := by decide +kernel
theorem dX12_isMended_72 : decode cX12_isMended 72 = .ok (.goto (-61), 3) := by decide +kernel
theorem dX12_isMended_75 : decode cX12_isMended 75 = .ok (.iload_n 1, 1) := by decide +kernel
theorem dX12_isMended_76 : decode cX12_isMended 76 = .ok (.ifCond .lt 7, 3) := by decide +kernel
theorem dX12_isMended_79 : decode cX12_isMended 79 = .ok (.iload_n 2, 1) := by decide +kernel
theorem dX12_isMended_80 : decode cX12_isMended 80 = .ok (.ifCond .ge 5, 3) := by decide +kernel
theorem dX12_isMended_83 : decode cX12_isMended 83 = .ok (.iconst 0, 1) := by decide +kernel
theorem dX12_isMended_84 : decode cX12_isMended 84 = .ok (.ireturn, 1) := by decide +kernel
theorem dX12_isMended_85 : decode cX12_isMended 85 = .ok (.aload_n 0, 1) := by decide +kernel
theorem dX12_isMended_86 : decode cX12_isMended 86 = .ok (.getfield 16, 3) := by decide +kernel
theorem dX12_isMended_89 : decode cX12_isMended 89 = .ok (.iload_n 1, 1) := by decide +kernel
theorem dX12_isMended_90 : decode cX12_isMended 90 = .ok (.iconst 0, 1) := by decide +kernel
theorem dX12_isMended_91 : decode cX12_isMended 91 = .ok (.bastore, 1) := by decide +kernel
theorem dX12_isMended_92 : decode cX12_isMended 92 = .ok (.aload_n 0, 1) := by decide +kernel
theorem dX12_isMended_93 : decode cX12_isMended 93 = .ok (.getfield 16, 3) := by decide +kernel
theorem dX12_isMended_96 : decode cX12_isMended 96 = .ok (.iload_n 2, 1) := by decide +kernel
theorem dX12_isMended_97 : decode cX12_isMended 97 = .ok (.iconst 1, 1) := by decide +kernel
theorem dX12_isMended_98 : decode cX12_isMended 98 = .ok (.bastore, 1) := by decide +kernel
theorem dX12_isMended_99 : decode cX12_isMended 99 = .ok (.iconst 1, 1) := by decide +kernel
theorem dX12_isMended_100 : decode cX12_isMended 100 = .ok (.ireturn, 1) := by decide +kernel
theorem dX12_isTooMany_0 : decode cX12_isTooMany 0 = .ok (.iload_n 2, 1) := by decide +kernel
theorem dX12_isTooMany_1 : decode cX12_isTooMany 1 = .ok (.iconst 2, 1) := by decide +kernel
theorem dX12_isTooMany_2 : decode cX12_isTooMany 2 = .ok (.idiv, 1) := by decide +kernel
theorem dX12_isTooMany_3 : decode cX12_isTooMany 3 = .ok (.iload_n 1, 1) := by decide +kernel
theorem dX12_isTooMany_4 : decode cX12_isTooMany 4 = .ok (.imul, 1) := by decide +kernel
theorem dX12_isTooMany_5 : decode cX12_isTooMany 5 = .ok (.iload_n 1, 1) := by decide +kernel
theorem dX12_isTooMany_6 : decode cX12_isTooMany 6 = .ok (.iconst 2, 1) := by decide +kernel
theorem dX12_isTooMany_7 : decode cX12_isTooMany 7 = .ok (.idiv, 1) := by decide +kernel
theorem dX12_isTooMany_8 : decode cX12_isTooMany 8 = .ok (.iadd, 1) := by decide +kernel
theorem dX12_isTooMany_9 : decode cX12_isTooMany 9 = .ok (.istore 5, 2) := by decide +kernel
theorem dX12_isTooMany_11 : decode cX12_isTooMany 11 = .ok (.iconst 1, 1) := by decide +kernel
theorem dX12_isTooMany_12 : decode cX12_isTooMany 12 = .ok (.istore 6, 2) := by decide +kernel
theorem dX12_isTooMany_14 : decode cX12_isTooMany 14 = .ok (.iconst 0, 1) := by decide +kernel
theorem dX12_isTooMany_15 : decode cX12_isTooMany 15 = .ok (.istore 7, 2) := by decide +kernel
theorem dX12_isTooMany_17 : decode cX12_isTooMany 17 = .ok (.iload 7, 2) := by decide +kernel
theorem dX12_isTooMany_19 : decode cX12_isTooMany 19 = .ok (.iload_n 1, 1) := by decide +kernel
theorem dX12_isTooMany_20 : decode cX12_isTooMany 20 = .ok (.iload_n 2, 1) := by decide +kernel
theorem dX12_isTooMany_21 : decode cX12_isTooMany 21 = .ok (.imul, 1) := by decide +kernel
theorem dX12_isTooMany_22 : decode cX12_isTooMany 22 = .ok (.if_icmp .ge 116, 3) := by decide +kernel
theorem dX12_isTooMany_25 : decode cX12_isTooMany 25 = .ok (.iconst 0, 1) := by decide +kernel
theorem dX12_isTooMany_26 : decode cX12_isTooMany 26 = .ok (.istore 8, 2) := by decide +kernel
theorem dX12_isTooMany_28 : decode cX12_isTooMany 28 = .ok (.iconst 0, 1) := by decide +kernel
theorem dX12_isTooMany_29 : decode cX12_isTooMany 29 = .ok (.istore 9, 2) := by decide +kernel
theorem dX12_isTooMany_31 : decode cX12_isTooMany 31 = .ok (.iload 9, 2) := by decide +kernel
theorem dX12_isTooMany_33 : decode cX12_isTooMany 33 = .ok (.bipush 9, 2) := by decide +kernel
theorem dX12_isTooMany_35 : decode cX12_isTooMany 35 = .ok (.if_icmp .ge 75, 3) := by decide +kernel
theorem dX12_isTooMany_38 : decode cX12_isTooMany 38 = .ok (.iload 8, 2) := by decide +kernel
theorem dX12_isTooMany_40 : decode cX12_isTooMany 40 = .ok (.ifCond .ne 57, 3) := by decide +kernel
theorem dX12_isTooMany_43 : decode cX12_isTooMany 43 = .ok (.iload_n 3, 1) := by decide +kernel
theorem dX12_isTooMany_44 : decode cX12_isTooMany 44 = .ok (.iconst 2, 1) := by decide +kernel
theorem dX12_isTooMany_45 : decode cX12_isTooMany 45 = .ok (.irem, 1) := by decide +kernel
theorem dX12_isTooMany_46 : decode cX12_isTooMany 46 = .ok (.iconst 1, 1) := by decide +kernel
theorem dX12_isTooMany_47 : decode cX12_isTooMany 47 = .ok (.if_icmp .eq 9, 3) := by decide +kernel
theorem dX12_isTooMany_50 : decode cX12_isTooMany 50 = .ok (.iload 9, 2) := by decide +kernel
theorem dX12_isTooMany_52 : decode cX12_isTooMany 52 = .ok (.iconst 4, 1) := by decide +kernel
theorem dX12_isTooMany_53 : decode cX12_isTooMany 53 = .ok (.if_icmp .ne 48, 3) := by decide +kernel
theorem dX12_isTooMany_56 : decode cX12_isTooMany 56 = .ok (.iload_n 3, 1) := by decide +kernel
theorem dX12_isTooMany_57 : decode cX12_isTooMany 57 = .ok (.iload 5, 2) := by decide +kernel
theorem dX12_isTooMany_59 : decode cX12_isTooMany 59 = .ok (.iload_n 1, 1) := by decide +kernel
theorem dX12_isTooMany_60 : decode cX12_isTooMany 60 = .ok (.idiv, 1) := by decide +kernel
theorem dX12_isTooMany_61 : decode cX12_isTooMany 61 = .ok (.iload 5, 2) := by decide +kernel
theorem dX12_isTooMany_63 : decode cX12_isTooMany 63 = .ok (.iload_n 1, 1) := by decide +kernel
theorem dX12_isTooMany_64 : decode cX12_isTooMany 64 = .ok (.irem, 1) := by decide +kernel
theorem dX12_isTooMany_65 : decode cX12_isTooMany 65 = .ok (.iload 7, 2) := by decide +kernel
theorem dX12_isTooMany_67 : decode cX12_isTooMany 67 = .ok (.iload_n 1, 1) := by decide +kernel
theorem dX12_isTooMany_68 : decode cX12_isTooMany 68 = .ok (.idiv, 1) := by decide +kernel
theorem dX12_isTooMany_69 : decode cX12_isTooMany 69 = .ok (.iload 9, 2) := by decide +kernel
theorem dX12_isTooMany_71 : decode cX12_isTooMany 71 = .ok (.iconst 3, 1) := by decide +kernel
theorem dX12_isTooMany_72 : decode cX12_isTooMany 72 = .ok (.idiv, 1) := by decide +kernel
theorem dX12_isTooMany_73 : decode cX12_isTooMany 73 = .ok (.iconst 1, 1) := by decide +kernel
theorem dX12_isTooMany_74 : decode cX12_isTooMany 74 = .ok (.isub, 1) := by decide +kernel
theorem dX12_isTooMany_75 : decode cX12_isTooMany 75 = .ok (.iload_n 2, 1) := by decide +kernel
theorem dX12_isTooMany_76 : decode cX12_isTooMany 76 = .ok (.imul, 1) := by decide +kernel
theorem dX12_isTooMany_77 : decode cX12_isTooMany 77 = .ok (.iadd, 1) := by decide +kernel
theorem dX12_isTooMany_78 : decode cX12_isTooMany 78 = .ok (.iload 7, 2) := by decide +kernel
theorem dX12_isTooMany_80 : decode cX12_isTooMany 80 = .ok (.iload_n 1, 1) := by decide +kernel
theorem dX12_isTooMany_81 : decode cX12_isTooMany 81 = .ok (.irem, 1) := by decide +kernel
theorem dX12_isTooMany_82 : decode cX12_isTooMany 82 = .ok (.iload 9, 2) := by decide +kernel
theorem dX12_isTooMany_84 : decode cX12_isTooMany 84 = .ok (.iconst 3, 1) := by decide +kernel
theorem dX12_isTooMany_85 : decode cX12_isTooMany 85 = .ok (.irem, 1) := by decide +kernel
theorem dX12_isTooMany_86 : decode cX12_isTooMany 86 = .ok (.iconst 1, 1) := by decide +kernel
theorem dX12_isTooMany_87 : decode cX12_isTooMany 87 = .ok (.isub, 1) := by decide +kernel
theorem dX12_isTooMany_88 : decode cX12_isTooMany 88 = .ok (.iload_n 1, 1) := by decide +kernel
theorem dX12_isTooMany_89 : decode cX12_isTooMany 89 = .ok (.imul, 1) := by decide +kernel
theorem dX12_isTooMany_90 : decode cX12_isTooMany 90 = .ok (.iadd, 1) := by decide +kernel
theorem dX12_isTooMany_91 : decode cX12_isTooMany 91 = .ok (.invokestatic 93, 3) := by decide +kernel
theorem dX12_isTooMany_94 : decode cX12_isTooMany 94 = .ok (.ifCond .eq 7, 3) := by decide +kernel
theorem dX12_isTooMany_97 : decode cX12_isTooMany 97 = .ok (.iconst 1, 1) := by decide +kernel
theorem dX12_isTooMany_98 : decode cX12_isTooMany 98 = .ok (.goto 4, 3) := by decide +kernel
theorem dX12_isTooMany_101 : decode cX12_isTooMany 101 = .ok (.iconst 0, 1) := by decide +kernel
theorem dX12_isTooMany_102 : decode cX12_isTooMany 102 = .ok (.istore 8, 2) := by decide +kernel
theorem dX12_isTooMany_104 : decode cX12_isTooMany 104 = .ok (.iinc 9 1, 3) := by decide +kernel
theorem dX12_isTooMany_107 : decode cX12_isTooMany 107 = .ok (.goto (-76), 3) := by decide +kernel
theorem dX12_isTooMany_110 : decode cX12_isTooMany 110 = .ok (.iload 6, 2) := by decide +kernel
theorem dX12_isTooMany_112 : decode cX12_isTooMany 112 = .ok (.iload 8, 2) := by decide +kernel
theorem dX12_isTooMany_114 : decode cX12_isTooMany 114 = .ok (.ifCond .eq 14, 3) := by decide +kernel
theorem dX12_isTooMany_117 : decode cX12_isTooMany 117 = .ok (.iload 7, 2) := by decide +kernel
theorem dX12_isTooMany_119 : decode cX12_isTooMany 119 = .ok (.iload 5, 2) := by decide +kernel
theorem dX12_isTooMany_121 : decode cX12_isTooMany 121 = .ok (.if_icmp .eq 7, 3) := by decide +kernel
theorem dX12_isTooMany_124 : decode cX12_isTooMany 124 = .ok (.iconst 1, 1) := by decide +kernel
theorem dX12_isTooMany_125 : decode cX12_isTooMany 125 = .ok (.goto 4, 3) := by decide +kernel
theorem dX12_isTooMany_128 : decode cX12_isTooMany 128 = .ok (.iconst 0, 1) := by decide +kernel
theorem dX12_isTooMany_129 : decode cX12_isTooMany 129 = .ok (.iadd, 1) := by decide +kernel
theorem dX12_isTooMany_130 : decode cX12_isTooMany 130 = .ok (.istore 6, 2) := by decide +kernel
theorem dX12_isTooMany_132 : decode cX12_isTooMany 132 = .ok (.iinc 7 1, 3) := by decide +kernel
theorem dX12_isTooMany_135 : decode cX12_isTooMany 135 = .ok (.goto (-118), 3) := by decide +kernel
theorem dX12_isTooMany_138 : decode cX12_isTooMany 138 = .ok (.iload 4, 2) := by decide +kernel
theorem dX12_isTooMany_140 : decode cX12_isTooMany 140 = .ok (.iload_n 1, 1) := by decide +kernel
theorem dX12_isTooMany_141 : decode cX12_isTooMany 141 = .ok (.iload_n 2, 1) := by decide +kernel
theorem dX12_isTooMany_142 : decode cX12_isTooMany 142 = .ok (.imul, 1) := by decide +kernel
theorem dX12_isTooMany_143 : decode cX12_isTooMany 143 = .ok (.iload 6, 2) := by decide +kernel
theorem dX12_isTooMany_145 : decode cX12_isTooMany 145 = .ok (.isub, 1) := by decide +kernel
theorem dX12_isTooMany_146 : decode cX12_isTooMany 146 = .ok (.if_icmp .le 7, 3) := by decide +kernel
theorem dX12_isTooMany_149 : decode cX12_isTooMany 149 = .ok (.iconst 1, 1) := by decide +kernel
theorem dX12_isTooMany_150 : decode cX12_isTooMany 150 = .ok (.goto 4, 3) := by decide +kernel
theorem dX12_isTooMany_153 : decode cX12_isTooMany 153 = .ok (.iconst 0, 1) := by decide +kernel
theorem dX12_isTooMany_154 : decode cX12_isTooMany 154 = .ok (.ireturn, 1) := by decide +kernel
theorem dX12_make_0 : decode cX12_make 0 = .ok (.aload_n 0, 1) := by decide +kernel
theorem dX12_make_1 : decode cX12_make 1 = .ok (.iconst 0, 1) := by decide +kernel
theorem dX12_make_2 : decode cX12_make 2 = .ok (.putfield 79, 3) := by decide +kernel
theorem dX12_make_5 : decode cX12_make 5 = .ok (.iload_n 1, 1) := by decide +kernel
theorem dX12_make_6 : decode cX12_make 6 = .ok (.iload_n 2, 1) := by decide +kernel
theorem dX12_make_7 : decode cX12_make 7 = .ok (.iload 4, 2) := by decide +kernel
theorem dX12_make_9 : decode cX12_make 9 = .ok (.invokestatic 180, 3) := by decide +kernel
theorem dX12_make_12 : decode cX12_make 12 = .ok (.ifCond .eq 30, 3) := by decide +kernel
theorem dX12_make_15 : decode cX12_make 15 = .ok (.iload_n 3, 1) := by decide +kernel
theorem dX12_make_16 : decode cX12_make 16 = .ok (.iconst 1, 1) := by decide +kernel
theorem dX12_make_17 : decode cX12_make 17 = .ok (.if_icmp .lt 25, 3) := by decide +kernel
theorem dX12_make_20 : decode cX12_make 20 = .ok (.iload 6, 2) := by decide +kernel
theorem dX12_make_22 : decode cX12_make 22 = .ok (.iconst 1, 1) := by decide +kernel
theorem dX12_make_23 : decode cX12_make 23 = .ok (.iconst 3, 1) := by decide +kernel
theorem dX12_make_24 : decode cX12_make 24 = .ok (.invokestatic 83, 3) := by decide +kernel
theorem dX12_make_27 : decode cX12_make 27 = .ok (.ifCond .eq 15, 3) := by decide +kernel
theorem dX12_make_30 : decode cX12_make 30 = .ok (.aload_n 0, 1) := by decide +kernel
theorem dX12_make_31 : decode cX12_make 31 = .ok (.iload_n 1, 1) := by decide +kernel
theorem dX12_make_32 : decode cX12_make 32 = .ok (.iload_n 2, 1) := by decide +kernel
theorem dX12_make_33 : decode cX12_make 33 = .ok (.iload 4, 2) := by decide +kernel
theorem dX12_make_35 : decode cX12_make 35 = .ok (.iload_n 3, 1) := by decide +kernel
theorem dX12_make_36 : decode cX12_make 36 = .ok (.invokevirtual 183, 3) := by decide +kernel
theorem dX12_make_39 : decode cX12_make 39 = .ok (.ifCond .eq 9, 3) := by decide +kernel
theorem dX12_make_42 : decode cX12_make 42 = .ok (.aload_n 0, 1) := by decide +kernel
theorem dX12_make_43 : decode cX12_make 43 = .ok (.iconst 1, 1) := by decide +kernel
theorem dX12_make_44 : decode cX12_make 44 = .ok (.invokevirtual 187, 3) := by decide +kernel
theorem dX12_make_47 : decode cX12_make 47 = .ok (.ireturn, 1) := by decide +kernel
theorem dX12_make_48 : decode cX12_make 48 = .ok (.aload_n 0, 1) := by decide +kernel
theorem dX12_make_49 : decode cX12_make 49 = .ok (.iload_n 1, 1) := by decide +kernel
theorem dX12_make_50 : decode cX12_make 50 = .ok (.iload_n 2, 1) := by decide +kernel
theorem dX12_make_51 : decode cX12_make 51 = .ok (.iload 4, 2) := by decide +kernel
theorem dX12_make_53 : decode cX12_make 53 = .ok (.invokevirtual 190, 3) := by decide +kernel
theorem dX12_make_56 : decode cX12_make 56 = .ok (.aload_n 0, 1) := by decide +kernel
theorem dX12_make_57 : decode cX12_make 57 = .ok (.iconst 0, 1) := by decide +kernel
theorem dX12_make_58 : decode cX12_make 58 = .ok (.putfield 194, 3) := by decide +kernel
theorem dX12_make_61 : decode cX12_make 61 = .ok (.aload_n 0, 1) := by decide +kernel
theorem dX12_make_62 : decode cX12_make 62 = .ok (.getfield 97, 3) := by decide +kernel
theorem dX12_make_65 : decode cX12_make 65 = .ok (.iconst 2, 1) := by decide +kernel
theorem dX12_make_66 : decode cX12_make 66 = .ok (.idiv, 1) := by decide +kernel
theorem dX12_make_67 : decode cX12_make 67 = .ok (.aload_n 0, 1) := by decide +kernel
theorem dX12_make_68 : decode cX12_make 68 = .ok (.getfield 87, 3) := by decide +kernel
theorem dX12_make_71 : decode cX12_make 71 = .ok (.imul, 1) := by decide +kernel
theorem dX12_make_72 : decode cX12_make 72 = .ok (.aload_n 0, 1) := by decide +kernel
theorem dX12_make_73 : decode cX12_make 73 = .ok (.getfield 87, 3) := by decide +kernel
theorem dX12_make_76 : decode cX12_make 76 = .ok (.iconst 2, 1) := by decide +kernel
theorem dX12_make_77 : decode cX12_make 77 = .ok (.idiv, 1) := by decide +kernel
theorem dX12_make_78 : decode cX12_make 78 = .ok (.iadd, 1) := by decide +kernel
theorem dX12_make_79 : decode cX12_make 79 = .ok (.istore 7, 2) := by decide +kernel
theorem dX12_make_81 : decode cX12_make 81 = .ok (.aload_n 0, 1) := by decide +kernel
theorem dX12_make_82 : decode cX12_make 82 = .ok (.iload 7, 2) := by decide +kernel
theorem dX12_make_84 : decode cX12_make 84 = .ok (.iload_n 3, 1) := by decide +kernel
theorem dX12_make_85 : decode cX12_make 85 = .ok (.iload 5, 2) := by decide +kernel
theorem dX12_make_87 : decode cX12_make 87 = .ok (.invokevirtual 197, 3) := by decide +kernel
theorem dX12_make_90 : decode cX12_make 90 = .ok (.iconst 0, 1) := by decide +kernel
theorem dX12_make_91 : decode cX12_make 91 = .ok (.istore 8, 2) := by decide +kernel
theorem dX12_make_93 : decode cX12_make 93 = .ok (.iconst 1, 1) := by decide +kernel
theorem dX12_make_94 : decode cX12_make 94 = .ok (.istore 9, 2) := by decide +kernel
theorem dX12_make_96 : decode cX12_make 96 = .ok (.iload 9, 2) := by decide +kernel
theorem dX12_make_98 : decode cX12_make 98 = .ok (.ifCond .eq 41, 3) := by decide +kernel
theorem dX12_make_101 : decode cX12_make 101 = .ok (.aload_n 0, 1) := by decide +kernel
theorem dX12_make_102 : decode cX12_make 102 = .ok (.iload 7, 2) := by decide +kernel
theorem dX12_make_104 : decode cX12_make 104 = .ok (.iload 6, 2) := by decide +kernel
theorem dX12_make_106 : decode cX12_make 106 = .ok (.invokevirtual 200, 3) := by decide +kernel
theorem dX12_make_109 : decode cX12_make 109 = .ok (.ifCond .ne 30, 3) := by decide +kernel
theorem dX12_make_112 : decode cX12_make 112 = .ok (.iload 8, 2) := by decide +kernel
theorem dX12_make_114 : decode cX12_make 114 = .ok (.bipush 100, 2) := by decide +kernel
theorem dX12_make_116 : decode cX12_make 116 = .ok (.if_icmp .ge 14, 3) := by decide +kernel
theorem dX12_make_119 : decode cX12_make 119 = .ok (.aload_n 0, 1) := by decide +kernel
theorem dX12_make_120 : decode cX12_make 120 = .ok (.invokevirtual 203, 3) := by decide +kernel
theorem dX12_make_123 : decode cX12_make 123 = .ok (.ifCond .eq 7, 3) := by decide +kernel
theorem dX12_make_126 : decode cX12_make 126 = .ok (.iconst 1, 1) := by decide +kernel
theorem dX12_make_127 : decode cX12_make 127 = .ok (.goto 4, 3) := by decide +kernel
theorem dX12_make_130 : decode cX12_make 130 = .ok (.iconst 0, 1) := by decide +kernel
theorem dX12_make_131 : decode cX12_make 131 = .ok (.istore 9, 2) := by decide +kernel
theorem dX12_make_133 : decode cX12_make 133 = .ok (.iinc 8 1, 3) := by decide +kernel
theorem dX12_make_136 : decode cX12_make 136 = .ok (.goto (-40), 3) := by decide +kernel
theorem dX12_make_139 : decode cX12_make 139 = .ok (.aload_n 0, 1) := by decide +kernel
theorem dX12_make_140 : decode cX12_make 140 = .ok (.invokevirtual 116, 3) := by decide +kernel
theorem dX12_make_143 : decode cX12_make 143 = .ok (.aload_n 0, 1) := by decide +kernel
theorem dX12_make_144 : decode cX12_make 144 = .ok (.iconst 3, 1) := by decide +kernel
theorem dX12_make_145 : decode cX12_make 145 = .ok (.putfield 113, 3) := by decide +kernel
theorem dX12_make_148 : decode cX12_make 148 = .ok (.aload_n 0, 1) := by decide +kernel
theorem dX12_make_149 : decode cX12_make 149 = .ok (.iload 9, 2) := by decide +kernel
theorem dX12_make_151 : decode cX12_make 151 = .ok (.putfield 119, 3) := by decide +kernel
theorem dX12_make_154 : decode cX12_make 154 = .ok (.iload 9, 2) := by decide +kernel
theorem dX12_make_156 : decode cX12_make 156 = .ok (.ifCond .eq 7, 3) := by decide +kernel
theorem dX12_make_159 : decode cX12_make 159 = .ok (.iconst 1, 1) := by decide +kernel
theorem dX12_make_160 : decode cX12_make 160 = .ok (.goto 4, 3) := by decide +kernel
theorem dX12_make_163 : decode cX12_make 163 = .ok (.iconst 0, 1) := by decide +kernel
theorem dX12_make_164 : decode cX12_make 164 = .ok (.ireturn, 1) := by decide +kernel
theorem dX12_blank_0 : decode cX12_blank 0 = .ok (.aload_n 0, 1) := by decide +kernel
theorem dX12_blank_1 : decode cX12_blank 1 = .ok (.iconst 0, 1) := by decide +kernel
theorem dX12_blank_2 : decode cX12_blank 2 = .ok (.putfield 79, 3) := by decide +kernel
theorem dX12_blank_5 : decode cX12_blank 5 = .ok (.iload_n 1, 1) := by decide +kernel
theorem dX12_blank_6 : decode cX12_blank 6 = .ok (.iload_n 2, 1) := by decide +kernel
theorem dX12_blank_7 : decode cX12_blank 7 = .ok (.iload_n 3, 1) := by decide +kernel
theorem dX12_blank_8 : decode cX12_blank 8 = .ok (.invokestatic 180, 3) := by decide +kernel
theorem dX12_blank_11 : decode cX12_blank 11 = .ok (.ifCond .ne 9, 3) := by decide +kernel
theorem dX12_blank_14 : decode cX12_blank 14 = .ok (.aload_n 0, 1) := by decide +kernel
theorem dX12_blank_15 : decode cX12_blank 15 = .ok (.iconst 1, 1) := by decide +kernel
theorem dX12_blank_16 : decode cX12_blank 16 = .ok (.putfield 79, 3) := by decide +kernel
theorem dX12_blank_19 : decode cX12_blank 19 = .ok (.return_, 1) := by decide +kernel
theorem dX12_blank_20 : decode cX12_blank 20 = .ok (.aload_n 0, 1) := by decide +kernel
theorem dX12_blank_21 : decode cX12_blank 21 = .ok (.iload_n 1, 1) := by decide +kernel
theorem dX12_blank_22 : decode cX12_blank 22 = .ok (.iload_n 2, 1) := by decide +kernel
theorem dX12_blank_23 : decode cX12_blank 23 = .ok (.iload_n 3, 1) := by decide +kernel
theorem dX12_blank_24 : decode cX12_blank 24 = .ok (.invokevirtual 190, 3) := by decide +kernel
theorem dX12_blank_27 : decode cX12_blank 27 = .ok (.aload_n 0, 1) := by decide +kernel
theorem dX12_blank_28 : decode cX12_blank 28 = .ok (.iconst 1, 1) := by decide +kernel
theorem dX12_blank_29 : decode cX12_blank 29 = .ok (.putfield 194, 3) := by decide +kernel
theorem dX12_blank_32 : decode cX12_blank 32 = .ok (.return_, 1) := by decide +kernel
theorem dX12_isCell_0 : decode cX12_isCell 0 = .ok (.iload_n 1, 1) := by decide +kernel
theorem dX12_isCell_1 : decode cX12_isCell 1 = .ok (.iconst 0, 1) := by decide +kernel
theorem dX12_isCell_2 : decode cX12_isCell 2 = .ok (.aload_n 0, 1) := by decide +kernel
theorem dX12_isCell_3 : decode cX12_isCell 3 = .ok (.getfield 97, 3) := by decide +kernel
theorem dX12_isCell_6 : decode cX12_isCell 6 = .ok (.iconst 1, 1) := by decide +kernel
theorem dX12_isCell_7 : decode cX12_isCell 7 = .ok (.isub, 1) := by decide +kernel
theorem dX12_isCell_8 : decode cX12_isCell 8 = .ok (.invokestatic 83, 3) := by decide +kernel
theorem dX12_isCell_11 : decode cX12_isCell 11 = .ok (.ifCond .eq 21, 3) := by decide +kernel
theorem dX12_isCell_14 : decode cX12_isCell 14 = .ok (.iload_n 2, 1) := by decide +kernel
theorem dX12_isCell_15 : decode cX12_isCell 15 = .ok (.iconst 0, 1) := by decide +kernel
theorem dX12_isCell_16 : decode cX12_isCell 16 = .ok (.aload_n 0, 1) := by decide +kernel
theorem dX12_isCell_17 : decode cX12_isCell 17 = .ok (.getfield 87, 3) := by decide +kernel
theorem dX12_isCell_20 : decode cX12_isCell 20 = .ok (.iconst 1, 1) := by decide +kernel
theorem dX12_isCell_21 : decode cX12_isCell 21 = .ok (.isub, 1) := by decide +kernel
theorem dX12_isCell_22 : decode cX12_isCell 22 = .ok (.invokestatic 83, 3) := by decide +kernel
theorem dX12_isCell_25 : decode cX12_isCell 25 = .ok (.ifCond .eq 7, 3) := by decide +kernel
theorem dX12_isCell_28 : decode cX12_isCell 28 = .ok (.iconst 1, 1) := by decide +kernel
theorem dX12_isCell_29 : decode cX12_isCell 29 = .ok (.goto 4, 3) := by decide +kernel
theorem dX12_isCell_32 : decode cX12_isCell 32 = .ok (.iconst 0, 1) := by decide +kernel
theorem dX12_isCell_33 : decode cX12_isCell 33 = .ok (.ireturn, 1) := by decide +kernel
theorem dX12_has_0 : decode cX12_has 0 = .ok (.aload_n 0, 1) := by decide +kernel
theorem dX12_has_1 : decode cX12_has 1 = .ok (.getfield 119, 3) := by decide +kernel
theorem dX12_has_4 : decode cX12_has 4 = .ok (.ifCond .ne 11, 3) := by decide +kernel
theorem dX12_has_7 : decode cX12_has 7 = .ok (.aload_n 0, 1) := by decide +kernel
theorem dX12_has_8 : decode cX12_has 8 = .ok (.iconst 1, 1) := by decide +kernel
theorem dX12_has_9 : decode cX12_has 9 = .ok (.putfield 79, 3) := by decide +kernel
theorem dX12_has_12 : decode cX12_has 12 = .ok (.goto 17, 3) := by decide +kernel
theorem dX12_has_15 : decode cX12_has 15 = .ok (.aload_n 0, 1) := by decide +kernel
theorem dX12_has_16 : decode cX12_has 16 = .ok (.iload_n 1, 1) := by decide +kernel
theorem dX12_has_17 : decode cX12_has 17 = .ok (.iload_n 2, 1) := by decide +kernel
theorem dX12_has_18 : decode cX12_has 18 = .ok (.invokevirtual 206, 3) := by decide +kernel
theorem dX12_has_21 : decode cX12_has 21 = .ok (.ifCond .ne 8, 3) := by decide +kernel
theorem dX12_has_24 : decode cX12_has 24 = .ok (.aload_n 0, 1) := by decide +kernel
theorem dX12_has_25 : decode cX12_has 25 = .ok (.iconst 2, 1) := by decide +kernel
theorem dX12_has_26 : decode cX12_has 26 = .ok (.putfield 79, 3) := by decide +kernel
theorem dX12_has_29 : decode cX12_has 29 = .ok (.aload_n 0, 1) := by decide +kernel
theorem dX12_has_30 : decode cX12_has 30 = .ok (.getfield 79, 3) := by decide +kernel
theorem dX12_has_33 : decode cX12_has 33 = .ok (.ifCond .ne 7, 3) := by decide +kernel
theorem dX12_has_36 : decode cX12_has 36 = .ok (.iconst 1, 1) := by decide +kernel
theorem dX12_has_37 : decode cX12_has 37 = .ok (.goto 4, 3) := by decide +kernel
theorem dX12_has_40 : decode cX12_has 40 = .ok (.iconst 0, 1) := by decide +kernel
theorem dX12_has_41 : decode cX12_has 41 = .ok (.ireturn, 1) := by decide +kernel
theorem dX12_edit_0 : decode cX12_edit 0 = .ok (.aload_n 0, 1) := by decide +kernel
theorem dX12_edit_1 : decode cX12_edit 1 = .ok (.iconst 0, 1) := by decide +kernel
theorem dX12_edit_2 : decode cX12_edit 2 = .ok (.putfield 79, 3) := by decide +kernel
theorem dX12_edit_5 : decode cX12_edit 5 = .ok (.aload_n 0, 1) := by decide +kernel
theorem dX12_edit_6 : decode cX12_edit 6 = .ok (.iload_n 1, 1) := by decide +kernel
theorem dX12_edit_7 : decode cX12_edit 7 = .ok (.iload_n 2, 1) := by decide +kernel
theorem dX12_edit_8 : decode cX12_edit 8 = .ok (.invokevirtual 209, 3) := by decide +kernel
theorem dX12_edit_11 : decode cX12_edit 11 = .ok (.ifCond .ne 5, 3) := by decide +kernel
theorem dX12_edit_14 : decode cX12_edit 14 = .ok (.iconst 0, 1) := by decide +kernel
theorem dX12_edit_15 : decode cX12_edit 15 = .ok (.ireturn, 1) := by decide +kernel
theorem dX12_edit_16 : decode cX12_edit 16 = .ok (.aload_n 0, 1) := by decide +kernel
theorem dX12_edit_17 : decode cX12_edit 17 = .ok (.getfield 194, 3) := by decide +kernel
theorem dX12_edit_20 : decode cX12_edit 20 = .ok (.ifCond .eq 10, 3) := by decide +kernel
theorem dX12_edit_23 : decode cX12_edit 23 = .ok (.aload_n 0, 1) := by decide +kernel
theorem dX12_edit_24 : decode cX12_edit 24 = .ok (.getfield 110, 3) := by decide +kernel
theorem dX12_edit_27 : decode cX12_edit 27 = .ok (.ifCond .le 9, 3) := by decide +kernel
theorem dX12_edit_30 : decode cX12_edit 30 = .ok (.aload_n 0, 1) := by decide +kernel
theorem dX12_edit_31 : decode cX12_edit 31 = .ok (.iconst 3, 1) := by decide +kernel
theorem dX12_edit_32 : decode cX12_edit 32 = .ok (.invokevirtual 187, 3) := by decide +kernel
theorem dX12_edit_35 : decode cX12_edit 35 = .ok (.ireturn, 1) := by decide +kernel
theorem dX12_edit_36 : decode cX12_edit 36 = .ok (.aload_n 0, 1) := by decide +kernel
theorem dX12_edit_37 : decode cX12_edit 37 = .ok (.getfield 16, 3) := by decide +kernel
theorem dX12_edit_40 : decode cX12_edit 40 = .ok (.aload_n 0, 1) := by decide +kernel
theorem dX12_edit_41 : decode cX12_edit 41 = .ok (.getfield 87, 3) := by decide +kernel
theorem dX12_edit_44 : decode cX12_edit 44 = .ok (.iload_n 1, 1) := by decide +kernel
theorem dX12_edit_45 : decode cX12_edit 45 = .ok (.imul, 1) := by decide +kernel
theorem dX12_edit_46 : decode cX12_edit 46 = .ok (.iload_n 2, 1) := by decide +kernel
theorem dX12_edit_47 : decode cX12_edit 47 = .ok (.iadd, 1) := by decide +kernel
theorem dX12_edit_48 : decode cX12_edit 48 = .ok (.iload_n 3, 1) := by decide +kernel
theorem dX12_edit_49 : decode cX12_edit 49 = .ok (.bastore, 1) := by decide +kernel
theorem dX12_edit_50 : decode cX12_edit 50 = .ok (.aload_n 0, 1) := by decide +kernel
theorem dX12_edit_51 : decode cX12_edit 51 = .ok (.invokevirtual 132, 3) := by decide +kernel
theorem dX12_edit_54 : decode cX12_edit 54 = .ok (.ireturn, 1) := by decide +kernel
theorem dX12_keep_0 : decode cX12_keep 0 = .ok (.iconst 0, 1) := by decide +kernel
theorem dX12_keep_1 : decode cX12_keep 1 = .ok (.istore_n 1, 1) := by decide +kernel
theorem dX12_keep_2 : decode cX12_keep 2 = .ok (.iload_n 1, 1) := by decide +kernel
theorem dX12_keep_3 : decode cX12_keep 3 = .ok (.iconst 5, 1) := by decide +kernel
theorem dX12_keep_4 : decode cX12_keep 4 = .ok (.if_icmp .ge 23, 3) := by decide +kernel
theorem dX12_keep_7 : decode cX12_keep 7 = .ok (.aload_n 0, 1) := by decide +kernel
theorem dX12_keep_8 : decode cX12_keep 8 = .ok (.getfield 23, 3) := by decide +kernel
theorem dX12_keep_11 : decode cX12_keep 11 = .ok (.iconst 5, 1) := by decide +kernel
theorem dX12_keep_12 : decode cX12_keep 12 = .ok (.aload_n 0, 1) := by decide +kernel
theorem dX12_keep_13 : decode cX12_keep 13 = .ok (.getfield 110, 3) := by decide +kernel
theorem dX12_keep_16 : decode cX12_keep 16 = .ok (.imul, 1) := by decide +kernel
theorem dX12_keep_17 : decode cX12_keep 17 = .ok (.iload_n 1, 1) := by decide +kernel
theorem dX12_keep_18 : decode cX12_keep 18 = .ok (.iadd, 1) := by decide +kernel
theorem dX12_keep_19 : decode cX12_keep 19 = .ok (.lconst 0, 1) := by decide +kernel
theorem dX12_keep_20 : decode cX12_keep 20 = .ok (.lastore, 1) := by decide +kernel
theorem dX12_keep_21 : decode cX12_keep 21 = .ok (.iinc 1 1, 3) := by decide +kernel
theorem dX12_keep_24 : decode cX12_keep 24 = .ok (.goto (-22), 3) := by decide +kernel
theorem dX12_keep_27 : decode cX12_keep 27 = .ok (.iconst 0, 1) := by decide +kernel
theorem dX12_keep_28 : decode cX12_keep 28 = .ok (.istore_n 1, 1) := by decide +kernel
theorem dX12_keep_29 : decode cX12_keep 29 = .ok (.iload_n 1, 1) := by decide +kernel
theorem dX12_keep_30 : decode cX12_keep 30 = .ok (.aload_n 0, 1) := by decide +kernel
theorem dX12_keep_31 : decode cX12_keep 31 = .ok (.getfield 100, 3) := by decide +kernel
theorem dX12_keep_34 : decode cX12_keep 34 = .ok (.if_icmp .ge 42, 3) := by decide +kernel
theorem dX12_keep_37 : decode cX12_keep 37 = .ok (.aload_n 0, 1) := by decide +kernel
theorem dX12_keep_38 : decode cX12_keep 38 = .ok (.getfield 23, 3) := by decide +kernel
theorem dX12_keep_41 : decode cX12_keep 41 = .ok (.iconst 5, 1) := by decide +kernel
theorem dX12_keep_42 : decode cX12_keep 42 = .ok (.aload_n 0, 1) := by decide +kernel
theorem dX12_keep_43 : decode cX12_keep 43 = .ok (.getfield 110, 3) := by decide +kernel
theorem dX12_keep_46 : decode cX12_keep 46 = .ok (.imul, 1) := by decide +kernel
theorem dX12_keep_47 : decode cX12_keep 47 = .ok (.iload_n 1, 1) := by decide +kernel
theorem dX12_keep_48 : decode cX12_keep 48 = .ok (.bipush 32, 2) := by decide +kernel
theorem dX12_keep_50 : decode cX12_keep 50 = .ok (.idiv, 1) := by decide +kernel
theorem dX12_keep_51 : decode cX12_keep 51 = .ok (.iadd, 1) := by decide +kernel
theorem dX12_keep_52 : decode cX12_keep 52 = .ok (.dup2, 1) := by decide +kernel
theorem dX12_keep_53 : decode cX12_keep 53 = .ok (.laload, 1) := by decide +kernel
theorem dX12_keep_54 : decode cX12_keep 54 = .ok (.aload_n 0, 1) := by decide +kernel
theorem dX12_keep_55 : decode cX12_keep 55 = .ok (.getfield 20, 3) := by decide +kernel
theorem dX12_keep_58 : decode cX12_keep 58 = .ok (.iload_n 1, 1) := by decide +kernel
theorem dX12_keep_59 : decode cX12_keep 59 = .ok (.iaload, 1) := by decide +kernel
theorem dX12_keep_60 : decode cX12_keep 60 = .ok (.i2l, 1) := by decide +kernel
theorem dX12_keep_61 : decode cX12_keep 61 = .ok (.iconst 2, 1) := by decide +kernel
theorem dX12_keep_62 : decode cX12_keep 62 = .ok (.iload_n 1, 1) := by decide +kernel
theorem dX12_keep_63 : decode cX12_keep 63 = .ok (.bipush 32, 2) := by decide +kernel
theorem dX12_keep_65 : decode cX12_keep 65 = .ok (.irem, 1) := by decide +kernel
theorem dX12_keep_66 : decode cX12_keep 66 = .ok (.imul, 1) := by decide +kernel
theorem dX12_keep_67 : decode cX12_keep 67 = .ok (.lshl, 1) := by decide +kernel
theorem dX12_keep_68 : decode cX12_keep 68 = .ok (.lor, 1) := by decide +kernel
theorem dX12_keep_69 : decode cX12_keep 69 = .ok (.lastore, 1) := by decide +kernel
theorem dX12_keep_70 : decode cX12_keep 70 = .ok (.iinc 1 1, 3) := by decide +kernel
theorem dX12_keep_73 : decode cX12_keep 73 = .ok (.goto (-44), 3) := by decide +kernel
theorem dX12_keep_76 : decode cX12_keep 76 = .ok (.aload_n 0, 1) := by decide +kernel
theorem dX12_keep_77 : decode cX12_keep 77 = .ok (.getfield 27, 3) := by decide +kernel
theorem dX12_keep_80 : decode cX12_keep 80 = .ok (.aload_n 0, 1) := by decide +kernel
theorem dX12_keep_81 : decode cX12_keep 81 = .ok (.getfield 110, 3) := by decide +kernel
theorem dX12_keep_84 : decode cX12_keep 84 = .ok (.aload_n 0, 1) := by decide +kernel
theorem dX12_keep_85 : decode cX12_keep 85 = .ok (.getfield 113, 3) := by decide +kernel
theorem dX12_keep_88 : decode cX12_keep 88 = .ok (.iastore, 1) := by decide +kernel
theorem dX12_keep_89 : decode cX12_keep 89 = .ok (.aload_n 0, 1) := by decide +kernel
theorem dX12_keep_90 : decode cX12_keep 90 = .ok (.dup, 1) := by decide +kernel
theorem dX12_keep_91 : decode cX12_keep 91 = .ok (.getfield 110, 3) := by decide +kernel
theorem dX12_keep_94 : decode cX12_keep 94 = .ok (.iconst 1, 1) := by decide +kernel
theorem dX12_keep_95 : decode cX12_keep 95 = .ok (.iadd, 1) := by decide +kernel
theorem dX12_keep_96 : decode cX12_keep 96 = .ok (.putfield 110, 3) := by decide +kernel
theorem dX12_keep_99 : decode cX12_keep 99 = .ok (.return_, 1) := by decide +kernel
theorem dX12_open_0 : decode cX12_open 0 = .ok (.aload_n 0, 1) := by decide +kernel
theorem dX12_open_1 : decode cX12_open 1 = .ok (.iconst 0, 1) := by decide +kernel
theorem dX12_open_2 : decode cX12_open 2 = .ok (.putfield 79, 3) := by decide +kernel
theorem dX12_open_5 : decode cX12_open 5 = .ok (.aload_n 0, 1) := by decide +kernel
theorem dX12_open_6 : decode cX12_open 6 = .ok (.iload_n 1, 1) := by decide +kernel
theorem dX12_open_7 : decode cX12_open 7 = .ok (.iload_n 2, 1) := by decide +kernel
theorem dX12_open_8 : decode cX12_open 8 = .ok (.invokevirtual 209, 3) := by decide +kernel
theorem dX12_open_11 : decode cX12_open 11 = .ok (.ifCond .ne 5, 3) := by decide +kernel
theorem dX12_open_14 : decode cX12_open 14 = .ok (.iconst 0, 1) := by decide +kernel
theorem dX12_open_15 : decode cX12_open 15 = .ok (.ireturn, 1) := by decide +kernel
theorem dX12_open_16 : decode cX12_open 16 = .ok (.aload_n 0, 1) := by decide +kernel
theorem dX12_open_17 : decode cX12_open 17 = .ok (.getfield 87, 3) := by decide +kernel
theorem dX12_open_20 : decode cX12_open 20 = .ok (.iload_n 1, 1) := by decide +kernel
theorem dX12_open_21 : decode cX12_open 21 = .ok (.imul, 1) := by decide +kernel
theorem dX12_open_22 : decode cX12_open 22 = .ok (.iload_n 2, 1) := by decide +kernel
theorem dX12_open_23 : decode cX12_open 23 = .ok (.iadd, 1) := by decide +kernel
theorem dX12_open_24 : decode cX12_open 24 = .ok (.istore_n 3, 1) := by decide +kernel
theorem dX12_open_25 : decode cX12_open 25 = .ok (.aload_n 0, 1) := by decide +kernel
theorem dX12_open_26 : decode cX12_open 26 = .ok (.getfield 20, 3) := by decide +kernel
theorem dX12_open_29 : decode cX12_open 29 = .ok (.iload_n 3, 1) := by decide +kernel
theorem dX12_open_30 : decode cX12_open 30 = .ok (.iaload, 1) := by decide +kernel
theorem dX12_open_31 : decode cX12_open 31 = .ok (.ifCond .ne 11, 3) := by decide +kernel
theorem dX12_open_34 : decode cX12_open 34 = .ok (.aload_n 0, 1) := by decide +kernel
theorem dX12_open_35 : decode cX12_open 35 = .ok (.getfield 113, 3) := by decide +kernel
theorem dX12_open_38 : decode cX12_open 38 = .ok (.iconst 1, 1) := by decide +kernel
theorem dX12_open_39 : decode cX12_open 39 = .ok (.if_icmp .ge 9, 3) := by decide +kernel
theorem dX12_open_42 : decode cX12_open 42 = .ok (.aload_n 0, 1) := by decide +kernel
theorem dX12_open_43 : decode cX12_open 43 = .ok (.iconst 3, 1) := by decide +kernel
theorem dX12_open_44 : decode cX12_open 44 = .ok (.invokevirtual 187, 3) := by decide +kernel
theorem dX12_open_47 : decode cX12_open 47 = .ok (.ireturn, 1) := by decide +kernel
theorem dX12_open_48 : decode cX12_open 48 = .ok (.aload_n 0, 1) := by decide +kernel
theorem dX12_open_49 : decode cX12_open 49 = .ok (.invokevirtual 212, 3) := by decide +kernel
theorem dX12_open_52 : decode cX12_open 52 = .ok (.aload_n 0, 1) := by decide +kernel
theorem dX12_open_53 : decode cX12_open 53 = .ok (.iload_n 3, 1) := by decide +kernel
theorem dX12_open_54 : decode cX12_open 54 = .ok (.invokevirtual 155, 3) := by decide +kernel
theorem dX12_open_57 : decode cX12_open 57 = .ok (.aload_n 0, 1) := by decide +kernel
theorem dX12_open_58 : decode cX12_open 58 = .ok (.getfield 20, 3) := by decide +kernel
theorem dX12_open_61 : decode cX12_open 61 = .ok (.iload_n 3, 1) := by decide +kernel
theorem dX12_open_62 : decode cX12_open 62 = .ok (.iaload, 1) := by decide +kernel
theorem dX12_open_63 : decode cX12_open 63 = .ok (.iconst 3, 1) := by decide +kernel
theorem dX12_open_64 : decode cX12_open 64 = .ok (.if_icmp .ne 8, 3) := by decide +kernel
theorem dX12_open_67 : decode cX12_open 67 = .ok (.bipush 9, 2) := by decide +kernel
theorem dX12_open_69 : decode cX12_open 69 = .ok (.goto 8, 3) := by decide +kernel
theorem dX12_open_72 : decode cX12_open 72 = .ok (.aload_n 0, 1) := by decide +kernel
theorem dX12_open_73 : decode cX12_open 73 = .ok (.iload_n 3, 1) := by decide +kernel
theorem dX12_open_74 : decode cX12_open 74 = .ok (.invokevirtual 140, 3) := by decide +kernel
theorem dX12_open_77 : decode cX12_open 77 = .ok (.ireturn, 1) := by decide +kernel
theorem dX12_flag_0 : decode cX12_flag 0 = .ok (.aload_n 0, 1) := by decide +kernel
theorem dX12_flag_1 : decode cX12_flag 1 = .ok (.iconst 0, 1) := by decide +kernel
theorem dX12_flag_2 : decode cX12_flag 2 = .ok (.putfield 79, 3) := by decide +kernel
theorem dX12_flag_5 : decode cX12_flag 5 = .ok (.aload_n 0, 1) := by decide +kernel
theorem dX12_flag_6 : decode cX12_flag 6 = .ok (.iload_n 1, 1) := by decide +kernel
theorem dX12_flag_7 : decode cX12_flag 7 = .ok (.iload_n 2, 1) := by decide +kernel
theorem dX12_flag_8 : decode cX12_flag 8 = .ok (.invokevirtual 209, 3) := by decide +kernel
theorem dX12_flag_11 : decode cX12_flag 11 = .ok (.ifCond .ne 5, 3) := by decide +kernel
theorem dX12_flag_14 : decode cX12_flag 14 = .ok (.iconst 0, 1) := by decide +kernel
theorem dX12_flag_15 : decode cX12_flag 15 = .ok (.ireturn, 1) := by decide +kernel
theorem dX12_flag_16 : decode cX12_flag 16 = .ok (.aload_n 0, 1) := by decide +kernel
theorem dX12_flag_17 : decode cX12_flag 17 = .ok (.getfield 87, 3) := by decide +kernel
theorem dX12_flag_20 : decode cX12_flag 20 = .ok (.iload_n 1, 1) := by decide +kernel
theorem dX12_flag_21 : decode cX12_flag 21 = .ok (.imul, 1) := by decide +kernel
theorem dX12_flag_22 : decode cX12_flag 22 = .ok (.iload_n 2, 1) := by decide +kernel
theorem dX12_flag_23 : decode cX12_flag 23 = .ok (.iadd, 1) := by decide +kernel
theorem dX12_flag_24 : decode cX12_flag 24 = .ok (.istore_n 3, 1) := by decide +kernel
theorem dX12_flag_25 : decode cX12_flag 25 = .ok (.aload_n 0, 1) := by decide +kernel
theorem dX12_flag_26 : decode cX12_flag 26 = .ok (.iload_n 3, 1) := by decide +kernel
theorem dX12_flag_27 : decode cX12_flag 27 = .ok (.invokevirtual 143, 3) := by decide +kernel
theorem dX12_flag_30 : decode cX12_flag 30 = .ok (.ifCond .eq 11, 3) := by decide +kernel
theorem dX12_flag_33 : decode cX12_flag 33 = .ok (.aload_n 0, 1) := by decide +kernel
theorem dX12_flag_34 : decode cX12_flag 34 = .ok (.getfield 113, 3) := by decide +kernel
theorem dX12_flag_37 : decode cX12_flag 37 = .ok (.iconst 1, 1) := by decide +kernel
theorem dX12_flag_38 : decode cX12_flag 38 = .ok (.if_icmp .ge 17, 3) := by decide +kernel
theorem dX12_flag_41 : decode cX12_flag 41 = .ok (.aload_n 0, 1) := by decide +kernel
theorem dX12_flag_42 : decode cX12_flag 42 = .ok (.iconst 3, 1) := by decide +kernel
theorem dX12_flag_43 : decode cX12_flag 43 = .ok (.invokevirtual 187, 3) := by decide +kernel
theorem dX12_flag_46 : decode cX12_flag 46 = .ok (.ifCond .le 7, 3) := by decide +kernel
theorem dX12_flag_49 : decode cX12_flag 49 = .ok (.iconst 1, 1) := by decide +kernel
theorem dX12_flag_50 : decode cX12_flag 50 = .ok (.goto 4, 3) := by decide +kernel
theorem dX12_flag_53 : decode cX12_flag 53 = .ok (.iconst 0, 1) := by decide +kernel
theorem dX12_flag_54 : decode cX12_flag 54 = .ok (.ireturn, 1) := by decide +kernel
theorem dX12_flag_55 : decode cX12_flag 55 = .ok (.aload_n 0, 1) := by decide +kernel
theorem dX12_flag_56 : decode cX12_flag 56 = .ok (.invokevirtual 212, 3) := by decide +kernel
theorem dX12_flag_59 : decode cX12_flag 59 = .ok (.aload_n 0, 1) := by decide +kernel
theorem dX12_flag_60 : decode cX12_flag 60 = .ok (.getfield 20, 3) := by decide +kernel
theorem dX12_flag_63 : decode cX12_flag 63 = .ok (.iload_n 3, 1) := by decide +kernel
theorem dX12_flag_64 : decode cX12_flag 64 = .ok (.aload_n 0, 1) := by decide +kernel
theorem dX12_flag_65 : decode cX12_flag 65 = .ok (.getfield 20, 3) := by decide +kernel
theorem dX12_flag_68 : decode cX12_flag 68 = .ok (.iload_n 3, 1) := by decide +kernel
theorem dX12_flag_69 : decode cX12_flag 69 = .ok (.iaload, 1) := by decide +kernel
theorem dX12_flag_70 : decode cX12_flag 70 = .ok (.ifCond .ne 7, 3) := by decide +kernel
theorem dX12_flag_73 : decode cX12_flag 73 = .ok (.iconst 2, 1) := by decide +kernel
theorem dX12_flag_74 : decode cX12_flag 74 = .ok (.goto 4, 3) := by decide +kernel
theorem dX12_flag_77 : decode cX12_flag 77 = .ok (.iconst 0, 1) := by decide +kernel
theorem dX12_flag_78 : decode cX12_flag 78 = .ok (.iastore, 1) := by decide +kernel
theorem dX12_flag_79 : decode cX12_flag 79 = .ok (.aload_n 0, 1) := by decide +kernel
theorem dX12_flag_80 : decode cX12_flag 80 = .ok (.getfield 20, 3) := by decide +kernel
theorem dX12_flag_83 : decode cX12_flag 83 = .ok (.iload_n 3, 1) := by decide +kernel
theorem dX12_flag_84 : decode cX12_flag 84 = .ok (.iaload, 1) := by decide +kernel
theorem dX12_flag_85 : decode cX12_flag 85 = .ok (.iconst 2, 1) := by decide +kernel
theorem dX12_flag_86 : decode cX12_flag 86 = .ok (.if_icmp .ne 7, 3) := by decide +kernel
theorem dX12_flag_89 : decode cX12_flag 89 = .ok (.iconst 1, 1) := by decide +kernel
theorem dX12_flag_90 : decode cX12_flag 90 = .ok (.goto 4, 3) := by decide +kernel
theorem dX12_flag_93 : decode cX12_flag 93 = .ok (.iconst 0, 1) := by decide +kernel
theorem dX12_flag_94 : decode cX12_flag 94 = .ok (.ireturn, 1) := by decide +kernel
theorem dX12_chord_0 : decode cX12_chord 0 = .ok (.aload_n 0, 1) := by decide +kernel
theorem dX12_chord_1 : decode cX12_chord 1 = .ok (.iconst 0, 1) := by decide +kernel
theorem dX12_chord_2 : decode cX12_chord 2 = .ok (.putfield 79, 3) := by decide +kernel
theorem dX12_chord_5 : decode cX12_chord 5 = .ok (.aload_n 0, 1) := by decide +kernel
theorem dX12_chord_6 : decode cX12_chord 6 = .ok (.iload_n 1, 1) := by decide +kernel
theorem dX12_chord_7 : decode cX12_chord 7 = .ok (.iload_n 2, 1) := by decide +kernel
theorem dX12_chord_8 : decode cX12_chord 8 = .ok (.invokevirtual 209, 3) := by decide +kernel
theorem dX12_chord_11 : decode cX12_chord 11 = .ok (.ifCond .ne 5, 3) := by decide +kernel
theorem dX12_chord_14 : decode cX12_chord 14 = .ok (.iconst 0, 1) := by decide +kernel
theorem dX12_chord_15 : decode cX12_chord 15 = .ok (.ireturn, 1) := by decide +kernel
theorem dX12_chord_16 : decode cX12_chord 16 = .ok (.aload_n 0, 1) := by decide +kernel
theorem dX12_chord_17 : decode cX12_chord 17 = .ok (.getfield 87, 3) := by decide +kernel
theorem dX12_chord_20 : decode cX12_chord 20 = .ok (.iload_n 1, 1) := by decide +kernel
theorem dX12_chord_21 : decode cX12_chord 21 = .ok (.imul, 1) := by decide +kernel
theorem dX12_chord_22 : decode cX12_chord 22 = .ok (.iload_n 2, 1) := by decide +kernel
theorem dX12_chord_23 : decode cX12_chord 23 = .ok (.iadd, 1) := by decide +kernel
theorem dX12_chord_24 : decode cX12_chord 24 = .ok (.istore_n 3, 1) := by decide +kernel
theorem dX12_chord_25 : decode cX12_chord 25 = .ok (.aload_n 0, 1) := by decide +kernel
theorem dX12_chord_26 : decode cX12_chord 26 = .ok (.getfield 20, 3) := by decide +kernel
theorem dX12_chord_29 : decode cX12_chord 29 = .ok (.iload_n 3, 1) := by decide +kernel
theorem dX12_chord_30 : decode cX12_chord 30 = .ok (.iaload, 1) := by decide +kernel
theorem dX12_chord_31 : decode cX12_chord 31 = .ok (.iconst 1, 1) := by decide +kernel
theorem dX12_chord_32 : decode cX12_chord 32 = .ok (.if_icmp .ne 41, 3) := by decide +kernel
theorem dX12_chord_35 : decode cX12_chord 35 = .ok (.aload_n 0, 1) := by decide +kernel
theorem dX12_chord_36 : decode cX12_chord 36 = .ok (.getfield 113, 3) := by decide +kernel
theorem dX12_chord_39 : decode cX12_chord 39 = .ok (.iconst 1, 1) := by decide +kernel
theorem dX12_chord_40 : decode cX12_chord 40 = .ok (.if_icmp .lt 33, 3) := by decide +kernel
theorem dX12_chord_43 : decode cX12_chord 43 = .ok (.aload_n 0, 1) := by decide +kernel
theorem dX12_chord_44 : decode cX12_chord 44 = .ok (.iload_n 3, 1) := by decide +kernel
theorem dX12_chord_45 : decode cX12_chord 45 = .ok (.invokevirtual 140, 3) := by decide +kernel
theorem dX12_chord_48 : decode cX12_chord 48 = .ok (.aload_n 0, 1) := by decide +kernel
theorem dX12_chord_49 : decode cX12_chord 49 = .ok (.iload_n 3, 1) := by decide +kernel
theorem dX12_chord_50 : decode cX12_chord 50 = .ok (.iconst 2, 1) := by decide +kernel
theorem dX12_chord_51 : decode cX12_chord 51 = .ok (.invokevirtual 173, 3) := by decide +kernel
theorem dX12_chord_54 : decode cX12_chord 54 = .ok (.aload_n 0, 1) := by decide +kernel
theorem dX12_chord_55 : decode cX12_chord 55 = .ok (.iload_n 3, 1) := by decide +kernel
theorem dX12_chord_56 : decode cX12_chord 56 = .ok (.iconst 3, 1) := by decide +kernel
theorem dX12_chord_57 : decode cX12_chord 57 = .ok (.invokevirtual 173, 3) := by decide +kernel
theorem dX12_chord_60 : decode cX12_chord 60 = .ok (.iadd, 1) := by decide +kernel
theorem dX12_chord_61 : decode cX12_chord 61 = .ok (.if_icmp .ne 12, 3) := by decide +kernel
theorem dX12_chord_64 : decode cX12_chord 64 = .ok (.aload_n 0, 1) := by decide +kernel
theorem dX12_chord_65 : decode cX12_chord 65 = .ok (.iload_n 3, 1) := by decide +kernel
theorem dX12_chord_66 : decode cX12_chord 66 = .ok (.iconst 0, 1) := by decide +kernel
theorem dX12_chord_67 : decode cX12_chord 67 = .ok (.invokevirtual 173, 3) := by decide +kernel
theorem dX12_chord_70 : decode cX12_chord 70 = .ok (.ifCond .ne 9, 3) := by decide +kernel
theorem dX12_chord_73 : decode cX12_chord 73 = .ok (.aload_n 0, 1) := by decide +kernel
theorem dX12_chord_74 : decode cX12_chord 74 = .ok (.iconst 3, 1) := by decide +kernel
theorem dX12_chord_75 : decode cX12_chord 75 = .ok (.invokevirtual 187, 3) := by decide +kernel
theorem dX12_chord_78 : decode cX12_chord 78 = .ok (.ireturn, 1) := by decide +kernel
theorem dX12_chord_79 : decode cX12_chord 79 = .ok (.aload_n 0, 1) := by decide +kernel
theorem dX12_chord_80 : decode cX12_chord 80 = .ok (.invokevirtual 212, 3) := by decide +kernel
theorem dX12_chord_83 : decode cX12_chord 83 = .ok (.aload_n 0, 1) := by decide +kernel
theorem dX12_chord_84 : decode cX12_chord 84 = .ok (.iconst 0, 1) := by decide +kernel
theorem dX12_chord_85 : decode cX12_chord 85 = .ok (.invokevirtual 136, 3) := by decide +kernel
theorem dX12_chord_88 : decode cX12_chord 88 = .ok (.aload_n 0, 1) := by decide +kernel
theorem dX12_chord_89 : decode cX12_chord 89 = .ok (.iconst 2, 1) := by decide +kernel
theorem dX12_chord_90 : decode cX12_chord 90 = .ok (.invokevirtual 136, 3) := by decide +kernel
theorem dX12_chord_93 : decode cX12_chord 93 = .ok (.iadd, 1) := by decide +kernel
theorem dX12_chord_94 : decode cX12_chord 94 = .ok (.istore 4, 2) := by decide +kernel
theorem dX12_chord_96 : decode cX12_chord 96 = .ok (.iconst 0, 1) := by decide +kernel
theorem dX12_chord_97 : decode cX12_chord 97 = .ok (.istore 5, 2) := by decide +kernel
theorem dX12_chord_99 : decode cX12_chord 99 = .ok (.iload 5, 2) := by decide +kernel
theorem dX12_chord_101 : decode cX12_chord 101 = .ok (.aload_n 0, 1) := by decide +kernel
theorem dX12_chord_102 : decode cX12_chord 102 = .ok (.getfield 100, 3) := by decide +kernel
theorem dX12_chord_105 : decode cX12_chord 105 = .ok (.if_icmp .ge 35, 3) := by decide +kernel
theorem dX12_chord_108 : decode cX12_chord 108 = .ok (.aload_n 0, 1) := by decide +kernel
theorem dX12_chord_109 : decode cX12_chord 109 = .ok (.iload_n 3, 1) := by decide +kernel
theorem dX12_chord_110 : decode cX12_chord 110 = .ok (.iload 5, 2) := by decide +kernel
theorem dX12_chord_112 : decode cX12_chord 112 = .ok (.invokevirtual 103, 3) := by decide +kernel
theorem dX12_chord_115 : decode cX12_chord 115 = .ok (.ifCond .eq 19, 3) := by decide +kernel
theorem dX12_chord_118 : decode cX12_chord 118 = .ok (.aload_n 0, 1) := by decide +kernel
theorem dX12_chord_119 : decode cX12_chord 119 = .ok (.getfield 20, 3) := by decide +kernel
theorem dX12_chord_122 : decode cX12_chord 122 = .ok (.iload 5, 2) := by decide +kernel
theorem dX12_chord_124 : decode cX12_chord 124 = .ok (.iaload, 1) := by decide +kernel
theorem dX12_chord_125 : decode cX12_chord 125 = .ok (.ifCond .ne 9, 3) := by decide +kernel
theorem dX12_chord_128 : decode cX12_chord 128 = .ok (.aload_n 0, 1) := by decide +kernel
theorem dX12_chord_129 : decode cX12_chord 129 = .ok (.iload 5, 2) := by decide +kernel
theorem dX12_chord_131 : decode cX12_chord 131 = .ok (.invokevirtual 155, 3) := by decide +kernel
theorem dX12_chord_134 : decode cX12_chord 134 = .ok (.iinc 5 1, 3) := by decide +kernel
theorem dX12_chord_137 : decode cX12_chord 137 = .ok (.goto (-38), 3) := by decide +kernel
theorem dX12_chord_140 : decode cX12_chord 140 = .ok (.iload 4, 2) := by decide +kernel
theorem dX12_chord_142 : decode cX12_chord 142 = .ok (.aload_n 0, 1) := by decide +kernel
theorem dX12_chord_143 : decode cX12_chord 143 = .ok (.iconst 0, 1) := by decide +kernel
theorem dX12_chord_144 : decode cX12_chord 144 = .ok (.invokevirtual 136, 3) := by decide +kernel
theorem dX12_chord_147 : decode cX12_chord 147 = .ok (.isub, 1) := by decide +kernel
theorem dX12_chord_148 : decode cX12_chord 148 = .ok (.aload_n 0, 1) := by decide +kernel
theorem dX12_chord_149 : decode cX12_chord 149 = .ok (.iconst 2, 1) := by decide +kernel
theorem dX12_chord_150 : decode cX12_chord 150 = .ok (.invokevirtual 136, 3) := by decide +kernel
theorem dX12_chord_153 : decode cX12_chord 153 = .ok (.isub, 1) := by decide +kernel
theorem dX12_chord_154 : decode cX12_chord 154 = .ok (.ireturn, 1) := by decide +kernel
theorem dX12_undo_0 : decode cX12_undo 0 = .ok (.aload_n 0, 1) := by decide +kernel
theorem dX12_undo_1 : decode cX12_undo 1 = .ok (.iconst 0, 1) := by decide +kernel
theorem dX12_undo_2 : decode cX12_undo 2 = .ok (.putfield 79, 3) := by decide +kernel
theorem dX12_undo_5 : decode cX12_undo 5 = .ok (.aload_n 0, 1) := by decide +kernel
theorem dX12_undo_6 : decode cX12_undo 6 = .ok (.getfield 119, 3) := by decide +kernel
theorem dX12_undo_9 : decode cX12_undo 9 = .ok (.ifCond .ne 9, 3) := by decide +kernel
theorem dX12_undo_12 : decode cX12_undo 12 = .ok (.aload_n 0, 1) := by decide +kernel
theorem dX12_undo_13 : decode cX12_undo 13 = .ok (.iconst 1, 1) := by decide +kernel
theorem dX12_undo_14 : decode cX12_undo 14 = .ok (.invokevirtual 187, 3) := by decide +kernel
theorem dX12_undo_17 : decode cX12_undo 17 = .ok (.ireturn, 1) := by decide +kernel
theorem dX12_undo_18 : decode cX12_undo 18 = .ok (.aload_n 0, 1) := by decide +kernel
theorem dX12_undo_19 : decode cX12_undo 19 = .ok (.getfield 110, 3) := by decide +kernel
theorem dX12_undo_22 : decode cX12_undo 22 = .ok (.ifCond .ne 9, 3) := by decide +kernel
theorem dX12_undo_25 : decode cX12_undo 25 = .ok (.aload_n 0, 1) := by decide +kernel
theorem dX12_undo_26 : decode cX12_undo 26 = .ok (.iconst 2, 1) := by decide +kernel
theorem dX12_undo_27 : decode cX12_undo 27 = .ok (.invokevirtual 187, 3) := by decide +kernel
theorem dX12_undo_30 : decode cX12_undo 30 = .ok (.ireturn, 1) := by decide +kernel
theorem dX12_undo_31 : decode cX12_undo 31 = .ok (.aload_n 0, 1) := by decide +kernel
theorem dX12_undo_32 : decode cX12_undo 32 = .ok (.dup, 1) := by decide +kernel
theorem dX12_undo_33 : decode cX12_undo 33 = .ok (.getfield 110, 3) := by decide +kernel
theorem dX12_undo_36 : decode cX12_undo 36 = .ok (.iconst 1, 1) := by decide +kernel
theorem dX12_undo_37 : decode cX12_undo 37 = .ok (.isub, 1) := by decide +kernel
theorem dX12_undo_38 : decode cX12_undo 38 = .ok (.putfield 110, 3) := by decide +kernel
theorem dX12_undo_41 : decode cX12_undo 41 = .ok (.iconst 0, 1) := by decide +kernel
theorem dX12_undo_42 : decode cX12_undo 42 = .ok (.istore_n 1, 1) := by decide +kernel
theorem dX12_undo_43 : decode cX12_undo 43 = .ok (.iload_n 1, 1) := by decide +kernel
theorem dX12_undo_44 : decode cX12_undo 44 = .ok (.aload_n 0, 1) := by decide +kernel
theorem dX12_undo_45 : decode cX12_undo 45 = .ok (.getfield 100, 3) := by decide +kernel
theorem dX12_undo_48 : decode cX12_undo 48 = .ok (.if_icmp .ge 43, 3) := by decide +kernel
theorem dX12_undo_51 : decode cX12_undo 51 = .ok (.aload_n 0, 1) := by decide +kernel
theorem dX12_undo_52 : decode cX12_undo 52 = .ok (.getfield 20, 3) := by decide +kernel
theorem dX12_undo_55 : decode cX12_undo 55 = .ok (.iload_n 1, 1) := by decide +kernel
theorem dX12_undo_56 : decode cX12_undo 56 = .ok (.aload_n 0, 1) := by decide +kernel
theorem dX12_undo_57 : decode cX12_undo 57 = .ok (.getfield 23, 3) := by decide +kernel
theorem dX12_undo_60 : decode cX12_undo 60 = .ok (.iconst 5, 1) := by decide +kernel
theorem dX12_undo_61 : decode cX12_undo 61 = .ok (.aload_n 0, 1) := by decide +kernel
theorem dX12_undo_62 : decode cX12_undo 62 = .ok (.getfield 110, 3) := by decide +kernel
theorem dX12_undo_65 : decode cX12_undo 65 = .ok (.imul, 1) := by decide +kernel
theorem dX12_undo_66 : decode cX12_undo 66 = .ok (.iload_n 1, 1) := by decide +kernel
theorem dX12_undo_67 : decode cX12_undo 67 = .ok (.bipush 32, 2) := by decide +kernel
theorem dX12_undo_69 : decode cX12_undo 69 = .ok (.idiv, 1) := by decide +kernel
theorem dX12_undo_70 : decode cX12_undo 70 = .ok (.iadd, 1) := by decide +kernel
theorem dX12_undo_71 : decode cX12_undo 71 = .ok (.laload, 1) := by decide +kernel
theorem dX12_undo_72 : decode cX12_undo 72 = .ok (.iconst 2, 1) := by decide +kernel
theorem dX12_undo_73 : decode cX12_undo 73 = .ok (.iload_n 1, 1) := by decide +kernel
theorem dX12_undo_74 : decode cX12_undo 74 = .ok (.bipush 32, 2) := by decide +kernel
theorem dX12_undo_76 : decode cX12_undo 76 = .ok (.irem, 1) := by decide +kernel
theorem dX12_undo_77 : decode cX12_undo 77 = .ok (.imul, 1) := by decide +kernel
theorem dX12_undo_78 : decode cX12_undo 78 = .ok (.lshr, 1) := by decide +kernel
theorem dX12_undo_79 : decode cX12_undo 79 = .ok (.ldc2_w 215, 3) := by decide +kernel
theorem dX12_undo_82 : decode cX12_undo 82 = .ok (.land, 1) := by decide +kernel
theorem dX12_undo_83 : decode cX12_undo 83 = .ok (.l2i, 1) := by decide +kernel
theorem dX12_undo_84 : decode cX12_undo 84 = .ok (.iastore, 1) := by decide +kernel
theorem dX12_undo_85 : decode cX12_undo 85 = .ok (.iinc 1 1, 3) := by decide +kernel
theorem dX12_undo_88 : decode cX12_undo 88 = .ok (.goto (-45), 3) := by decide +kernel
theorem dX12_undo_91 : decode cX12_undo 91 = .ok (.aload_n 0, 1) := by decide +kernel
theorem dX12_undo_92 : decode cX12_undo 92 = .ok (.aload_n 0, 1) := by decide +kernel
theorem dX12_undo_93 : decode cX12_undo 93 = .ok (.getfield 27, 3) := by decide +kernel
theorem dX12_undo_96 : decode cX12_undo 96 = .ok (.aload_n 0, 1) := by decide +kernel
theorem dX12_undo_97 : decode cX12_undo 97 = .ok (.getfield 110, 3) := by decide +kernel
theorem dX12_undo_100 : decode cX12_undo 100 = .ok (.iaload, 1) := by decide +kernel
theorem dX12_undo_101 : decode cX12_undo 101 = .ok (.putfield 113, 3) := by decide +kernel
theorem dX12_undo_104 : decode cX12_undo 104 = .ok (.aload_n 0, 1) := by decide +kernel
theorem dX12_undo_105 : decode cX12_undo 105 = .ok (.getfield 110, 3) := by decide +kernel
theorem dX12_undo_108 : decode cX12_undo 108 = .ok (.ireturn, 1) := by decide +kernel
theorem dX12_shown_0 : decode cX12_shown 0 = .ok (.aload_n 0, 1) := by decide +kernel
theorem dX12_shown_1 : decode cX12_shown 1 = .ok (.iconst 0, 1) := by decide +kernel
theorem dX12_shown_2 : decode cX12_shown 2 = .ok (.putfield 79, 3) := by decide +kernel
theorem dX12_shown_5 : decode cX12_shown 5 = .ok (.aload_n 0, 1) := by decide +kernel
theorem dX12_shown_6 : decode cX12_shown 6 = .ok (.iload_n 1, 1) := by decide +kernel
theorem dX12_shown_7 : decode cX12_shown 7 = .ok (.iload_n 2, 1) := by decide +kernel
theorem dX12_shown_8 : decode cX12_shown 8 = .ok (.invokevirtual 209, 3) := by decide +kernel
theorem dX12_shown_11 : decode cX12_shown 11 = .ok (.ifCond .ne 5, 3) := by decide +kernel
theorem dX12_shown_14 : decode cX12_shown 14 = .ok (.iconst 0, 1) := by decide +kernel
theorem dX12_shown_15 : decode cX12_shown 15 = .ok (.ireturn, 1) := by decide +kernel
theorem dX12_shown_16 : decode cX12_shown 16 = .ok (.aload_n 0, 1) := by decide +kernel
theorem dX12_shown_17 : decode cX12_shown 17 = .ok (.getfield 87, 3) := by decide +kernel
theorem dX12_shown_20 : decode cX12_shown 20 = .ok (.iload_n 1, 1) := by decide +kernel
theorem dX12_shown_21 : decode cX12_shown 21 = .ok (.imul, 1) := by decide +kernel
theorem dX12_shown_22 : decode cX12_shown 22 = .ok (.iload_n 2, 1) := by decide +kernel
theorem dX12_shown_23 : decode cX12_shown 23 = .ok (.iadd, 1) := by decide +kernel
theorem dX12_shown_24 : decode cX12_shown 24 = .ok (.istore_n 3, 1) := by decide +kernel
theorem dX12_shown_25 : decode cX12_shown 25 = .ok (.aload_n 0, 1) := by decide +kernel
theorem dX12_shown_26 : decode cX12_shown 26 = .ok (.getfield 20, 3) := by decide +kernel
theorem dX12_shown_29 : decode cX12_shown 29 = .ok (.iload_n 3, 1) := by decide +kernel
theorem dX12_shown_30 : decode cX12_shown 30 = .ok (.iaload, 1) := by decide +kernel
theorem dX12_shown_31 : decode cX12_shown 31 = .ok (.iconst 1, 1) := by decide +kernel
theorem dX12_shown_32 : decode cX12_shown 32 = .ok (.if_icmp .ne 11, 3) := by decide +kernel
theorem dX12_shown_35 : decode cX12_shown 35 = .ok (.aload_n 0, 1) := by decide +kernel
theorem dX12_shown_36 : decode cX12_shown 36 = .ok (.iload_n 3, 1) := by decide +kernel
theorem dX12_shown_37 : decode cX12_shown 37 = .ok (.invokevirtual 140, 3) := by decide +kernel
theorem dX12_shown_40 : decode cX12_shown 40 = .ok (.goto 34, 3) := by decide +kernel
theorem dX12_shown_43 : decode cX12_shown 43 = .ok (.aload_n 0, 1) := by decide +kernel
theorem dX12_shown_44 : decode cX12_shown 44 = .ok (.getfield 20, 3) := by decide +kernel
theorem dX12_shown_47 : decode cX12_shown 47 = .ok (.iload_n 3, 1) := by decide +kernel
theorem dX12_shown_48 : decode cX12_shown 48 = .ok (.iaload, 1) := by decide +kernel
theorem dX12_shown_49 : decode cX12_shown 49 = .ok (.ifCond .ne 8, 3) := by decide +kernel
theorem dX12_shown_52 : decode cX12_shown 52 = .ok (.bipush 10, 2) := by decide +kernel
theorem dX12_shown_54 : decode cX12_shown 54 = .ok (.goto 20, 3) := by decide +kernel
theorem dX12_shown_57 : decode cX12_shown 57 = .ok (.aload_n 0, 1) := by decide +kernel
theorem dX12_shown_58 : decode cX12_shown 58 = .ok (.getfield 20, 3) := by decide +kernel
theorem dX12_shown_61 : decode cX12_shown 61 = .ok (.iload_n 3, 1) := by decide +kernel
theorem dX12_shown_62 : decode cX12_shown 62 = .ok (.iaload, 1) := by decide +kernel
theorem dX12_shown_63 : decode cX12_shown 63 = .ok (.iconst 2, 1) := by decide +kernel
theorem dX12_shown_64 : decode cX12_shown 64 = .ok (.if_icmp .ne 8, 3) := by decide +kernel
theorem dX12_shown_67 : decode cX12_shown 67 = .ok (.bipush 11, 2) := by decide +kernel
theorem dX12_shown_69 : decode cX12_shown 69 = .ok (.goto 5, 3) := by decide +kernel
theorem dX12_shown_72 : decode cX12_shown 72 = .ok (.bipush 12, 2) := by decide +kernel
theorem dX12_shown_74 : decode cX12_shown 74 = .ok (.ireturn, 1) := by decide +kernel
theorem q_X12_isPlayed : yX12_isPlayed.cls = RX12 ∧ yX12_isPlayed.cls ≠ "java/lang/invoke/MethodHandle" ∧ yX12_isPlayed.cls ≠ "java/lang/invoke/VarHandle" ∧ (parseMethodDescriptor yX12_isPlayed.desc).map (fun d => d.parameters.length) = some 2 := ⟨rfl, by decide, by decide, by decide +kernel⟩
theorem q_X12_isNextToNumber : yX12_isNextToNumber.cls = RX12 ∧ yX12_isNextToNumber.cls ≠ "java/lang/invoke/MethodHandle" ∧ yX12_isNextToNumber.cls ≠ "java/lang/invoke/VarHandle" ∧ (parseMethodDescriptor yX12_isNextToNumber.desc).map (fun d => d.parameters.length) = some 1 := ⟨rfl, by decide, by decide, by decide +kernel⟩
theorem q_X12_isMended : yX12_isMended.cls = RX12 ∧ yX12_isMended.cls ≠ "java/lang/invoke/MethodHandle" ∧ yX12_isMended.cls ≠ "java/lang/invoke/VarHandle" ∧ (parseMethodDescriptor yX12_isMended.desc).map (fun d => d.parameters.length) = some 0 := ⟨rfl, by decide, by decide, by decide +kernel⟩
theorem q_X12_isTooMany : yX12_isTooMany.cls = RX12 ∧ yX12_isTooMany.cls ≠ "java/lang/invoke/MethodHandle" ∧ yX12_isTooMany.cls ≠ "java/lang/invoke/VarHandle" ∧ (parseMethodDescriptor yX12_isTooMany.desc).map (fun d => d.parameters.length) = some 4 := ⟨rfl, by decide, by decide, by decide +kernel⟩
theorem q_X12_make : yX12_make.cls = RX12 ∧ yX12_make.cls ≠ "java/lang/invoke/MethodHandle" ∧ yX12_make.cls ≠ "java/lang/invoke/VarHandle" ∧ (parseMethodDescriptor yX12_make.desc).map (fun d => d.parameters.length) = some 6 := ⟨rfl, by decide, by decide, by decide +kernel⟩
theorem q_X12_blank : yX12_blank.cls = RX12 ∧ yX12_blank.cls ≠ "java/lang/invoke/MethodHandle" ∧ yX12_blank.cls ≠ "java/lang/invoke/VarHandle" ∧ (parseMethodDescriptor yX12_blank.desc).map (fun d => d.parameters.length) = some 3 := ⟨rfl, by decide, by decide, by decide +kernel⟩
theorem q_X12_isCell : yX12_isCell.cls = RX12 ∧ yX12_isCell.cls ≠ "java/lang/invoke/MethodHandle" ∧ yX12_isCell.cls ≠ "java/lang/invoke/VarHandle" ∧ (parseMethodDescriptor yX12_isCell.desc).map (fun d => d.parameters.length) = some 2 := ⟨rfl, by decide, by decide, by decide +kernel⟩
theorem q_X12_has : yX12_has.cls = RX12 ∧ yX12_has.cls ≠ "java/lang/invoke/MethodHandle" ∧ yX12_has.cls ≠ "java/lang/invoke/VarHandle" ∧ (parseMethodDescriptor yX12_has.desc).map (fun d => d.parameters.length) = some 2 := ⟨rfl, by decide, by decide, by decide +kernel⟩
theorem q_X12_edit : yX12_edit.cls = RX12 ∧ yX12_edit.cls ≠ "java/lang/invoke/MethodHandle" ∧ yX12_edit.cls ≠ "java/lang/invoke/VarHandle" ∧ (parseMethodDescriptor yX12_edit.desc).map (fun d => d.parameters.length) = some 3 := ⟨rfl, by decide, by decide, by decide +kernel⟩
theorem q_X12_keep : yX12_keep.cls = RX12 ∧ yX12_keep.cls ≠ "java/lang/invoke/MethodHandle" ∧ yX12_keep.cls ≠ "java/lang/invoke/VarHandle" ∧ (parseMethodDescriptor yX12_keep.desc).map (fun d => d.parameters.length) = some 0 := ⟨rfl, by decide, by decide, by decide +kernel⟩
theorem q_X12_open : yX12_open.cls = RX12 ∧ yX12_open.cls ≠ "java/lang/invoke/MethodHandle" ∧ yX12_open.cls ≠ "java/lang/invoke/VarHandle" ∧ (parseMethodDescriptor yX12_open.desc).map (fun d => d.parameters.length) = some 2 := ⟨rfl, by decide, by decide, by decide +kernel⟩
theorem q_X12_flag : yX12_flag.cls = RX12 ∧ yX12_flag.cls ≠ "java/lang/invoke/MethodHandle" ∧ yX12_flag.cls ≠ "java/lang/invoke/VarHandle" ∧ (parseMethodDescriptor yX12_flag.desc).map (fun d => d.parameters.length) = some 2 := ⟨rfl, by decide, by decide, by decide +kernel⟩
theorem q_X12_chord : yX12_chord.cls = RX12 ∧ yX12_chord.cls ≠ "java/lang/invoke/MethodHandle" ∧ yX12_chord.cls ≠ "java/lang/invoke/VarHandle" ∧ (parseMethodDescriptor yX12_chord.desc).map (fun d => d.parameters.length) = some 2 := ⟨rfl, by decide, by decide, by decide +kernel⟩
theorem q_X12_undo : yX12_undo.cls = RX12 ∧ yX12_undo.cls ≠ "java/lang/invoke/MethodHandle" ∧ yX12_undo.cls ≠ "java/lang/invoke/VarHandle" ∧ (parseMethodDescriptor yX12_undo.desc).map (fun d => d.parameters.length) = some 0 := ⟨rfl, by decide, by decide, by decide +kernel⟩
theorem q_X12_shown : yX12_shown.cls = RX12 ∧ yX12_shown.cls ≠ "java/lang/invoke/MethodHandle" ∧ yX12_shown.cls ≠ "java/lang/invoke/VarHandle" ∧ (parseMethodDescriptor yX12_shown.desc).map (fun d => d.parameters.length) = some 2 := ⟨rfl, by decide, by decide, by decide +kernel⟩
def P_X12_isPlayed (post : Int → (Int) → (Int) → (Int) → (Int → Int) → (Int → Int) → (Int → Int) → (Int → Int) → (Int → Int) → (Int → Int) → (Int → Int) → (Int → Int) → (Int → Int) → (Int → Int) → (Int → Int) → (Int → Int) → (Int → Int) → Prop) (M_w : Int) (M_h : Int) (M_cells : Int) (M_shape : Int) (M_lives : Int) (M_parts : Int) (M_numbers : Int) (M_near : Int → Int) (M_degree : Int → Int) (M_mine : Int → Int) (M_state : Int → Int) (M_safe : Int → Int) (M_mined : Int → Int) (M_used : Int → Int) (M_partOf : Int → Int) (M_placeOf : Int → Int) (M_partSize : Int → Int) (M_ways : Int → Int) (M_with : Int → Int) (M_masks : Int → Int) (M_rests : Int → Int) (M_bits : Int → Int) (M_reach : Int → Int) (M_more : Int → Int) (x1 : Int) (x2 : Int) : Prop :=
  P_X12_closeAll (fun (M_state_1 : Int → Int) => (P_X12_uncover (fun (M_lives_2 : Int) (M_state_3 : Int → Int) => (∃ Inv_4 : Nat → (Int) → (Int) → (Int) → (Int) → (Int → Int) → (Int → Int) → (Int → Int) → (Int → Int) → (Int → Int) → (Int → Int) → (Int → Int) → (Int → Int) → (Int → Int) → (Int → Int) → (Int → Int) → (Int → Int) → (Int → Int) → Prop, (∃ n_5 : Nat, Inv_4 n_5 1 M_lives_2 M_parts M_numbers M_state_3 M_safe M_mined M_used M_partOf M_placeOf M_partSize M_ways M_with M_masks M_rests M_reach M_more) ∧ ∀ (n_6 : Nat) (x3_9 : Int) (M_lives_10 : Int) (M_parts_11 : Int) (M_numbers_12 : Int) (M_state_13 : Int → Int) (M_safe_14 : Int → Int) (M_mined_15 : Int → Int) (M_used_16 : Int → Int) (M_partOf_17 : Int → Int) (M_placeOf_18 : Int → Int) (M_partSize_19 : Int → Int) (M_ways_20 : Int → Int) (M_with_21 : Int → Int) (M_masks_22 : Int → Int) (M_rests_23 : Int → Int) (M_reach_24 : Int → Int) (M_more_25 : Int → Int), inR x3_9 → Inv_4 n_6 x3_9 M_lives_10 M_parts_11 M_numbers_12 M_state_13 M_safe_14 M_mined_15 M_used_16 M_partOf_17 M_placeOf_18 M_partSize_19 M_ways_20 M_with_21 M_masks_22 M_rests_23 M_reach_24 M_more_25 → ((x2 < x3_9 → (P_X12_isSolved (fun (c_27 : Int) => (c_27 = 0 ∨ c_27 = 1) → (post c_27 M_lives_10 M_parts_11 M_numbers_12 M_state_13 M_safe_14 M_mined_15 M_used_16 M_partOf_17 M_placeOf_18 M_partSize_19 M_ways_20 M_with_21 M_masks_22 M_rests_23 M_reach_24 M_more_25)) M_cells M_mine M_state_13 )) ∧ (¬ x2 < x3_9 → (P_X12_findUpTo (fun (M_parts_28 : Int) (M_numbers_29 : Int) (M_safe_30 : Int → Int) (M_mined_31 : Int → Int) (M_used_32 : Int → Int) (M_partOf_33 : Int → Int) (M_placeOf_34 : Int → Int) (M_partSize_35 : Int → Int) (M_ways_36 : Int → Int) (M_with_37 : Int → Int) (M_masks_38 : Int → Int) (M_rests_39 : Int → Int) (M_reach_40 : Int → Int) (M_more_41 : Int → Int) => (∃ Inv_42 : Nat → (Int) → (Int) → (Int) → (Int → Int) → Prop, (∃ n_43 : Nat, Inv_42 n_43 0 0 M_lives_10 M_state_13) ∧ ∀ (n_44 : Nat) (x4_47 : Int) (x5_48 : Int) (M_lives_49 : Int) (M_state_50 : Int → Int), inR x4_47 → inR x5_48 → Inv_42 n_44 x4_47 x5_48 M_lives_49 M_state_50 → ((M_cells ≤ x5_48 → (∃ J_53 : (Int) → Prop, ((x4_47 = 0 → (inR (x3_9 + 1) ∧ (J_53 (x3_9 + 1)))) ∧ (¬ x4_47 = 0 → (J_53 1))) ∧ (∀ (z_55 : Int), inR z_55 → J_53 z_55 → (∃ n_56 : Nat, n_56 < n_6 ∧ Inv_4 n_56 z_55 M_lives_49 M_parts_28 M_numbers_29 M_state_50 M_safe_30 M_mined_31 M_used_32 M_partOf_33 M_placeOf_34 M_partSize_35 M_ways_36 M_with_37 M_masks_38 M_rests_39 M_reach_40 M_more_41)))) ∧ (¬ M_cells ≤ x5_48 → ((0 ≤ x5_48 ∧ x5_48 < 144) ∧ (∀ v_60 : Int, v_60 = M_safe_30 x5_48 → (v_60 = 0 ∨ v_60 = 1) → (∃ J_61 : (Int) → (Int) → (Int → Int) → Prop, ((v_60 = 0 → (J_61 x4_47 M_lives_49 M_state_50)) ∧ (¬ v_60 = 0 → (P_X12_isUnknown (fun (c_70 : Int) => (c_70 = 0 ∨ c_70 = 1) → ((c_70 = 0 → (J_61 x4_47 M_lives_49 M_state_50)) ∧ (¬ c_70 = 0 → (P_X12_uncover (fun (M_lives_72 : Int) (M_state_73 : Int → Int) => (J_61 1 M_lives_72 M_state_73)) M_cells M_lives_49 M_near M_degree M_mine M_state_50 x5_48)))) M_state_50 x5_48))) ∧ (∀ (x4_63 : Int) (M_lives_64 : Int) (M_state_65 : Int → Int), inR x4_63 → J_61 x4_63 M_lives_64 M_state_65 → (inR (x5_48 + 1) ∧ (∀ x5_67 : Int, x5_67 = (x5_48 + 1) → (∃ n_68 : Nat, n_68 < n_44 ∧ Inv_42 n_68 x4_63 x5_67 M_lives_64 M_state_65))))))))))) M_w M_h M_cells M_shape M_parts_11 M_numbers_12 M_near M_degree M_mine M_state_13 M_safe_14 M_mined_15 M_used_16 M_partOf_17 M_placeOf_18 M_partSize_19 M_ways_20 M_with_21 M_masks_22 M_rests_23 M_bits M_reach_24 M_more_25 x3_9))))) M_cells M_lives M_near M_degree M_mine M_state_1 x1)) M_cells M_state 
set_option maxRecDepth 100000 in
set_option maxHeartbeats 4000000 in
theorem c_X12_isPlayed (l : Launch) (K : wK) (ad : Nat → Nat) {M_thrown : Int} {M_w : Int} {M_h : Int} {M_cells : Int} {M_shape : Int} {M_isBoard : Int} {M_isBlank : Int} {M_lives : Int} {M_moves : Int} {M_parts : Int} {M_numbers : Int} {M_grade : Int} {M_reasons : Int} {M_total : Int} {M_near : Int → Int} {M_degree : Int → Int} {M_mine : Int → Int} {M_state : Int → Int} {M_history : Int → Int64} {M_oldLives : Int → Int} {M_safe : Int → Int} {M_mined : Int → Int} {M_used : Int → Int} {M_partOf : Int → Int} {M_placeOf : Int → Int} {M_partSize : Int → Int} {M_ways : Int → Int} {M_with : Int → Int} {M_masks : Int → Int} {M_rests : Int → Int} {M_bits : Int → Int} {M_reach : Int → Int} {M_more : Int → Int} {M_reason : Int → Int} {M_big : Int → Int64} {M_region : Int → Int} (x1 : Int) (x2 : Int) (rx1 : inR x1) (rx2 : inR x2) (post : Int → (Int) → (Int) → (Int) → (Int → Int) → (Int → Int) → (Int → Int) → (Int → Int) → (Int → Int) → (Int → Int) → (Int → Int) → (Int → Int) → (Int → Int) → (Int → Int) → (Int → Int) → (Int → Int) → (Int → Int) → Prop) (h : P_X12_isPlayed post M_w M_h M_cells M_shape M_lives M_parts M_numbers M_near M_degree M_mine M_state M_safe M_mined M_used M_partOf M_placeOf M_partSize M_ways M_with M_masks M_rests M_bits M_reach M_more x1 x2) : mI l yX12_isPlayed (Cond.code yX12_isPlayed cX12_isPlayed 6 (some .boolean) :: GT) ({ frames := 9, cells := 0, slots := 0, locals := 540 } : Room) [.ref (ad 0), .int (iI x1), .int (iI x2)] K ad (mW M_thrown M_w M_h M_cells M_shape M_isBoard M_isBlank M_lives M_moves M_parts M_numbers M_grade M_reasons M_total M_near M_degree M_mine M_state M_history M_oldLives M_safe M_mined M_used M_partOf M_placeOf M_partSize M_ways M_with M_masks M_rests M_bits M_reach M_more M_reason M_big M_region) (fun z9 u9 => (z9 = 0 ∨ z9 = 1) ∧ ∃ M_lives9 M_parts9 M_numbers9 M_state9 M_safe9 M_mined9 M_used9 M_partOf9 M_placeOf9 M_partSize9 M_ways9 M_with9 M_masks9 M_rests9 M_reach9 M_more9, u9 = (mW M_thrown M_w M_h M_cells M_shape M_isBoard M_isBlank M_lives9 M_moves M_parts9 M_numbers9 M_grade M_reasons M_total M_near M_degree M_mine M_state9 M_history M_oldLives M_safe9 M_mined9 M_used9 M_partOf9 M_placeOf9 M_partSize9 M_ways9 M_with9 M_masks9 M_rests9 M_bits M_reach9 M_more9 M_reason M_big M_region) ∧ post z9 M_lives9 M_parts9 M_numbers9 M_state9 M_safe9 M_mined9 M_used9 M_partOf9 M_placeOf9 M_partSize9 M_ways9 M_with9 M_masks9 M_rests9 M_reach9 M_more9) := by
  refine mZ_of (lv0 := [(0, .ref (ad 0)), (1, .int (iI x1)), (2, .int (iI x2))]) (by decide) (Nat.le_of_ble_eq_true rfl) rfl ?_
  intro p e s m args below meth c Q A C ret
  replace C : Cx p ({ frames := 9, cells := 0, slots := 0, locals := 540 } : Room) m c 0 0 cX12_isPlayed 6 s args RX12 K A := C
  unfold P_X12_isPlayed at h
  refine wa_aload_n C 0 rfl dX12_isPlayed_0 rfl ?_
  refine wa_callVv C (k := 0) (As := []) (rest := []) (c_X12_closeAll l K ad  _ h) gw_1381 gw_1378 mW_0 rfl gw_1380 gs_56 gw_12 q_X12_closeAll rfl rfl rfl ⟨by decide, by decide⟩ rfl (Nat.le_of_ble_eq_true rfl) dX12_isPlayed_1 (fun u9 hp => ?_)
  obtain ⟨M_state_1, rfl, h⟩ := hp
  refine wa_aload_n C 0 rfl dX12_isPlayed_4 rfl ?_
  refine wa_iload_n C 1 rfl dX12_isPlayed_5 rfl ?_
  refine wa_callVv C (k := 0) (As := [.int (iI x1)]) (rest := []) (c_X12_uncover l K ad x1 rx1 _ h) gw_1403 gw_1400 mW_0 rfl gw_1402 gs_61 gw_12 q_X12_uncover rfl rfl rfl ⟨by decide, by decide⟩ rfl (Nat.le_of_ble_eq_true rfl) dX12_isPlayed_6 (fun u9 hp => ?_)
  obtain ⟨M_lives_2, M_state_3, rfl, h⟩ := hp
  refine wa_iconst C (z := 1) dX12_isPlayed_9 rfl ?_
  refine wa_istore_n C dX12_isPlayed_10 rfl (by decide) rfl ?_
  obtain ⟨Inv_4, ⟨n_5, h0Inv_4⟩, hInv_4⟩ := h
  have k_8 : ∀ (n_6 : Nat) (x3_9 : Int) (M_lives_10 : Int) (M_parts_11 : Int) (M_numbers_12 : Int) (M_state_13 : Int → Int) (M_safe_14 : Int → Int) (M_mined_15 : Int → Int) (M_used_16 : Int → Int) (M_partOf_17 : Int → Int) (M_placeOf_18 : Int → Int) (M_partSize_19 : Int → Int) (M_ways_20 : Int → Int) (M_with_21 : Int → Int) (M_masks_22 : Int → Int) (M_rests_23 : Int → Int) (M_reach_24 : Int → Int) (M_more_25 : Int → Int), inR x3_9 → Inv_4 n_6 x3_9 M_lives_10 M_parts_11 M_numbers_12 M_state_13 M_safe_14 M_mined_15 M_used_16 M_partOf_17 M_placeOf_18 M_partSize_19 M_ways_20 M_with_21 M_masks_22 M_rests_23 M_reach_24 M_more_25 → WA p l e ({ frames := 9, cells := 0, slots := 0, locals := 540 } : Room) s m args below meth c 0 0 Q K ad 6 A 11 [(0, .ref (ad 0)), (2, .int (iI x2)), (3, .int (iI x3_9))] [] (mW M_thrown M_w M_h M_cells M_shape M_isBoard M_isBlank M_lives_10 M_moves M_parts_11 M_numbers_12 M_grade M_reasons M_total M_near M_degree M_mine M_state_13 M_history M_oldLives M_safe_14 M_mined_15 M_used_16 M_partOf_17 M_placeOf_18 M_partSize_19 M_ways_20 M_with_21 M_masks_22 M_rests_23 M_bits M_reach_24 M_more_25 M_reason M_big M_region) := by
    intro n_6
    induction n_6 using Nat.strongRecOn with
    | ind n_6 ih_7 =>
      intro x3_9 M_lives_10 M_parts_11 M_numbers_12 M_state_13 M_safe_14 M_mined_15 M_used_16 M_partOf_17 M_placeOf_18 M_partSize_19 M_ways_20 M_with_21 M_masks_22 M_rests_23 M_reach_24 M_more_25 rx3_9 h
      replace h := hInv_4 n_6 x3_9 M_lives_10 M_parts_11 M_numbers_12 M_state_13 M_safe_14 M_mined_15 M_used_16 M_partOf_17 M_placeOf_18 M_partSize_19 M_ways_20 M_with_21 M_masks_22 M_rests_23 M_reach_24 M_more_25 rx3_9 h
      refine wa_iload_n C 2 rfl dX12_isPlayed_11 rfl ?_
      refine wa_iload_n C 1 rfl dX12_isPlayed_12 rfl ?_
      refine wa_icmp_gt C (tgt := 86) rx3_9 rx2 dX12_isPlayed_13 (by decide) (fun c_26 => ?_) (fun c_26 => ?_)
      · replace h := h.1 c_26
        refine wa_aload_n C 0 rfl dX12_isPlayed_86 rfl ?_
        refine wa_callVi C (k := 0) (As := []) (rest := []) (c_X12_isSolved l K ad  _ h) gw_1519 gw_1516 mW_0 rfl gw_1518 gs_90 gw_12 q_X12_isSolved rfl rfl rfl ⟨by decide, by decide⟩ rfl (Nat.le_of_ble_eq_true rfl) dX12_isPlayed_87 (fun c_27 u9 rc_27 hp => ?_)
        obtain ⟨bc_27, rfl, h⟩ := hp
        replace h := h bc_27
        exact ret dX12_isPlayed_90 bc_27 ⟨bc_27, _, _, _, _, _, _, _, _, _, _, _, _, _, _, _, _, rfl, h⟩
      · replace h := h.2 c_26
        refine wa_aload_n C 0 rfl dX12_isPlayed_16 rfl ?_
        refine wa_iload_n C 2 rfl dX12_isPlayed_17 rfl ?_
        refine wa_callVv C (k := 0) (As := [.int (iI x3_9)]) (rest := []) (c_X12_findUpTo l K ad x3_9 rx3_9 _ h) gw_1415 gw_1412 mW_0 rfl gw_1414 gs_64 gw_12 q_X12_findUpTo rfl rfl rfl ⟨by decide, by decide⟩ rfl (Nat.le_of_ble_eq_true rfl) dX12_isPlayed_18 (fun u9 hp => ?_)
        obtain ⟨M_parts_28, M_numbers_29, M_safe_30, M_mined_31, M_used_32, M_partOf_33, M_placeOf_34, M_partSize_35, M_ways_36, M_with_37, M_masks_38, M_rests_39, M_reach_40, M_more_41, rfl, h⟩ := hp
        refine wa_iconst C (z := 0) dX12_isPlayed_21 rfl ?_
        refine wa_istore C dX12_isPlayed_22 (by decide) rfl ?_
        refine wa_iconst C (z := 0) dX12_isPlayed_24 rfl ?_
        refine wa_istore C dX12_isPlayed_25 (by decide) rfl ?_
        obtain ⟨Inv_42, ⟨n_43, h0Inv_42⟩, hInv_42⟩ := h
        have k_46 : ∀ (n_44 : Nat) (x4_47 : Int) (x5_48 : Int) (M_lives_49 : Int) (M_state_50 : Int → Int), inR x4_47 → inR x5_48 → Inv_42 n_44 x4_47 x5_48 M_lives_49 M_state_50 → WA p l e ({ frames := 9, cells := 0, slots := 0, locals := 540 } : Room) s m args below meth c 0 0 Q K ad 6 A 27 [(0, .ref (ad 0)), (2, .int (iI x2)), (3, .int (iI x3_9)), (4, .int (iI x4_47)), (5, .int (iI x5_48))] [] (mW M_thrown M_w M_h M_cells M_shape M_isBoard M_isBlank M_lives_49 M_moves M_parts_28 M_numbers_29 M_grade M_reasons M_total M_near M_degree M_mine M_state_50 M_history M_oldLives M_safe_30 M_mined_31 M_used_32 M_partOf_33 M_placeOf_34 M_partSize_35 M_ways_36 M_with_37 M_masks_38 M_rests_39 M_bits M_reach_40 M_more_41 M_reason M_big M_region) := by
          intro n_44
          induction n_44 using Nat.strongRecOn with
          | ind n_44 ih_45 =>
            intro x4_47 x5_48 M_lives_49 M_state_50 rx4_47 rx5_48 h
            replace h := hInv_42 n_44 x4_47 x5_48 M_lives_49 M_state_50 rx4_47 rx5_48 h
            refine wa_iload C 4 rfl dX12_isPlayed_27 ?_
            refine wa_aload_n C 0 rfl dX12_isPlayed_29 rfl ?_
            refine wa_getI C 0 3 mW_0 rfl rfl (by decide) okX12 gw_1235 dX12_isPlayed_30 (fun r_51 => ?_)
            refine wa_icmp_ge C (tgt := 70) rx5_48 r_51 dX12_isPlayed_33 (by decide) (fun c_52 => ?_) (fun c_52 => ?_)
            · replace h := h.1 c_52
              refine wa_iload C 3 rfl dX12_isPlayed_70 ?_
              obtain ⟨J_53, h, hJ_53⟩ := h
              have k_54 : ∀ (z_55 : Int), inR z_55 → J_53 z_55 → WA p l e ({ frames := 9, cells := 0, slots := 0, locals := 540 } : Room) s m args below meth c 0 0 Q K ad 6 A 82 [(0, .ref (ad 0)), (2, .int (iI x2))] [.int (iI z_55)] (mW M_thrown M_w M_h M_cells M_shape M_isBoard M_isBlank M_lives_49 M_moves M_parts_28 M_numbers_29 M_grade M_reasons M_total M_near M_degree M_mine M_state_50 M_history M_oldLives M_safe_30 M_mined_31 M_used_32 M_partOf_33 M_placeOf_34 M_partSize_35 M_ways_36 M_with_37 M_masks_38 M_rests_39 M_bits M_reach_40 M_more_41 M_reason M_big M_region) := by
                intro z_55 rz_55 h
                replace h := hJ_53 z_55 rz_55 h
                refine wa_istore_n C dX12_isPlayed_82 rfl (by decide) rfl ?_
                refine wa_goto C (tgt := 11) dX12_isPlayed_83 (by decide) ?_
                obtain ⟨n_56, ln_56, h⟩ := h
                refine wa_sub C [1, 2, 0] rfl ?_
                exact ih_7 n_56 ln_56 z_55 M_lives_49 M_parts_28 M_numbers_29 M_state_50 M_safe_30 M_mined_31 M_used_32 M_partOf_33 M_placeOf_34 M_partSize_35 M_ways_36 M_with_37 M_masks_38 M_rests_39 M_reach_40 M_more_41 rz_55 h
              refine wa_if_eq C (tgt := 79) rx4_47 dX12_isPlayed_72 (by decide) (fun c_57 => ?_) (fun c_57 => ?_)
              · replace h := h.1 c_57
                refine wa_iload_n C 2 rfl dX12_isPlayed_79 rfl ?_
                refine wa_iconst C (z := 1) dX12_isPlayed_80 rfl ?_
                refine wa_iadd C dX12_isPlayed_81 ?_
                obtain ⟨r_58, h⟩ := h
                refine wa_sub C [0, 1] rfl ?_
                exact k_54 (x3_9 + 1) r_58 h
              · replace h := h.2 c_57
                refine wa_iconst C (z := 1) dX12_isPlayed_75 rfl ?_
                refine wa_goto C (tgt := 82) dX12_isPlayed_76 (by decide) ?_
                refine wa_sub C [0, 1] rfl ?_
                exact k_54 1 (inR_k 1 rfl) h
            · replace h := h.2 c_52
              refine wa_aload_n C 0 rfl dX12_isPlayed_36 rfl ?_
              refine wa_getR C 0 15 mW_0 rfl rfl (by decide) okX12 gw_1247 dX12_isPlayed_37 ?_
              refine wa_iload C 4 rfl dX12_isPlayed_40 ?_
              obtain ⟨t_59, h⟩ := h
              refine wa_bald C 7 mW_7 dX12_isPlayed_42 t_59.1 t_59.2 (fun v_60 ev_60 rv_60 => ?_)
              replace h := h v_60 ev_60 rv_60
              obtain ⟨J_61, h, hJ_61⟩ := h
              have k_62 : ∀ (x4_63 : Int) (M_lives_64 : Int) (M_state_65 : Int → Int), inR x4_63 → J_61 x4_63 M_lives_64 M_state_65 → WA p l e ({ frames := 9, cells := 0, slots := 0, locals := 540 } : Room) s m args below meth c 0 0 Q K ad 6 A 64 [(0, .ref (ad 0)), (2, .int (iI x2)), (3, .int (iI x3_9)), (4, .int (iI x4_63)), (5, .int (iI x5_48))] [] (mW M_thrown M_w M_h M_cells M_shape M_isBoard M_isBlank M_lives_64 M_moves M_parts_28 M_numbers_29 M_grade M_reasons M_total M_near M_degree M_mine M_state_65 M_history M_oldLives M_safe_30 M_mined_31 M_used_32 M_partOf_33 M_placeOf_34 M_partSize_35 M_ways_36 M_with_37 M_masks_38 M_rests_39 M_bits M_reach_40 M_more_41 M_reason M_big M_region) := by
                intro x4_63 M_lives_64 M_state_65 rx4_63 h
                replace h := hJ_61 x4_63 M_lives_64 M_state_65 rx4_63 h
                obtain ⟨r_66, h⟩ := h
                refine wa_iinc C (lv' := fun w9 => [(5, .int (iI w9)), (0, .ref (ad 0)), (2, .int (iI x2)), (3, .int (iI x3_9)), (4, .int (iI x4_63))]) 4 rfl dX12_isPlayed_64 (by decide) (fun _ => rfl) (fun x5_67 ex5_67 => ?_)
                replace h := h x5_67 ex5_67
                have rx5_67 : inR x5_67 := by rw [ex5_67]; exact r_66
                refine wa_goto C (tgt := 27) dX12_isPlayed_67 (by decide) ?_
                obtain ⟨n_68, ln_68, h⟩ := h
                refine wa_sub C [1, 2, 3, 4, 0] rfl ?_
                exact ih_45 n_68 ln_68 x4_63 x5_67 M_lives_64 M_state_65 rx4_63 rx5_67 h
              refine wa_if_eq C (tgt := 64) (inR_b rv_60) dX12_isPlayed_43 (by decide) (fun c_69 => ?_) (fun c_69 => ?_)
              · replace h := h.1 c_69
                refine wa_sub C [0, 1, 2, 3, 4] rfl ?_
                exact k_62 x4_47 M_lives_49 M_state_50 rx4_47 h
              · replace h := h.2 c_69
                refine wa_aload_n C 0 rfl dX12_isPlayed_46 rfl ?_
                refine wa_iload C 4 rfl dX12_isPlayed_47 ?_
                refine wa_callVi C (k := 0) (As := [.int (iI x5_48)]) (rest := []) (c_X12_isUnknown l K ad x5_48 rx5_48 _ h) gw_1411 gw_1408 mW_0 rfl gw_1410 gs_63 gw_12 q_X12_isUnknown rfl rfl rfl ⟨by decide, by decide⟩ rfl (Nat.le_of_ble_eq_true rfl) dX12_isPlayed_49 (fun c_70 u9 rc_70 hp => ?_)
                obtain ⟨bc_70, rfl, h⟩ := hp
                replace h := h bc_70
                refine wa_if_eq C (tgt := 64) (inR_b bc_70) dX12_isPlayed_52 (by decide) (fun c_71 => ?_) (fun c_71 => ?_)
                · replace h := h.1 c_71
                  refine wa_sub C [0, 1, 2, 3, 4] rfl ?_
                  exact k_62 x4_47 M_lives_49 M_state_50 rx4_47 h
                · replace h := h.2 c_71
                  refine wa_aload_n C 0 rfl dX12_isPlayed_55 rfl ?_
                  refine wa_iload C 4 rfl dX12_isPlayed_56 ?_
                  refine wa_callVv C (k := 0) (As := [.int (iI x5_48)]) (rest := []) (c_X12_uncover l K ad x5_48 rx5_48 _ h) gw_1403 gw_1400 mW_0 rfl gw_1402 gs_61 gw_12 q_X12_uncover rfl rfl rfl ⟨by decide, by decide⟩ rfl (Nat.le_of_ble_eq_true rfl) dX12_isPlayed_58 (fun u9 hp => ?_)
                  obtain ⟨M_lives_72, M_state_73, rfl, h⟩ := hp
                  refine wa_iconst C (z := 1) dX12_isPlayed_61 rfl ?_
                  refine wa_istore C dX12_isPlayed_62 (by decide) rfl ?_
                  refine wa_sub C [1, 2, 3, 0, 4] rfl ?_
                  exact k_62 1 M_lives_72 M_state_73 (inR_k 1 rfl) h
        refine wa_sub C [2, 3, 4, 1, 0] rfl ?_
        exact k_46 n_43 0 0 M_lives_10 M_state_13 (inR_k 0 rfl) (inR_k 0 rfl) h0Inv_42
  refine wa_sub C [1, 3, 0] rfl ?_
  exact k_8 n_5 1 M_lives_2 M_parts M_numbers M_state_3 M_safe M_mined M_used M_partOf M_placeOf M_partSize M_ways M_with M_masks M_rests M_reach M_more (inR_k 1 rfl) h0Inv_4
def P_X12_isNextToNumber (post : Int → Prop) (M_near : Int → Int) (M_degree : Int → Int) (M_state : Int → Int) (x1 : Int) : Prop :=
  P_X12_around (fun (c_1 : Int) => inR c_1 → (∃ J_2 : (Int) → Prop, ((c_1 ≤ 0 → (J_2 0)) ∧ (¬ c_1 ≤ 0 → (J_2 1))) ∧ (∀ (z_4 : Int), inR z_4 → J_2 z_4 → ((z_4 = 0 ∨ z_4 = 1) ∧ (post z_4))))) M_near M_degree M_state x1 1
set_option maxRecDepth 100000 in
set_option maxHeartbeats 4000000 in
theorem c_X12_isNextToNumber (l : Launch) (K : wK) (ad : Nat → Nat) {M_thrown : Int} {M_w : Int} {M_h : Int} {M_cells : Int} {M_shape : Int} {M_isBoard : Int} {M_isBlank : Int} {M_lives : Int} {M_moves : Int} {M_parts : Int} {M_numbers : Int} {M_grade : Int} {M_reasons : Int} {M_total : Int} {M_near : Int → Int} {M_degree : Int → Int} {M_mine : Int → Int} {M_state : Int → Int} {M_history : Int → Int64} {M_oldLives : Int → Int} {M_safe : Int → Int} {M_mined : Int → Int} {M_used : Int → Int} {M_partOf : Int → Int} {M_placeOf : Int → Int} {M_partSize : Int → Int} {M_ways : Int → Int} {M_with : Int → Int} {M_masks : Int → Int} {M_rests : Int → Int} {M_bits : Int → Int} {M_reach : Int → Int} {M_more : Int → Int} {M_reason : Int → Int} {M_big : Int → Int64} {M_region : Int → Int} (x1 : Int) (rx1 : inR x1) (post : Int → Prop) (h : P_X12_isNextToNumber post M_near M_degree M_state x1) : mI l yX12_isNextToNumber (Cond.code yX12_isNextToNumber cX12_isNextToNumber 2 (some .boolean) :: GT) ({ frames := 3, cells := 0, slots := 0, locals := 180 } : Room) [.ref (ad 0), .int (iI x1)] K ad (mW M_thrown M_w M_h M_cells M_shape M_isBoard M_isBlank M_lives M_moves M_parts M_numbers M_grade M_reasons M_total M_near M_degree M_mine M_state M_history M_oldLives M_safe M_mined M_used M_partOf M_placeOf M_partSize M_ways M_with M_masks M_rests M_bits M_reach M_more M_reason M_big M_region) (fun z9 u9 => (z9 = 0 ∨ z9 = 1) ∧ u9 = (mW M_thrown M_w M_h M_cells M_shape M_isBoard M_isBlank M_lives M_moves M_parts M_numbers M_grade M_reasons M_total M_near M_degree M_mine M_state M_history M_oldLives M_safe M_mined M_used M_partOf M_placeOf M_partSize M_ways M_with M_masks M_rests M_bits M_reach M_more M_reason M_big M_region) ∧ post z9) := by
  refine mZ_of (lv0 := [(0, .ref (ad 0)), (1, .int (iI x1))]) (by decide) (Nat.le_of_ble_eq_true rfl) rfl ?_
  intro p e s m args below meth c Q A C ret
  replace C : Cx p ({ frames := 3, cells := 0, slots := 0, locals := 180 } : Room) m c 0 0 cX12_isNextToNumber 2 s args RX12 K A := C
  unfold P_X12_isNextToNumber at h
  refine wa_aload_n C 0 rfl dX12_isNextToNumber_0 rfl ?_
  refine wa_iload_n C 1 rfl dX12_isNextToNumber_1 rfl ?_
  refine wa_iconst C (z := 1) dX12_isNextToNumber_2 rfl ?_
  refine wa_callVi C (k := 0) (As := [.int (iI x1), .int (iI 1)]) (rest := []) (c_X12_around l K ad x1 1 rx1 (inR_k 1 rfl) _ h) gw_1435 gw_1432 mW_0 rfl gw_1434 gs_69 gw_12 q_X12_around rfl rfl rfl ⟨by decide, by decide⟩ rfl (Nat.le_of_ble_eq_true rfl) dX12_isNextToNumber_3 (fun c_1 u9 rc_1 hp => ?_)
  obtain ⟨rfl, h⟩ := hp
  replace h := h rc_1
  obtain ⟨J_2, h, hJ_2⟩ := h
  have k_3 : ∀ (z_4 : Int), inR z_4 → J_2 z_4 → WA p l e ({ frames := 3, cells := 0, slots := 0, locals := 180 } : Room) s m args below meth c 0 0 Q K ad 2 A 14 [] [.int (iI z_4)] (mW M_thrown M_w M_h M_cells M_shape M_isBoard M_isBlank M_lives M_moves M_parts M_numbers M_grade M_reasons M_total M_near M_degree M_mine M_state M_history M_oldLives M_safe M_mined M_used M_partOf M_placeOf M_partSize M_ways M_with M_masks M_rests M_bits M_reach M_more M_reason M_big M_region) := by
    intro z_4 rz_4 h
    replace h := hJ_2 z_4 rz_4 h
    obtain ⟨b_5, h⟩ := h
    exact ret dX12_isNextToNumber_14 b_5 ⟨b_5, rfl, h⟩
  refine wa_if_le C (tgt := 13) rc_1 dX12_isNextToNumber_6 (by decide) (fun c_6 => ?_) (fun c_6 => ?_)
  · replace h := h.1 c_6
    refine wa_iconst C (z := 0) dX12_isNextToNumber_13 rfl ?_
    refine wa_sub C [] rfl ?_
    exact k_3 0 (inR_k 0 rfl) h
  · replace h := h.2 c_6
    refine wa_iconst C (z := 1) dX12_isNextToNumber_9 rfl ?_
    refine wa_goto C (tgt := 14) dX12_isNextToNumber_10 (by decide) ?_
    refine wa_sub C [] rfl ?_
    exact k_3 1 (inR_k 1 rfl) h
def P_X12_isMended (post : Int → (Int → Int) → Prop) (M_cells : Int) (M_near : Int → Int) (M_degree : Int → Int) (M_mine : Int → Int) (M_state : Int → Int) : Prop :=
  inR (M_cells - 1) ∧ (∀ x3_3 : Int, x3_3 = (M_cells - 1) → (∃ Inv_4 : Nat → (Int) → (Int) → (Int) → Prop, (∃ n_5 : Nat, Inv_4 n_5 (-1) (-1) x3_3) ∧ ∀ (n_6 : Nat) (x1_9 : Int) (x2_10 : Int) (x3_11 : Int), inR x1_9 → inR x2_10 → inR x3_11 → Inv_4 n_6 x1_9 x2_10 x3_11 → ((x3_11 < 0 → ((x1_9 < 0 → (post 0 M_mine)) ∧ (¬ x1_9 < 0 → ((0 ≤ x2_10 → ((0 ≤ x1_9 ∧ x1_9 < 144) ∧ (∀ M_mine_16 : Int → Int, M_mine_16 = upZ M_mine x1_9 0 → ((0 ≤ x2_10 ∧ x2_10 < 144) ∧ (∀ M_mine_18 : Int → Int, M_mine_18 = upZ M_mine_16 x2_10 1 → (post 1 M_mine_18)))))) ∧ (¬ 0 ≤ x2_10 → (post 0 M_mine)))))) ∧ (¬ x3_11 < 0 → (P_X12_isUnknown (fun (c_19 : Int) => (c_19 = 0 ∨ c_19 = 1) → (∃ J_20 : (Int) → Prop, ((c_19 = 0 → (J_20 x1_9)) ∧ (¬ c_19 = 0 → ((0 ≤ x3_11 ∧ x3_11 < 144) ∧ (∀ v_38 : Int, v_38 = M_mine x3_11 → (v_38 = 0 ∨ v_38 = 1) → ((v_38 = 0 → (J_20 x1_9)) ∧ (¬ v_38 = 0 → (P_X12_isNextToNumber (fun (c_40 : Int) => (c_40 = 0 ∨ c_40 = 1) → ((c_40 = 0 → (J_20 x1_9)) ∧ (¬ c_40 = 0 → (J_20 x3_11)))) M_near M_degree M_state x3_11))))))) ∧ (∀ (x1_22 : Int), inR x1_22 → J_20 x1_22 → (P_X12_isUnknown (fun (c_23 : Int) => (c_23 = 0 ∨ c_23 = 1) → (∃ J_24 : (Int) → Prop, ((c_23 = 0 → (J_24 x2_10)) ∧ (¬ c_23 = 0 → ((0 ≤ x3_11 ∧ x3_11 < 144) ∧ (∀ v_32 : Int, v_32 = M_mine x3_11 → (v_32 = 0 ∨ v_32 = 1) → ((¬ v_32 = 0 → (J_24 x2_10)) ∧ (v_32 = 0 → (P_X12_isNextToNumber (fun (c_34 : Int) => (c_34 = 0 ∨ c_34 = 1) → ((¬ c_34 = 0 → (J_24 x2_10)) ∧ (c_34 = 0 → (J_24 x3_11)))) M_near M_degree M_state x3_11))))))) ∧ (∀ (x2_26 : Int), inR x2_26 → J_24 x2_26 → (inR (x3_11 + (-1)) ∧ (∀ x3_28 : Int, x3_28 = (x3_11 + (-1)) → (∃ n_29 : Nat, n_29 < n_6 ∧ Inv_4 n_29 x1_22 x2_26 x3_28)))))) M_state x3_11)))) M_state x3_11)))))
set_option maxRecDepth 100000 in
set_option maxHeartbeats 4000000 in
theorem c_X12_isMended (l : Launch) (K : wK) (ad : Nat → Nat) {M_thrown : Int} {M_w : Int} {M_h : Int} {M_cells : Int} {M_shape : Int} {M_isBoard : Int} {M_isBlank : Int} {M_lives : Int} {M_moves : Int} {M_parts : Int} {M_numbers : Int} {M_grade : Int} {M_reasons : Int} {M_total : Int} {M_near : Int → Int} {M_degree : Int → Int} {M_mine : Int → Int} {M_state : Int → Int} {M_history : Int → Int64} {M_oldLives : Int → Int} {M_safe : Int → Int} {M_mined : Int → Int} {M_used : Int → Int} {M_partOf : Int → Int} {M_placeOf : Int → Int} {M_partSize : Int → Int} {M_ways : Int → Int} {M_with : Int → Int} {M_masks : Int → Int} {M_rests : Int → Int} {M_bits : Int → Int} {M_reach : Int → Int} {M_more : Int → Int} {M_reason : Int → Int} {M_big : Int → Int64} {M_region : Int → Int}   (post : Int → (Int → Int) → Prop) (h : P_X12_isMended post M_cells M_near M_degree M_mine M_state) : mI l yX12_isMended (Cond.code yX12_isMended cX12_isMended 4 (some .boolean) :: GT) ({ frames := 4, cells := 0, slots := 0, locals := 240 } : Room) [.ref (ad 0)] K ad (mW M_thrown M_w M_h M_cells M_shape M_isBoard M_isBlank M_lives M_moves M_parts M_numbers M_grade M_reasons M_total M_near M_degree M_mine M_state M_history M_oldLives M_safe M_mined M_used M_partOf M_placeOf M_partSize M_ways M_with M_masks M_rests M_bits M_reach M_more M_reason M_big M_region) (fun z9 u9 => (z9 = 0 ∨ z9 = 1) ∧ ∃ M_mine9, u9 = (mW M_thrown M_w M_h M_cells M_shape M_isBoard M_isBlank M_lives M_moves M_parts M_numbers M_grade M_reasons M_total M_near M_degree M_mine9 M_state M_history M_oldLives M_safe M_mined M_used M_partOf M_placeOf M_partSize M_ways M_with M_masks M_rests M_bits M_reach M_more M_reason M_big M_region) ∧ post z9 M_mine9) := by
  refine mZ_of (lv0 := [(0, .ref (ad 0))]) (by decide) (Nat.le_of_ble_eq_true rfl) rfl ?_
  intro p e s m args below meth c Q A C ret
  replace C : Cx p ({ frames := 4, cells := 0, slots := 0, locals := 240 } : Room) m c 0 0 cX12_isMended 4 s args RX12 K A := C
  unfold P_X12_isMended at h
  refine wa_iconst C (z := -1) dX12_isMended_0 rfl ?_
  refine wa_istore_n C dX12_isMended_1 rfl (by decide) rfl ?_
  refine wa_iconst C (z := -1) dX12_isMended_2 rfl ?_
  refine wa_istore_n C dX12_isMended_3 rfl (by decide) rfl ?_
  refine wa_aload_n C 2 rfl dX12_isMended_4 rfl ?_
  refine wa_getI C 0 3 mW_0 rfl rfl (by decide) okX12 gw_1235 dX12_isMended_5 (fun r_1 => ?_)
  refine wa_iconst C (z := 1) dX12_isMended_8 rfl ?_
  refine wa_isub C dX12_isMended_9 ?_
  obtain ⟨r_2, h⟩ := h
  refine wa_nmi (fun x3_3 ex3_3 => ?_)
  replace h := h x3_3 ex3_3
  have rx3_3 : inR x3_3 := by rw [ex3_3]; exact r_2
  refine wa_istore_n C dX12_isMended_10 rfl (by decide) rfl ?_
  obtain ⟨Inv_4, ⟨n_5, h0Inv_4⟩, hInv_4⟩ := h
  have k_8 : ∀ (n_6 : Nat) (x1_9 : Int) (x2_10 : Int) (x3_11 : Int), inR x1_9 → inR x2_10 → inR x3_11 → Inv_4 n_6 x1_9 x2_10 x3_11 → WA p l e ({ frames := 4, cells := 0, slots := 0, locals := 240 } : Room) s m args below meth c 0 0 Q K ad 4 A 11 [(0, .ref (ad 0)), (1, .int (iI x1_9)), (2, .int (iI x2_10)), (3, .int (iI x3_11))] [] (mW M_thrown M_w M_h M_cells M_shape M_isBoard M_isBlank M_lives M_moves M_parts M_numbers M_grade M_reasons M_total M_near M_degree M_mine M_state M_history M_oldLives M_safe M_mined M_used M_partOf M_placeOf M_partSize M_ways M_with M_masks M_rests M_bits M_reach M_more M_reason M_big M_region) := by
    intro n_6
    induction n_6 using Nat.strongRecOn with
    | ind n_6 ih_7 =>
      intro x1_9 x2_10 x3_11 rx1_9 rx2_10 rx3_11 h
      replace h := hInv_4 n_6 x1_9 x2_10 x3_11 rx1_9 rx2_10 rx3_11 h
      refine wa_iload_n C 3 rfl dX12_isMended_11 rfl ?_
      refine wa_if_lt C (tgt := 75) rx3_11 dX12_isMended_12 (by decide) (fun c_12 => ?_) (fun c_12 => ?_)
      · replace h := h.1 c_12
        refine wa_iload_n C 1 rfl dX12_isMended_75 rfl ?_
        refine wa_if_lt C (tgt := 83) rx1_9 dX12_isMended_76 (by decide) (fun c_13 => ?_) (fun c_13 => ?_)
        · replace h := h.1 c_13
          refine wa_iconst C (z := 0) dX12_isMended_83 rfl ?_
          exact ret dX12_isMended_84 (Or.inl rfl) ⟨(Or.inl rfl), _, rfl, h⟩
        · replace h := h.2 c_13
          refine wa_iload_n C 2 rfl dX12_isMended_79 rfl ?_
          refine wa_if_ge C (tgt := 85) rx2_10 dX12_isMended_80 (by decide) (fun c_14 => ?_) (fun c_14 => ?_)
          · replace h := h.1 c_14
            refine wa_aload_n C 0 rfl dX12_isMended_85 rfl ?_
            refine wa_getR C 0 9 mW_0 rfl rfl (by decide) okX12 gw_1241 dX12_isMended_86 ?_
            refine wa_iload_n C 1 rfl dX12_isMended_89 rfl ?_
            refine wa_iconst C (z := 0) dX12_isMended_90 rfl ?_
            obtain ⟨t_15, h⟩ := h
            refine wa_bast C (ws' := fun w9 => (mW M_thrown M_w M_h M_cells M_shape M_isBoard M_isBlank M_lives M_moves M_parts M_numbers M_grade M_reasons M_total M_near M_degree w9 M_state M_history M_oldLives M_safe M_mined M_used M_partOf M_placeOf M_partSize M_ways M_with M_masks M_rests M_bits M_reach M_more M_reason M_big M_region)) 3 mW_3 dX12_isMended_91 t_15.1 t_15.2 (Or.inl rfl) mWs_3 (fun M_mine_16 eM_mine_16 => ?_)
            replace h := h M_mine_16 eM_mine_16
            refine wa_aload_n C 0 rfl dX12_isMended_92 rfl ?_
            refine wa_getR C 0 9 mW_0 rfl rfl (by decide) okX12 gw_1241 dX12_isMended_93 ?_
            refine wa_iload_n C 2 rfl dX12_isMended_96 rfl ?_
            refine wa_iconst C (z := 1) dX12_isMended_97 rfl ?_
            obtain ⟨t_17, h⟩ := h
            refine wa_bast C (ws' := fun w9 => (mW M_thrown M_w M_h M_cells M_shape M_isBoard M_isBlank M_lives M_moves M_parts M_numbers M_grade M_reasons M_total M_near M_degree w9 M_state M_history M_oldLives M_safe M_mined M_used M_partOf M_placeOf M_partSize M_ways M_with M_masks M_rests M_bits M_reach M_more M_reason M_big M_region)) 3 mW_3 dX12_isMended_98 t_17.1 t_17.2 (Or.inr rfl) mWs_3 (fun M_mine_18 eM_mine_18 => ?_)
            replace h := h M_mine_18 eM_mine_18
            refine wa_iconst C (z := 1) dX12_isMended_99 rfl ?_
            exact ret dX12_isMended_100 (Or.inr rfl) ⟨(Or.inr rfl), _, rfl, h⟩
          · replace h := h.2 c_14
            refine wa_iconst C (z := 0) dX12_isMended_83 rfl ?_
            exact ret dX12_isMended_84 (Or.inl rfl) ⟨(Or.inl rfl), _, rfl, h⟩
      · replace h := h.2 c_12
        refine wa_aload_n C 0 rfl dX12_isMended_15 rfl ?_
        refine wa_iload_n C 3 rfl dX12_isMended_16 rfl ?_
        refine wa_callVi C (k := 0) (As := [.int (iI x3_11)]) (rest := []) (c_X12_isUnknown l K ad x3_11 rx3_11 _ h) gw_1411 gw_1408 mW_0 rfl gw_1410 gs_63 gw_12 q_X12_isUnknown rfl rfl rfl ⟨by decide, by decide⟩ rfl (Nat.le_of_ble_eq_true rfl) dX12_isMended_17 (fun c_19 u9 rc_19 hp => ?_)
        obtain ⟨bc_19, rfl, h⟩ := hp
        replace h := h bc_19
        obtain ⟨J_20, h, hJ_20⟩ := h
        have k_21 : ∀ (x1_22 : Int), inR x1_22 → J_20 x1_22 → WA p l e ({ frames := 4, cells := 0, slots := 0, locals := 240 } : Room) s m args below meth c 0 0 Q K ad 4 A 42 [(0, .ref (ad 0)), (1, .int (iI x1_22)), (2, .int (iI x2_10)), (3, .int (iI x3_11))] [] (mW M_thrown M_w M_h M_cells M_shape M_isBoard M_isBlank M_lives M_moves M_parts M_numbers M_grade M_reasons M_total M_near M_degree M_mine M_state M_history M_oldLives M_safe M_mined M_used M_partOf M_placeOf M_partSize M_ways M_with M_masks M_rests M_bits M_reach M_more M_reason M_big M_region) := by
          intro x1_22 rx1_22 h
          replace h := hJ_20 x1_22 rx1_22 h
          refine wa_aload_n C 0 rfl dX12_isMended_42 rfl ?_
          refine wa_iload_n C 3 rfl dX12_isMended_43 rfl ?_
          refine wa_callVi C (k := 0) (As := [.int (iI x3_11)]) (rest := []) (c_X12_isUnknown l K ad x3_11 rx3_11 _ h) gw_1411 gw_1408 mW_0 rfl gw_1410 gs_63 gw_12 q_X12_isUnknown rfl rfl rfl ⟨by decide, by decide⟩ rfl (Nat.le_of_ble_eq_true rfl) dX12_isMended_44 (fun c_23 u9 rc_23 hp => ?_)
          obtain ⟨bc_23, rfl, h⟩ := hp
          replace h := h bc_23
          obtain ⟨J_24, h, hJ_24⟩ := h
          have k_25 : ∀ (x2_26 : Int), inR x2_26 → J_24 x2_26 → WA p l e ({ frames := 4, cells := 0, slots := 0, locals := 240 } : Room) s m args below meth c 0 0 Q K ad 4 A 69 [(0, .ref (ad 0)), (1, .int (iI x1_22)), (2, .int (iI x2_26)), (3, .int (iI x3_11))] [] (mW M_thrown M_w M_h M_cells M_shape M_isBoard M_isBlank M_lives M_moves M_parts M_numbers M_grade M_reasons M_total M_near M_degree M_mine M_state M_history M_oldLives M_safe M_mined M_used M_partOf M_placeOf M_partSize M_ways M_with M_masks M_rests M_bits M_reach M_more M_reason M_big M_region) := by
            intro x2_26 rx2_26 h
            replace h := hJ_24 x2_26 rx2_26 h
            obtain ⟨r_27, h⟩ := h
            refine wa_iinc C (lv' := fun w9 => [(3, .int (iI w9)), (0, .ref (ad 0)), (1, .int (iI x1_22)), (2, .int (iI x2_26))]) 3 rfl dX12_isMended_69 (by decide) (fun _ => rfl) (fun x3_28 ex3_28 => ?_)
            replace h := h x3_28 ex3_28
            have rx3_28 : inR x3_28 := by rw [ex3_28]; exact r_27
            refine wa_goto C (tgt := 11) dX12_isMended_72 (by decide) ?_
            obtain ⟨n_29, ln_29, h⟩ := h
            refine wa_sub C [1, 2, 3, 0] rfl ?_
            exact ih_7 n_29 ln_29 x1_22 x2_26 x3_28 rx1_22 rx2_26 rx3_28 h
          refine wa_if_eq C (tgt := 69) (inR_b bc_23) dX12_isMended_47 (by decide) (fun c_30 => ?_) (fun c_30 => ?_)
          · replace h := h.1 c_30
            refine wa_sub C [0, 1, 2, 3] rfl ?_
            exact k_25 x2_10 rx2_10 h
          · replace h := h.2 c_30
            refine wa_aload_n C 0 rfl dX12_isMended_50 rfl ?_
            refine wa_getR C 0 9 mW_0 rfl rfl (by decide) okX12 gw_1241 dX12_isMended_51 ?_
            refine wa_iload_n C 3 rfl dX12_isMended_54 rfl ?_
            obtain ⟨t_31, h⟩ := h
            refine wa_bald C 3 mW_3 dX12_isMended_55 t_31.1 t_31.2 (fun v_32 ev_32 rv_32 => ?_)
            replace h := h v_32 ev_32 rv_32
            refine wa_if_ne C (tgt := 69) (inR_b rv_32) dX12_isMended_56 (by decide) (fun c_33 => ?_) (fun c_33 => ?_)
            · replace h := h.1 c_33
              refine wa_sub C [0, 1, 2, 3] rfl ?_
              exact k_25 x2_10 rx2_10 h
            · replace h := h.2 c_33
              refine wa_aload_n C 0 rfl dX12_isMended_59 rfl ?_
              refine wa_iload_n C 3 rfl dX12_isMended_60 rfl ?_
              refine wa_callVi C (k := 0) (As := [.int (iI x3_11)]) (rest := []) (c_X12_isNextToNumber l K ad x3_11 rx3_11 _ h) gw_1527 gw_1524 mW_0 rfl gw_1526 gs_92 gw_12 q_X12_isNextToNumber rfl rfl rfl ⟨by decide, by decide⟩ rfl (Nat.le_of_ble_eq_true rfl) dX12_isMended_61 (fun c_34 u9 rc_34 hp => ?_)
              obtain ⟨bc_34, rfl, h⟩ := hp
              replace h := h bc_34
              refine wa_if_ne C (tgt := 69) (inR_b bc_34) dX12_isMended_64 (by decide) (fun c_35 => ?_) (fun c_35 => ?_)
              · replace h := h.1 c_35
                refine wa_sub C [0, 1, 2, 3] rfl ?_
                exact k_25 x2_10 rx2_10 h
              · replace h := h.2 c_35
                refine wa_iload_n C 3 rfl dX12_isMended_67 rfl ?_
                refine wa_istore_n C dX12_isMended_68 rfl (by decide) rfl ?_
                refine wa_sub C [1, 2, 0, 3] rfl ?_
                exact k_25 x3_11 rx3_11 h
        refine wa_if_eq C (tgt := 42) (inR_b bc_19) dX12_isMended_20 (by decide) (fun c_36 => ?_) (fun c_36 => ?_)
        · replace h := h.1 c_36
          refine wa_sub C [0, 1, 2, 3] rfl ?_
          exact k_21 x1_9 rx1_9 h
        · replace h := h.2 c_36
          refine wa_aload_n C 0 rfl dX12_isMended_23 rfl ?_
          refine wa_getR C 0 9 mW_0 rfl rfl (by decide) okX12 gw_1241 dX12_isMended_24 ?_
          refine wa_iload_n C 3 rfl dX12_isMended_27 rfl ?_
          obtain ⟨t_37, h⟩ := h
          refine wa_bald C 3 mW_3 dX12_isMended_28 t_37.1 t_37.2 (fun v_38 ev_38 rv_38 => ?_)
          replace h := h v_38 ev_38 rv_38
          refine wa_if_eq C (tgt := 42) (inR_b rv_38) dX12_isMended_29 (by decide) (fun c_39 => ?_) (fun c_39 => ?_)
          · replace h := h.1 c_39
            refine wa_sub C [0, 1, 2, 3] rfl ?_
            exact k_21 x1_9 rx1_9 h
          · replace h := h.2 c_39
            refine wa_aload_n C 0 rfl dX12_isMended_32 rfl ?_
            refine wa_iload_n C 3 rfl dX12_isMended_33 rfl ?_
            refine wa_callVi C (k := 0) (As := [.int (iI x3_11)]) (rest := []) (c_X12_isNextToNumber l K ad x3_11 rx3_11 _ h) gw_1527 gw_1524 mW_0 rfl gw_1526 gs_92 gw_12 q_X12_isNextToNumber rfl rfl rfl ⟨by decide, by decide⟩ rfl (Nat.le_of_ble_eq_true rfl) dX12_isMended_34 (fun c_40 u9 rc_40 hp => ?_)
            obtain ⟨bc_40, rfl, h⟩ := hp
            replace h := h bc_40
            refine wa_if_eq C (tgt := 42) (inR_b bc_40) dX12_isMended_37 (by decide) (fun c_41 => ?_) (fun c_41 => ?_)
            · replace h := h.1 c_41
              refine wa_sub C [0, 1, 2, 3] rfl ?_
              exact k_21 x1_9 rx1_9 h
            · replace h := h.2 c_41
              refine wa_iload_n C 3 rfl dX12_isMended_40 rfl ?_
              refine wa_istore_n C dX12_isMended_41 rfl (by decide) rfl ?_
              refine wa_sub C [1, 0, 2, 3] rfl ?_
              exact k_21 x3_11 rx3_11 h
  refine wa_sub C [3, 2, 1, 0] rfl ?_
  exact k_8 n_5 (-1) (-1) x3_3 (inR_k (-1) rfl) (inR_k (-1) rfl) rx3_3 h0Inv_4
def P_X12_isTooMany (post : Int → Prop) (x1 : Int) (x2 : Int) (x3 : Int) (x4 : Int) : Prop :=
  inR (((x2.tdiv 2) * x1) + (x1.tdiv 2)) ∧ (∀ x5_2 : Int, x5_2 = (((x2.tdiv 2) * x1) + (x1.tdiv 2)) → (∃ Inv_3 : Nat → (Int) → (Int) → Prop, (∃ n_4 : Nat, Inv_3 n_4 1 0) ∧ ∀ (n_5 : Nat) (x6_8 : Int) (x7_9 : Int), inR x6_8 → inR x7_9 → Inv_3 n_5 x6_8 x7_9 → (inR (x1 * x2) ∧ (((x1 * x2) ≤ x7_9 → (inR ((x1 * x2) - x6_8) ∧ (∃ J_13 : (Int) → Prop, ((x4 ≤ ((x1 * x2) - x6_8) → (J_13 0)) ∧ (¬ x4 ≤ ((x1 * x2) - x6_8) → (J_13 1))) ∧ (∀ (z_15 : Int), inR z_15 → J_13 z_15 → ((z_15 = 0 ∨ z_15 = 1) ∧ (post z_15)))))) ∧ (¬ (x1 * x2) ≤ x7_9 → (∃ Inv_18 : Nat → (Int) → (Int) → Prop, (∃ n_19 : Nat, Inv_18 n_19 0 0) ∧ ∀ (n_20 : Nat) (x8_23 : Int) (x9_24 : Int), inR x8_23 → inR x9_24 → Inv_18 n_20 x8_23 x9_24 → ((9 ≤ x9_24 → (∃ J_26 : (Int) → Prop, (∃ J_34 : Prop, ((x8_23 = 0 → (J_34)) ∧ (¬ x8_23 = 0 → ((x7_9 = x5_2 → (J_34)) ∧ (¬ x7_9 = x5_2 → (J_26 1))))) ∧ (J_34 → (J_26 0))) ∧ (∀ (z_28 : Int), inR z_28 → J_26 z_28 → (inR (x6_8 + z_28) ∧ (∀ x6_30 : Int, x6_30 = (x6_8 + z_28) → (inR (x7_9 + 1) ∧ (∀ x7_32 : Int, x7_32 = (x7_9 + 1) → (∃ n_33 : Nat, n_33 < n_5 ∧ Inv_3 n_33 x6_30 x7_32)))))))) ∧ (¬ 9 ≤ x9_24 → (∃ J_38 : (Int) → Prop, (∃ J_44 : Prop, ((¬ x8_23 = 0 → (J_44)) ∧ (x8_23 = 0 → (inR (x3.tmod 2) ∧ (∃ J_48 : Prop, (∃ J_50 : Prop, (((x3.tmod 2) = 1 → (J_50)) ∧ (¬ (x3.tmod 2) = 1 → ((¬ x9_24 = 4 → (J_48)) ∧ (x9_24 = 4 → (J_50))))) ∧ (J_50 → (x1 ≠ 0 ∧ (x1 ≠ 0 ∧ (x1 ≠ 0 ∧ (x1 ≠ 0 ∧ (inR (x5_2.tdiv x1) ∧ (inR (x5_2.tmod x1) ∧ (inR ((x7_9.tdiv x1) + (((x9_24.tdiv 3) - 1) * x2)) ∧ (inR ((x7_9.tmod x1) + (((x9_24.tmod 3) - 1) * x1)) ∧ (P_X12_touch (fun (c_60 : Int) => (c_60 = 0 ∨ c_60 = 1) → ((c_60 = 0 → (J_48)) ∧ (¬ c_60 = 0 → (J_44))))  x3 (x5_2.tdiv x1) (x5_2.tmod x1) ((x7_9.tdiv x1) + (((x9_24.tdiv 3) - 1) * x2)) ((x7_9.tmod x1) + (((x9_24.tmod 3) - 1) * x1))))))))))))) ∧ (J_48 → (J_38 0)))))) ∧ (J_44 → (J_38 1))) ∧ (∀ (z_40 : Int), inR z_40 → J_38 z_40 → (inR (x9_24 + 1) ∧ (∀ x9_42 : Int, x9_42 = (x9_24 + 1) → (∃ n_43 : Nat, n_43 < n_20 ∧ Inv_18 n_43 z_40 x9_42)))))))))))))
set_option maxRecDepth 100000 in
set_option maxHeartbeats 4000000 in
theorem c_X12_isTooMany (l : Launch) (K : wK) (ad : Nat → Nat) {M_thrown : Int} {M_w : Int} {M_h : Int} {M_cells : Int} {M_shape : Int} {M_isBoard : Int} {M_isBlank : Int} {M_lives : Int} {M_moves : Int} {M_parts : Int} {M_numbers : Int} {M_grade : Int} {M_reasons : Int} {M_total : Int} {M_near : Int → Int} {M_degree : Int → Int} {M_mine : Int → Int} {M_state : Int → Int} {M_history : Int → Int64} {M_oldLives : Int → Int} {M_safe : Int → Int} {M_mined : Int → Int} {M_used : Int → Int} {M_partOf : Int → Int} {M_placeOf : Int → Int} {M_partSize : Int → Int} {M_ways : Int → Int} {M_with : Int → Int} {M_masks : Int → Int} {M_rests : Int → Int} {M_bits : Int → Int} {M_reach : Int → Int} {M_more : Int → Int} {M_reason : Int → Int} {M_big : Int → Int64} {M_region : Int → Int} (x1 : Int) (x2 : Int) (x3 : Int) (x4 : Int) (rx1 : inR x1) (rx2 : inR x2) (rx3 : inR x3) (rx4 : inR x4) (post : Int → Prop) (h : P_X12_isTooMany post x1 x2 x3 x4) : mI l yX12_isTooMany (Cond.code yX12_isTooMany cX12_isTooMany 10 (some .boolean) :: GT) ({ frames := 4, cells := 0, slots := 0, locals := 240 } : Room) [.ref (ad 0), .int (iI x1), .int (iI x2), .int (iI x3), .int (iI x4)] K ad (mW M_thrown M_w M_h M_cells M_shape M_isBoard M_isBlank M_lives M_moves M_parts M_numbers M_grade M_reasons M_total M_near M_degree M_mine M_state M_history M_oldLives M_safe M_mined M_used M_partOf M_placeOf M_partSize M_ways M_with M_masks M_rests M_bits M_reach M_more M_reason M_big M_region) (fun z9 u9 => (z9 = 0 ∨ z9 = 1) ∧ u9 = (mW M_thrown M_w M_h M_cells M_shape M_isBoard M_isBlank M_lives M_moves M_parts M_numbers M_grade M_reasons M_total M_near M_degree M_mine M_state M_history M_oldLives M_safe M_mined M_used M_partOf M_placeOf M_partSize M_ways M_with M_masks M_rests M_bits M_reach M_more M_reason M_big M_region) ∧ post z9) := by
  refine mZ_of (lv0 := [(0, .ref (ad 0)), (1, .int (iI x1)), (2, .int (iI x2)), (3, .int (iI x3)), (4, .int (iI x4))]) (by decide) (Nat.le_of_ble_eq_true rfl) rfl ?_
  intro p e s m args below meth c Q A C ret
  replace C : Cx p ({ frames := 4, cells := 0, slots := 0, locals := 240 } : Room) m c 0 0 cX12_isTooMany 10 s args RX12 K A := C
  unfold P_X12_isTooMany at h
  refine wa_iload_n C 2 rfl dX12_isTooMany_0 rfl ?_
  refine wa_iconst C (z := 2) dX12_isTooMany_1 rfl ?_
  refine wa_idiv C dX12_isTooMany_2 rx2 (inR_k 2 rfl) (by decide) ?_
  refine wa_iload_n C 1 rfl dX12_isTooMany_3 rfl ?_
  refine wa_imul C dX12_isTooMany_4 ?_
  refine wa_iload_n C 1 rfl dX12_isTooMany_5 rfl ?_
  refine wa_iconst C (z := 2) dX12_isTooMany_6 rfl ?_
  refine wa_idiv C dX12_isTooMany_7 rx1 (inR_k 2 rfl) (by decide) ?_
  refine wa_iadd C dX12_isTooMany_8 ?_
  obtain ⟨r_1, h⟩ := h
  refine wa_nmi (fun x5_2 ex5_2 => ?_)
  replace h := h x5_2 ex5_2
  have rx5_2 : inR x5_2 := by rw [ex5_2]; exact r_1
  refine wa_istore C dX12_isTooMany_9 (by decide) rfl ?_
  refine wa_iconst C (z := 1) dX12_isTooMany_11 rfl ?_
  refine wa_istore C dX12_isTooMany_12 (by decide) rfl ?_
  refine wa_iconst C (z := 0) dX12_isTooMany_14 rfl ?_
  refine wa_istore C dX12_isTooMany_15 (by decide) rfl ?_
  obtain ⟨Inv_3, ⟨n_4, h0Inv_3⟩, hInv_3⟩ := h
  have k_7 : ∀ (n_5 : Nat) (x6_8 : Int) (x7_9 : Int), inR x6_8 → inR x7_9 → Inv_3 n_5 x6_8 x7_9 → WA p l e ({ frames := 4, cells := 0, slots := 0, locals := 240 } : Room) s m args below meth c 0 0 Q K ad 10 A 17 [(1, .int (iI x1)), (2, .int (iI x2)), (3, .int (iI x3)), (4, .int (iI x4)), (5, .int (iI x5_2)), (6, .int (iI x6_8)), (7, .int (iI x7_9))] [] (mW M_thrown M_w M_h M_cells M_shape M_isBoard M_isBlank M_lives M_moves M_parts M_numbers M_grade M_reasons M_total M_near M_degree M_mine M_state M_history M_oldLives M_safe M_mined M_used M_partOf M_placeOf M_partSize M_ways M_with M_masks M_rests M_bits M_reach M_more M_reason M_big M_region) := by
    intro n_5
    induction n_5 using Nat.strongRecOn with
    | ind n_5 ih_6 =>
      intro x6_8 x7_9 rx6_8 rx7_9 h
      replace h := hInv_3 n_5 x6_8 x7_9 rx6_8 rx7_9 h
      refine wa_iload C 6 rfl dX12_isTooMany_17 ?_
      refine wa_iload_n C 0 rfl dX12_isTooMany_19 rfl ?_
      refine wa_iload_n C 1 rfl dX12_isTooMany_20 rfl ?_
      refine wa_imul C dX12_isTooMany_21 ?_
      obtain ⟨r_10, h⟩ := h
      refine wa_icmp_ge C (tgt := 138) rx7_9 r_10 dX12_isTooMany_22 (by decide) (fun c_11 => ?_) (fun c_11 => ?_)
      · replace h := h.1 c_11
        refine wa_iload C 3 rfl dX12_isTooMany_138 ?_
        refine wa_iload_n C 0 rfl dX12_isTooMany_140 rfl ?_
        refine wa_iload_n C 1 rfl dX12_isTooMany_141 rfl ?_
        refine wa_imul C dX12_isTooMany_142 ?_
        refine wa_iload C 5 rfl dX12_isTooMany_143 ?_
        refine wa_isub C dX12_isTooMany_145 ?_
        obtain ⟨r_12, h⟩ := h
        obtain ⟨J_13, h, hJ_13⟩ := h
        have k_14 : ∀ (z_15 : Int), inR z_15 → J_13 z_15 → WA p l e ({ frames := 4, cells := 0, slots := 0, locals := 240 } : Room) s m args below meth c 0 0 Q K ad 10 A 154 [] [.int (iI z_15)] (mW M_thrown M_w M_h M_cells M_shape M_isBoard M_isBlank M_lives M_moves M_parts M_numbers M_grade M_reasons M_total M_near M_degree M_mine M_state M_history M_oldLives M_safe M_mined M_used M_partOf M_placeOf M_partSize M_ways M_with M_masks M_rests M_bits M_reach M_more M_reason M_big M_region) := by
          intro z_15 rz_15 h
          replace h := hJ_13 z_15 rz_15 h
          obtain ⟨b_16, h⟩ := h
          exact ret dX12_isTooMany_154 b_16 ⟨b_16, rfl, h⟩
        refine wa_icmp_le C (tgt := 153) rx4 r_12 dX12_isTooMany_146 (by decide) (fun c_17 => ?_) (fun c_17 => ?_)
        · replace h := h.1 c_17
          refine wa_iconst C (z := 0) dX12_isTooMany_153 rfl ?_
          refine wa_sub C [] rfl ?_
          exact k_14 0 (inR_k 0 rfl) h
        · replace h := h.2 c_17
          refine wa_iconst C (z := 1) dX12_isTooMany_149 rfl ?_
          refine wa_goto C (tgt := 154) dX12_isTooMany_150 (by decide) ?_
          refine wa_sub C [] rfl ?_
          exact k_14 1 (inR_k 1 rfl) h
      · replace h := h.2 c_11
        refine wa_iconst C (z := 0) dX12_isTooMany_25 rfl ?_
        refine wa_istore C dX12_isTooMany_26 (by decide) rfl ?_
        refine wa_iconst C (z := 0) dX12_isTooMany_28 rfl ?_
        refine wa_istore C dX12_isTooMany_29 (by decide) rfl ?_
        obtain ⟨Inv_18, ⟨n_19, h0Inv_18⟩, hInv_18⟩ := h
        have k_22 : ∀ (n_20 : Nat) (x8_23 : Int) (x9_24 : Int), inR x8_23 → inR x9_24 → Inv_18 n_20 x8_23 x9_24 → WA p l e ({ frames := 4, cells := 0, slots := 0, locals := 240 } : Room) s m args below meth c 0 0 Q K ad 10 A 31 [(1, .int (iI x1)), (2, .int (iI x2)), (3, .int (iI x3)), (4, .int (iI x4)), (5, .int (iI x5_2)), (6, .int (iI x6_8)), (7, .int (iI x7_9)), (8, .int (iI x8_23)), (9, .int (iI x9_24))] [] (mW M_thrown M_w M_h M_cells M_shape M_isBoard M_isBlank M_lives M_moves M_parts M_numbers M_grade M_reasons M_total M_near M_degree M_mine M_state M_history M_oldLives M_safe M_mined M_used M_partOf M_placeOf M_partSize M_ways M_with M_masks M_rests M_bits M_reach M_more M_reason M_big M_region) := by
          intro n_20
          induction n_20 using Nat.strongRecOn with
          | ind n_20 ih_21 =>
            intro x8_23 x9_24 rx8_23 rx9_24 h
            replace h := hInv_18 n_20 x8_23 x9_24 rx8_23 rx9_24 h
            refine wa_iload C 8 rfl dX12_isTooMany_31 ?_
            refine wa_bipush C (z := 9) dX12_isTooMany_33 (by decide) ?_
            refine wa_icmp_ge C (tgt := 110) rx9_24 (inR_k 9 rfl) dX12_isTooMany_35 (by decide) (fun c_25 => ?_) (fun c_25 => ?_)
            · replace h := h.1 c_25
              refine wa_iload C 5 rfl dX12_isTooMany_110 ?_
              refine wa_iload C 7 rfl dX12_isTooMany_112 ?_
              obtain ⟨J_26, h, hJ_26⟩ := h
              have k_27 : ∀ (z_28 : Int), inR z_28 → J_26 z_28 → WA p l e ({ frames := 4, cells := 0, slots := 0, locals := 240 } : Room) s m args below meth c 0 0 Q K ad 10 A 129 [(1, .int (iI x1)), (2, .int (iI x2)), (3, .int (iI x3)), (4, .int (iI x4)), (5, .int (iI x5_2)), (7, .int (iI x7_9))] [.int (iI z_28), .int (iI x6_8)] (mW M_thrown M_w M_h M_cells M_shape M_isBoard M_isBlank M_lives M_moves M_parts M_numbers M_grade M_reasons M_total M_near M_degree M_mine M_state M_history M_oldLives M_safe M_mined M_used M_partOf M_placeOf M_partSize M_ways M_with M_masks M_rests M_bits M_reach M_more M_reason M_big M_region) := by
                intro z_28 rz_28 h
                replace h := hJ_26 z_28 rz_28 h
                refine wa_iadd C dX12_isTooMany_129 ?_
                obtain ⟨r_29, h⟩ := h
                refine wa_nmi (fun x6_30 ex6_30 => ?_)
                replace h := h x6_30 ex6_30
                have rx6_30 : inR x6_30 := by rw [ex6_30]; exact r_29
                refine wa_istore C dX12_isTooMany_130 (by decide) rfl ?_
                obtain ⟨r_31, h⟩ := h
                refine wa_iinc C (lv' := fun w9 => [(7, .int (iI w9)), (6, .int (iI x6_30)), (1, .int (iI x1)), (2, .int (iI x2)), (3, .int (iI x3)), (4, .int (iI x4)), (5, .int (iI x5_2))]) 6 rfl dX12_isTooMany_132 (by decide) (fun _ => rfl) (fun x7_32 ex7_32 => ?_)
                replace h := h x7_32 ex7_32
                have rx7_32 : inR x7_32 := by rw [ex7_32]; exact r_31
                refine wa_goto C (tgt := 17) dX12_isTooMany_135 (by decide) ?_
                obtain ⟨n_33, ln_33, h⟩ := h
                refine wa_sub C [2, 3, 4, 5, 6, 1, 0] rfl ?_
                exact ih_6 n_33 ln_33 x6_30 x7_32 rx6_30 rx7_32 h
              obtain ⟨J_34, h, hJ_34⟩ := h
              have k_35 : J_34 → WA p l e ({ frames := 4, cells := 0, slots := 0, locals := 240 } : Room) s m args below meth c 0 0 Q K ad 10 A 128 [(1, .int (iI x1)), (2, .int (iI x2)), (3, .int (iI x3)), (4, .int (iI x4)), (5, .int (iI x5_2)), (7, .int (iI x7_9))] [.int (iI x6_8)] (mW M_thrown M_w M_h M_cells M_shape M_isBoard M_isBlank M_lives M_moves M_parts M_numbers M_grade M_reasons M_total M_near M_degree M_mine M_state M_history M_oldLives M_safe M_mined M_used M_partOf M_placeOf M_partSize M_ways M_with M_masks M_rests M_bits M_reach M_more M_reason M_big M_region) := by
                intro h
                replace h := hJ_34 h
                refine wa_iconst C (z := 0) dX12_isTooMany_128 rfl ?_
                refine wa_sub C [0, 1, 2, 3, 4, 5] rfl ?_
                exact k_27 0 (inR_k 0 rfl) h
              refine wa_if_eq C (tgt := 128) rx8_23 dX12_isTooMany_114 (by decide) (fun c_36 => ?_) (fun c_36 => ?_)
              · replace h := h.1 c_36
                refine wa_sub C [0, 1, 2, 3, 4, 6] rfl ?_
                exact k_35 h
              · replace h := h.2 c_36
                refine wa_iload C 6 rfl dX12_isTooMany_117 ?_
                refine wa_iload C 4 rfl dX12_isTooMany_119 ?_
                refine wa_icmp_eq C (tgt := 128) rx7_9 rx5_2 dX12_isTooMany_121 (by decide) (fun c_37 => ?_) (fun c_37 => ?_)
                · replace h := h.1 c_37
                  refine wa_sub C [0, 1, 2, 3, 4, 6] rfl ?_
                  exact k_35 h
                · replace h := h.2 c_37
                  refine wa_iconst C (z := 1) dX12_isTooMany_124 rfl ?_
                  refine wa_goto C (tgt := 129) dX12_isTooMany_125 (by decide) ?_
                  refine wa_sub C [0, 1, 2, 3, 4, 6] rfl ?_
                  exact k_27 1 (inR_k 1 rfl) h
            · replace h := h.2 c_25
              refine wa_iload C 7 rfl dX12_isTooMany_38 ?_
              obtain ⟨J_38, h, hJ_38⟩ := h
              have k_39 : ∀ (z_40 : Int), inR z_40 → J_38 z_40 → WA p l e ({ frames := 4, cells := 0, slots := 0, locals := 240 } : Room) s m args below meth c 0 0 Q K ad 10 A 102 [(1, .int (iI x1)), (2, .int (iI x2)), (3, .int (iI x3)), (4, .int (iI x4)), (5, .int (iI x5_2)), (6, .int (iI x6_8)), (7, .int (iI x7_9)), (9, .int (iI x9_24))] [.int (iI z_40)] (mW M_thrown M_w M_h M_cells M_shape M_isBoard M_isBlank M_lives M_moves M_parts M_numbers M_grade M_reasons M_total M_near M_degree M_mine M_state M_history M_oldLives M_safe M_mined M_used M_partOf M_placeOf M_partSize M_ways M_with M_masks M_rests M_bits M_reach M_more M_reason M_big M_region) := by
                intro z_40 rz_40 h
                replace h := hJ_38 z_40 rz_40 h
                refine wa_istore C dX12_isTooMany_102 (by decide) rfl ?_
                obtain ⟨r_41, h⟩ := h
                refine wa_iinc C (lv' := fun w9 => [(9, .int (iI w9)), (8, .int (iI z_40)), (1, .int (iI x1)), (2, .int (iI x2)), (3, .int (iI x3)), (4, .int (iI x4)), (5, .int (iI x5_2)), (6, .int (iI x6_8)), (7, .int (iI x7_9))]) 8 rfl dX12_isTooMany_104 (by decide) (fun _ => rfl) (fun x9_42 ex9_42 => ?_)
                replace h := h x9_42 ex9_42
                have rx9_42 : inR x9_42 := by rw [ex9_42]; exact r_41
                refine wa_goto C (tgt := 31) dX12_isTooMany_107 (by decide) ?_
                obtain ⟨n_43, ln_43, h⟩ := h
                refine wa_sub C [2, 3, 4, 5, 6, 7, 8, 1, 0] rfl ?_
                exact ih_21 n_43 ln_43 z_40 x9_42 rz_40 rx9_42 h
              obtain ⟨J_44, h, hJ_44⟩ := h
              have k_45 : J_44 → WA p l e ({ frames := 4, cells := 0, slots := 0, locals := 240 } : Room) s m args below meth c 0 0 Q K ad 10 A 97 [(1, .int (iI x1)), (2, .int (iI x2)), (3, .int (iI x3)), (4, .int (iI x4)), (5, .int (iI x5_2)), (6, .int (iI x6_8)), (7, .int (iI x7_9)), (9, .int (iI x9_24))] [] (mW M_thrown M_w M_h M_cells M_shape M_isBoard M_isBlank M_lives M_moves M_parts M_numbers M_grade M_reasons M_total M_near M_degree M_mine M_state M_history M_oldLives M_safe M_mined M_used M_partOf M_placeOf M_partSize M_ways M_with M_masks M_rests M_bits M_reach M_more M_reason M_big M_region) := by
                intro h
                replace h := hJ_44 h
                refine wa_iconst C (z := 1) dX12_isTooMany_97 rfl ?_
                refine wa_goto C (tgt := 102) dX12_isTooMany_98 (by decide) ?_
                refine wa_sub C [0, 1, 2, 3, 4, 5, 6, 7] rfl ?_
                exact k_39 1 (inR_k 1 rfl) h
              refine wa_if_ne C (tgt := 97) rx8_23 dX12_isTooMany_40 (by decide) (fun c_46 => ?_) (fun c_46 => ?_)
              · replace h := h.1 c_46
                refine wa_sub C [0, 1, 2, 3, 4, 5, 6, 8] rfl ?_
                exact k_45 h
              · replace h := h.2 c_46
                refine wa_iload_n C 2 rfl dX12_isTooMany_43 rfl ?_
                refine wa_iconst C (z := 2) dX12_isTooMany_44 rfl ?_
                refine wa_irem C dX12_isTooMany_45 rx3 (inR_k 2 rfl) (by decide) ?_
                refine wa_iconst C (z := 1) dX12_isTooMany_46 rfl ?_
                obtain ⟨r_47, h⟩ := h
                obtain ⟨J_48, h, hJ_48⟩ := h
                have k_49 : J_48 → WA p l e ({ frames := 4, cells := 0, slots := 0, locals := 240 } : Room) s m args below meth c 0 0 Q K ad 10 A 101 [(1, .int (iI x1)), (2, .int (iI x2)), (3, .int (iI x3)), (4, .int (iI x4)), (5, .int (iI x5_2)), (6, .int (iI x6_8)), (7, .int (iI x7_9)), (9, .int (iI x9_24))] [] (mW M_thrown M_w M_h M_cells M_shape M_isBoard M_isBlank M_lives M_moves M_parts M_numbers M_grade M_reasons M_total M_near M_degree M_mine M_state M_history M_oldLives M_safe M_mined M_used M_partOf M_placeOf M_partSize M_ways M_with M_masks M_rests M_bits M_reach M_more M_reason M_big M_region) := by
                  intro h
                  replace h := hJ_48 h
                  refine wa_iconst C (z := 0) dX12_isTooMany_101 rfl ?_
                  refine wa_sub C [0, 1, 2, 3, 4, 5, 6, 7] rfl ?_
                  exact k_39 0 (inR_k 0 rfl) h
                obtain ⟨J_50, h, hJ_50⟩ := h
                have k_51 : J_50 → WA p l e ({ frames := 4, cells := 0, slots := 0, locals := 240 } : Room) s m args below meth c 0 0 Q K ad 10 A 56 [(1, .int (iI x1)), (2, .int (iI x2)), (3, .int (iI x3)), (4, .int (iI x4)), (5, .int (iI x5_2)), (6, .int (iI x6_8)), (7, .int (iI x7_9)), (9, .int (iI x9_24))] [] (mW M_thrown M_w M_h M_cells M_shape M_isBoard M_isBlank M_lives M_moves M_parts M_numbers M_grade M_reasons M_total M_near M_degree M_mine M_state M_history M_oldLives M_safe M_mined M_used M_partOf M_placeOf M_partSize M_ways M_with M_masks M_rests M_bits M_reach M_more M_reason M_big M_region) := by
                  intro h
                  replace h := hJ_50 h
                  refine wa_iload_n C 2 rfl dX12_isTooMany_56 rfl ?_
                  refine wa_iload C 4 rfl dX12_isTooMany_57 ?_
                  refine wa_iload_n C 0 rfl dX12_isTooMany_59 rfl ?_
                  obtain ⟨q_52, h⟩ := h
                  refine wa_idiv C dX12_isTooMany_60 rx5_2 rx1 q_52 ?_
                  refine wa_iload C 4 rfl dX12_isTooMany_61 ?_
                  refine wa_iload_n C 0 rfl dX12_isTooMany_63 rfl ?_
                  obtain ⟨q_53, h⟩ := h
                  refine wa_irem C dX12_isTooMany_64 rx5_2 rx1 q_53 ?_
                  refine wa_iload C 6 rfl dX12_isTooMany_65 ?_
                  refine wa_iload_n C 0 rfl dX12_isTooMany_67 rfl ?_
                  obtain ⟨q_54, h⟩ := h
                  refine wa_idiv C dX12_isTooMany_68 rx7_9 rx1 q_54 ?_
                  refine wa_iload C 7 rfl dX12_isTooMany_69 ?_
                  refine wa_iconst C (z := 3) dX12_isTooMany_71 rfl ?_
                  refine wa_idiv C dX12_isTooMany_72 rx9_24 (inR_k 3 rfl) (by decide) ?_
                  refine wa_iconst C (z := 1) dX12_isTooMany_73 rfl ?_
                  refine wa_isub C dX12_isTooMany_74 ?_
                  refine wa_iload_n C 1 rfl dX12_isTooMany_75 rfl ?_
                  refine wa_imul C dX12_isTooMany_76 ?_
                  refine wa_iadd C dX12_isTooMany_77 ?_
                  refine wa_iload C 6 rfl dX12_isTooMany_78 ?_
                  refine wa_iload_n C 0 rfl dX12_isTooMany_80 rfl ?_
                  obtain ⟨q_55, h⟩ := h
                  refine wa_irem C dX12_isTooMany_81 rx7_9 rx1 q_55 ?_
                  refine wa_iload C 7 rfl dX12_isTooMany_82 ?_
                  refine wa_iconst C (z := 3) dX12_isTooMany_84 rfl ?_
                  refine wa_irem C dX12_isTooMany_85 rx9_24 (inR_k 3 rfl) (by decide) ?_
                  refine wa_iconst C (z := 1) dX12_isTooMany_86 rfl ?_
                  refine wa_isub C dX12_isTooMany_87 ?_
                  refine wa_iload_n C 0 rfl dX12_isTooMany_88 rfl ?_
                  refine wa_imul C dX12_isTooMany_89 ?_
                  refine wa_iadd C dX12_isTooMany_90 ?_
                  obtain ⟨r_56, h⟩ := h
                  obtain ⟨r_57, h⟩ := h
                  obtain ⟨r_58, h⟩ := h
                  obtain ⟨r_59, h⟩ := h
                  refine wa_callSi C (As := [.int (iI x3), .int (iI (x5_2.tdiv x1)), .int (iI (x5_2.tmod x1)), .int (iI ((x7_9.tdiv x1) + (((x9_24.tdiv 3) - 1) * x2))), .int (iI ((x7_9.tmod x1) + (((x9_24.tmod 3) - 1) * x1)))]) (rest := []) (c_X12_touch l K ad x3 (x5_2.tdiv x1) (x5_2.tmod x1) ((x7_9.tdiv x1) + (((x9_24.tdiv 3) - 1) * x2)) ((x7_9.tmod x1) + (((x9_24.tmod 3) - 1) * x1)) rx3 r_56 r_57 r_58 r_59 _ h) gw_1361 gw_1359 gw_1360 gw_12 q_X12_touch rfl rfl rfl ⟨by decide, by decide⟩ rfl (Nat.le_of_ble_eq_true rfl) dX12_isTooMany_91 (fun c_60 u9 rc_60 hp => ?_)
                  obtain ⟨bc_60, rfl, h⟩ := hp
                  replace h := h bc_60
                  refine wa_if_eq C (tgt := 101) (inR_b bc_60) dX12_isTooMany_94 (by decide) (fun c_61 => ?_) (fun c_61 => ?_)
                  · replace h := h.1 c_61
                    refine wa_sub C [0, 1, 2, 3, 4, 5, 6, 7] rfl ?_
                    exact k_49 h
                  · replace h := h.2 c_61
                    refine wa_sub C [0, 1, 2, 3, 4, 5, 6, 7] rfl ?_
                    exact k_45 h
                refine wa_icmp_eq C (tgt := 56) r_47 (inR_k 1 rfl) dX12_isTooMany_47 (by decide) (fun c_62 => ?_) (fun c_62 => ?_)
                · replace h := h.1 c_62
                  refine wa_sub C [0, 1, 2, 3, 4, 5, 6, 8] rfl ?_
                  exact k_51 h
                · replace h := h.2 c_62
                  refine wa_iload C 8 rfl dX12_isTooMany_50 ?_
                  refine wa_iconst C (z := 4) dX12_isTooMany_52 rfl ?_
                  refine wa_icmp_ne C (tgt := 101) rx9_24 (inR_k 4 rfl) dX12_isTooMany_53 (by decide) (fun c_63 => ?_) (fun c_63 => ?_)
                  · replace h := h.1 c_63
                    refine wa_sub C [0, 1, 2, 3, 4, 5, 6, 8] rfl ?_
                    exact k_49 h
                  · replace h := h.2 c_63
                    refine wa_sub C [0, 1, 2, 3, 4, 5, 6, 8] rfl ?_
                    exact k_51 h
        refine wa_sub C [2, 3, 4, 5, 6, 7, 8, 1, 0] rfl ?_
        exact k_22 n_19 0 0 (inR_k 0 rfl) (inR_k 0 rfl) h0Inv_18
  refine wa_sub C [4, 5, 6, 7, 2, 1, 0] rfl ?_
  exact k_7 n_4 1 0 (inR_k 1 rfl) (inR_k 0 rfl) h0Inv_3
def P_X12_make (post : Int → (Int) → (Int) → (Int) → (Int) → (Int) → (Int) → (Int) → (Int) → (Int) → (Int) → (Int) → (Int) → (Int) → (Int) → (Int → Int) → (Int → Int) → (Int → Int) → (Int → Int) → (Int → Int) → (Int → Int) → (Int → Int) → (Int → Int) → (Int → Int) → (Int → Int) → (Int → Int) → (Int → Int) → (Int → Int) → (Int → Int) → (Int → Int) → (Int → Int) → Prop) (M_thrown : Int) (M_w : Int) (M_h : Int) (M_cells : Int) (M_shape : Int) (M_isBoard : Int) (M_isBlank : Int) (M_lives : Int) (M_moves : Int) (M_parts : Int) (M_numbers : Int) (M_grade : Int) (M_reasons : Int) (M_total : Int) (M_near : Int → Int) (M_degree : Int → Int) (M_mine : Int → Int) (M_state : Int → Int) (M_safe : Int → Int) (M_mined : Int → Int) (M_used : Int → Int) (M_partOf : Int → Int) (M_placeOf : Int → Int) (M_partSize : Int → Int) (M_ways : Int → Int) (M_with : Int → Int) (M_masks : Int → Int) (M_rests : Int → Int) (M_bits : Int → Int) (M_reach : Int → Int) (M_more : Int → Int) (x1 : Int) (x2 : Int) (x3 : Int) (x4 : Int) (x5 : Int) (x6 : Int) : Prop :=
  P_X12_canBe (fun (c_1 : Int) => (c_1 = 0 ∨ c_1 = 1) → (∃ J_2 : Prop, ((c_1 = 0 → (J_2)) ∧ (¬ c_1 = 0 → ((x3 < 1 → (J_2)) ∧ (¬ x3 < 1 → (P_X12_within (fun (c_8 : Int) => (c_8 = 0 ∨ c_8 = 1) → ((c_8 = 0 → (J_2)) ∧ (¬ c_8 = 0 → (P_X12_isTooMany (fun (c_10 : Int) => (c_10 = 0 ∨ c_10 = 1) → ((c_10 = 0 → (P_X12_setUp (fun (M_w_12 : Int) (M_h_13 : Int) (M_cells_14 : Int) (M_shape_15 : Int) (M_isBoard_16 : Int) (M_lives_17 : Int) (M_moves_18 : Int) (M_grade_19 : Int) (M_reasons_20 : Int) (M_total_21 : Int) (M_near_22 : Int → Int) (M_degree_23 : Int → Int) (M_mine_24 : Int → Int) (M_state_25 : Int → Int) => (inR (((M_h_13.tdiv 2) * M_w_12) + (M_w_12.tdiv 2)) ∧ (∀ x7_30 : Int, x7_30 = (((M_h_13.tdiv 2) * M_w_12) + (M_w_12.tdiv 2)) → (P_X12_lay (fun (M_mine_31 : Int → Int) => (∃ Inv_32 : Nat → (Int) → (Int) → (Int) → (Int) → (Int) → (Int → Int) → (Int → Int) → (Int → Int) → (Int → Int) → (Int → Int) → (Int → Int) → (Int → Int) → (Int → Int) → (Int → Int) → (Int → Int) → (Int → Int) → (Int → Int) → (Int → Int) → (Int → Int) → Prop, (∃ n_33 : Nat, Inv_32 n_33 0 1 M_lives_17 M_parts M_numbers M_mine_31 M_state_25 M_safe M_mined M_used M_partOf M_placeOf M_partSize M_ways M_with M_masks M_rests M_reach M_more) ∧ ∀ (n_34 : Nat) (x8_37 : Int) (x9_38 : Int) (M_lives_39 : Int) (M_parts_40 : Int) (M_numbers_41 : Int) (M_mine_42 : Int → Int) (M_state_43 : Int → Int) (M_safe_44 : Int → Int) (M_mined_45 : Int → Int) (M_used_46 : Int → Int) (M_partOf_47 : Int → Int) (M_placeOf_48 : Int → Int) (M_partSize_49 : Int → Int) (M_ways_50 : Int → Int) (M_with_51 : Int → Int) (M_masks_52 : Int → Int) (M_rests_53 : Int → Int) (M_reach_54 : Int → Int) (M_more_55 : Int → Int), inR x8_37 → inR x9_38 → Inv_32 n_34 x8_37 x9_38 M_lives_39 M_parts_40 M_numbers_41 M_mine_42 M_state_43 M_safe_44 M_mined_45 M_used_46 M_partOf_47 M_placeOf_48 M_partSize_49 M_ways_50 M_with_51 M_masks_52 M_rests_53 M_reach_54 M_more_55 → (∃ J_56 : (Int) → (Int) → (Int) → (Int → Int) → (Int → Int) → (Int → Int) → (Int → Int) → (Int → Int) → (Int → Int) → (Int → Int) → (Int → Int) → (Int → Int) → (Int → Int) → (Int → Int) → (Int → Int) → (Int → Int) → Prop, ((x9_38 = 0 → (J_56 M_lives_39 M_parts_40 M_numbers_41 M_state_43 M_safe_44 M_mined_45 M_used_46 M_partOf_47 M_placeOf_48 M_partSize_49 M_ways_50 M_with_51 M_masks_52 M_rests_53 M_reach_54 M_more_55)) ∧ (¬ x9_38 = 0 → (P_X12_isPlayed (fun (c_81 : Int) (M_lives_82 : Int) (M_parts_83 : Int) (M_numbers_84 : Int) (M_state_85 : Int → Int) (M_safe_86 : Int → Int) (M_mined_87 : Int → Int) (M_used_88 : Int → Int) (M_partOf_89 : Int → Int) (M_placeOf_90 : Int → Int) (M_partSize_91 : Int → Int) (M_ways_92 : Int → Int) (M_with_93 : Int → Int) (M_masks_94 : Int → Int) (M_rests_95 : Int → Int) (M_reach_96 : Int → Int) (M_more_97 : Int → Int) => (c_81 = 0 ∨ c_81 = 1) → ((¬ c_81 = 0 → (J_56 M_lives_82 M_parts_83 M_numbers_84 M_state_85 M_safe_86 M_mined_87 M_used_88 M_partOf_89 M_placeOf_90 M_partSize_91 M_ways_92 M_with_93 M_masks_94 M_rests_95 M_reach_96 M_more_97)) ∧ (c_81 = 0 → (∃ J_99 : (Int → Int) → (Int) → Prop, (∃ J_106 : (Int → Int) → Prop, ((100 ≤ x8_37 → (J_106 M_mine_42)) ∧ (¬ 100 ≤ x8_37 → (P_X12_isMended (fun (c_110 : Int) (M_mine_111 : Int → Int) => (c_110 = 0 ∨ c_110 = 1) → ((c_110 = 0 → (J_106 M_mine_111)) ∧ (¬ c_110 = 0 → (J_99 M_mine_111 1)))) M_cells_14 M_near_22 M_degree_23 M_mine_42 M_state_85 ))) ∧ (∀ (M_mine_108 : Int → Int), J_106 M_mine_108 → (J_99 M_mine_108 0))) ∧ (∀ (M_mine_101 : Int → Int) (z_102 : Int), inR z_102 → J_99 M_mine_101 z_102 → (inR (x8_37 + 1) ∧ (∀ x8_104 : Int, x8_104 = (x8_37 + 1) → (∃ n_105 : Nat, n_105 < n_34 ∧ Inv_32 n_105 x8_104 z_102 M_lives_82 M_parts_83 M_numbers_84 M_mine_101 M_state_85 M_safe_86 M_mined_87 M_used_88 M_partOf_89 M_placeOf_90 M_partSize_91 M_ways_92 M_with_93 M_masks_94 M_rests_95 M_reach_96 M_more_97)))))))) M_w_12 M_h_13 M_cells_14 M_shape_15 M_lives_39 M_parts_40 M_numbers_41 M_near_22 M_degree_23 M_mine_42 M_state_43 M_safe_44 M_mined_45 M_used_46 M_partOf_47 M_placeOf_48 M_partSize_49 M_ways_50 M_with_51 M_masks_52 M_rests_53 M_bits M_reach_54 M_more_55 x7_30 x6))) ∧ (∀ (M_lives_58 : Int) (M_parts_59 : Int) (M_numbers_60 : Int) (M_state_61 : Int → Int) (M_safe_62 : Int → Int) (M_mined_63 : Int → Int) (M_used_64 : Int → Int) (M_partOf_65 : Int → Int) (M_placeOf_66 : Int → Int) (M_partSize_67 : Int → Int) (M_ways_68 : Int → Int) (M_with_69 : Int → Int) (M_masks_70 : Int → Int) (M_rests_71 : Int → Int) (M_reach_72 : Int → Int) (M_more_73 : Int → Int), J_56 M_lives_58 M_parts_59 M_numbers_60 M_state_61 M_safe_62 M_mined_63 M_used_64 M_partOf_65 M_placeOf_66 M_partSize_67 M_ways_68 M_with_69 M_masks_70 M_rests_71 M_reach_72 M_more_73 → (P_X12_closeAll (fun (M_state_74 : Int → Int) => ((x9_38 = 0 ∨ x9_38 = 1) ∧ (∃ J_76 : (Int) → Prop, ((x9_38 = 0 → (J_76 0)) ∧ (¬ x9_38 = 0 → (J_76 1))) ∧ (∀ (z_78 : Int), inR z_78 → J_76 z_78 → (post z_78 0 M_w_12 M_h_13 M_cells_14 M_shape_15 x9_38 0 3 M_moves_18 M_parts_59 M_numbers_60 M_grade_19 M_reasons_20 M_total_21 M_near_22 M_degree_23 M_mine_42 M_state_74 M_safe_62 M_mined_63 M_used_64 M_partOf_65 M_placeOf_66 M_partSize_67 M_ways_68 M_with_69 M_masks_70 M_rests_71 M_reach_72 M_more_73))))) M_cells_14 M_state_61 ))))) M_cells_14 M_near_22 M_degree_23 M_mine_24 x7_30 x3 x5)))) M_w M_h M_cells M_shape M_isBoard M_lives M_moves M_grade M_reasons M_total M_near M_degree M_mine M_state x1 x2 x4)) ∧ (¬ c_10 = 0 → (J_2))))  x1 x2 x4 x3))))  x6 1 3))))) ∧ (J_2 → (P_X12_fail (fun (c_4 : Int) (M_thrown_5 : Int) => inR c_4 → (post c_4 M_thrown_5 M_w M_h M_cells M_shape M_isBoard M_isBlank M_lives M_moves M_parts M_numbers M_grade M_reasons M_total M_near M_degree M_mine M_state M_safe M_mined M_used M_partOf M_placeOf M_partSize M_ways M_with M_masks M_rests M_reach M_more)) 0 1))))  x1 x2 x4
set_option maxRecDepth 100000 in
set_option maxHeartbeats 4000000 in
theorem c_X12_make (l : Launch) (K : wK) (ad : Nat → Nat) {M_thrown : Int} {M_w : Int} {M_h : Int} {M_cells : Int} {M_shape : Int} {M_isBoard : Int} {M_isBlank : Int} {M_lives : Int} {M_moves : Int} {M_parts : Int} {M_numbers : Int} {M_grade : Int} {M_reasons : Int} {M_total : Int} {M_near : Int → Int} {M_degree : Int → Int} {M_mine : Int → Int} {M_state : Int → Int} {M_history : Int → Int64} {M_oldLives : Int → Int} {M_safe : Int → Int} {M_mined : Int → Int} {M_used : Int → Int} {M_partOf : Int → Int} {M_placeOf : Int → Int} {M_partSize : Int → Int} {M_ways : Int → Int} {M_with : Int → Int} {M_masks : Int → Int} {M_rests : Int → Int} {M_bits : Int → Int} {M_reach : Int → Int} {M_more : Int → Int} {M_reason : Int → Int} {M_big : Int → Int64} {M_region : Int → Int} (x1 : Int) (x2 : Int) (x3 : Int) (x4 : Int) (x5 : Int) (x6 : Int) (rx1 : inR x1) (rx2 : inR x2) (rx3 : inR x3) (rx4 : inR x4) (rx5 : inR x5) (rx6 : inR x6) (post : Int → (Int) → (Int) → (Int) → (Int) → (Int) → (Int) → (Int) → (Int) → (Int) → (Int) → (Int) → (Int) → (Int) → (Int) → (Int → Int) → (Int → Int) → (Int → Int) → (Int → Int) → (Int → Int) → (Int → Int) → (Int → Int) → (Int → Int) → (Int → Int) → (Int → Int) → (Int → Int) → (Int → Int) → (Int → Int) → (Int → Int) → (Int → Int) → (Int → Int) → Prop) (h : P_X12_make post M_thrown M_w M_h M_cells M_shape M_isBoard M_isBlank M_lives M_moves M_parts M_numbers M_grade M_reasons M_total M_near M_degree M_mine M_state M_safe M_mined M_used M_partOf M_placeOf M_partSize M_ways M_with M_masks M_rests M_bits M_reach M_more x1 x2 x3 x4 x5 x6) : mI l yX12_make (Cond.code yX12_make cX12_make 10 (some .int) :: GT) ({ frames := 10, cells := 0, slots := 0, locals := 600 } : Room) [.ref (ad 0), .int (iI x1), .int (iI x2), .int (iI x3), .int (iI x4), .int (iI x5), .int (iI x6)] K ad (mW M_thrown M_w M_h M_cells M_shape M_isBoard M_isBlank M_lives M_moves M_parts M_numbers M_grade M_reasons M_total M_near M_degree M_mine M_state M_history M_oldLives M_safe M_mined M_used M_partOf M_placeOf M_partSize M_ways M_with M_masks M_rests M_bits M_reach M_more M_reason M_big M_region) (fun z9 u9 => ∃ M_thrown9 M_w9 M_h9 M_cells9 M_shape9 M_isBoard9 M_isBlank9 M_lives9 M_moves9 M_parts9 M_numbers9 M_grade9 M_reasons9 M_total9 M_near9 M_degree9 M_mine9 M_state9 M_safe9 M_mined9 M_used9 M_partOf9 M_placeOf9 M_partSize9 M_ways9 M_with9 M_masks9 M_rests9 M_reach9 M_more9, u9 = (mW M_thrown9 M_w9 M_h9 M_cells9 M_shape9 M_isBoard9 M_isBlank9 M_lives9 M_moves9 M_parts9 M_numbers9 M_grade9 M_reasons9 M_total9 M_near9 M_degree9 M_mine9 M_state9 M_history M_oldLives M_safe9 M_mined9 M_used9 M_partOf9 M_placeOf9 M_partSize9 M_ways9 M_with9 M_masks9 M_rests9 M_bits M_reach9 M_more9 M_reason M_big M_region) ∧ post z9 M_thrown9 M_w9 M_h9 M_cells9 M_shape9 M_isBoard9 M_isBlank9 M_lives9 M_moves9 M_parts9 M_numbers9 M_grade9 M_reasons9 M_total9 M_near9 M_degree9 M_mine9 M_state9 M_safe9 M_mined9 M_used9 M_partOf9 M_placeOf9 M_partSize9 M_ways9 M_with9 M_masks9 M_rests9 M_reach9 M_more9) := by
  refine mI_of (lv0 := [(0, .ref (ad 0)), (1, .int (iI x1)), (2, .int (iI x2)), (3, .int (iI x3)), (4, .int (iI x4)), (5, .int (iI x5)), (6, .int (iI x6))]) (by decide) (Nat.le_of_ble_eq_true rfl) rfl ?_
  intro p e s m args below meth c Q A C ret
  replace C : Cx p ({ frames := 10, cells := 0, slots := 0, locals := 600 } : Room) m c 0 0 cX12_make 10 s args RX12 K A := C
  unfold P_X12_make at h
  refine wa_aload_n C 0 rfl dX12_make_0 rfl ?_
  refine wa_iconst C (z := 0) dX12_make_1 rfl ?_
  refine wa_putI C (ws' := (mW 0 M_w M_h M_cells M_shape M_isBoard M_isBlank M_lives M_moves M_parts M_numbers M_grade M_reasons M_total M_near M_degree M_mine M_state M_history M_oldLives M_safe M_mined M_used M_partOf M_placeOf M_partSize M_ways M_with M_masks M_rests M_bits M_reach M_more M_reason M_big M_region)) 0 0 mW_0 rfl (by decide) okX12 gw_1232 rfl rfl (Nat.le_of_ble_eq_true rfl) (inR_k 0 rfl) (mWp_0_0 _) dX12_make_2 ?_
  refine wa_iload_n C 1 rfl dX12_make_5 rfl ?_
  refine wa_iload_n C 2 rfl dX12_make_6 rfl ?_
  refine wa_iload C 4 rfl dX12_make_7 ?_
  refine wa_callSi C (As := [.int (iI x1), .int (iI x2), .int (iI x4)]) (rest := []) (c_X12_canBe l K ad x1 x2 x4 rx1 rx2 rx4 _ h) gw_1351 gw_1349 gw_1350 gw_12 q_X12_canBe rfl rfl rfl ⟨by decide, by decide⟩ rfl (Nat.le_of_ble_eq_true rfl) dX12_make_9 (fun c_1 u9 rc_1 hp => ?_)
  obtain ⟨bc_1, rfl, h⟩ := hp
  replace h := h bc_1
  obtain ⟨J_2, h, hJ_2⟩ := h
  have k_3 : J_2 → WA p l e ({ frames := 10, cells := 0, slots := 0, locals := 600 } : Room) s m args below meth c 0 0 Q K ad 10 A 42 [(0, .ref (ad 0))] [] (mW 0 M_w M_h M_cells M_shape M_isBoard M_isBlank M_lives M_moves M_parts M_numbers M_grade M_reasons M_total M_near M_degree M_mine M_state M_history M_oldLives M_safe M_mined M_used M_partOf M_placeOf M_partSize M_ways M_with M_masks M_rests M_bits M_reach M_more M_reason M_big M_region) := by
    intro h
    replace h := hJ_2 h
    refine wa_aload_n C 0 rfl dX12_make_42 rfl ?_
    refine wa_iconst C (z := 1) dX12_make_43 rfl ?_
    refine wa_callVi C (k := 0) (As := [.int (iI 1)]) (rest := []) (c_X12_fail l K ad 1 (inR_k 1 rfl) _ h) gw_1365 gw_1362 mW_0 rfl gw_1364 gs_52 gw_12 q_X12_fail rfl rfl rfl ⟨by decide, by decide⟩ rfl (Nat.le_of_ble_eq_true rfl) dX12_make_44 (fun c_4 u9 rc_4 hp => ?_)
    obtain ⟨M_thrown_5, rfl, h⟩ := hp
    replace h := h rc_4
    exact ret dX12_make_47 rc_4 ⟨_, _, _, _, _, _, _, _, _, _, _, _, _, _, _, _, _, _, _, _, _, _, _, _, _, _, _, _, _, _, rfl, h⟩
  refine wa_if_eq C (tgt := 42) (inR_b bc_1) dX12_make_12 (by decide) (fun c_6 => ?_) (fun c_6 => ?_)
  · replace h := h.1 c_6
    refine wa_sub C [0] rfl ?_
    exact k_3 h
  · replace h := h.2 c_6
    refine wa_iload_n C 3 rfl dX12_make_15 rfl ?_
    refine wa_iconst C (z := 1) dX12_make_16 rfl ?_
    refine wa_icmp_lt C (tgt := 42) rx3 (inR_k 1 rfl) dX12_make_17 (by decide) (fun c_7 => ?_) (fun c_7 => ?_)
    · replace h := h.1 c_7
      refine wa_sub C [0] rfl ?_
      exact k_3 h
    · replace h := h.2 c_7
      refine wa_iload C 6 rfl dX12_make_20 ?_
      refine wa_iconst C (z := 1) dX12_make_22 rfl ?_
      refine wa_iconst C (z := 3) dX12_make_23 rfl ?_
      refine wa_callSi C (As := [.int (iI x6), .int (iI 1), .int (iI 3)]) (rest := []) (c_X12_within l K ad x6 1 3 rx6 (inR_k 1 rfl) (inR_k 3 rfl) _ h) gw_1354 gw_1352 gw_1353 gw_12 q_X12_within rfl rfl rfl ⟨by decide, by decide⟩ rfl (Nat.le_of_ble_eq_true rfl) dX12_make_24 (fun c_8 u9 rc_8 hp => ?_)
      obtain ⟨bc_8, rfl, h⟩ := hp
      replace h := h bc_8
      refine wa_if_eq C (tgt := 42) (inR_b bc_8) dX12_make_27 (by decide) (fun c_9 => ?_) (fun c_9 => ?_)
      · replace h := h.1 c_9
        refine wa_sub C [0] rfl ?_
        exact k_3 h
      · replace h := h.2 c_9
        refine wa_aload_n C 0 rfl dX12_make_30 rfl ?_
        refine wa_iload_n C 1 rfl dX12_make_31 rfl ?_
        refine wa_iload_n C 2 rfl dX12_make_32 rfl ?_
        refine wa_iload C 4 rfl dX12_make_33 ?_
        refine wa_iload_n C 3 rfl dX12_make_35 rfl ?_
        refine wa_callVi C (k := 0) (As := [.int (iI x1), .int (iI x2), .int (iI x4), .int (iI x3)]) (rest := []) (c_X12_isTooMany l K ad x1 x2 x4 x3 rx1 rx2 rx4 rx3 _ h) gw_1358 gw_1355 mW_0 rfl gw_1357 gs_51 gw_12 q_X12_isTooMany rfl rfl rfl ⟨by decide, by decide⟩ rfl (Nat.le_of_ble_eq_true rfl) dX12_make_36 (fun c_10 u9 rc_10 hp => ?_)
        obtain ⟨bc_10, rfl, h⟩ := hp
        replace h := h bc_10
        refine wa_if_eq C (tgt := 48) (inR_b bc_10) dX12_make_39 (by decide) (fun c_11 => ?_) (fun c_11 => ?_)
        · replace h := h.1 c_11
          refine wa_aload_n C 0 rfl dX12_make_48 rfl ?_
          refine wa_iload_n C 1 rfl dX12_make_49 rfl ?_
          refine wa_iload_n C 2 rfl dX12_make_50 rfl ?_
          refine wa_iload C 4 rfl dX12_make_51 ?_
          refine wa_callVv C (k := 0) (As := [.int (iI x1), .int (iI x2), .int (iI x4)]) (rest := []) (c_X12_setUp l K ad x1 x2 x4 rx1 rx2 rx4 _ h) gw_1369 gw_1366 mW_0 rfl gw_1368 gs_53 gw_12 q_X12_setUp rfl rfl rfl ⟨by decide, by decide⟩ rfl (Nat.le_of_ble_eq_true rfl) dX12_make_53 (fun u9 hp => ?_)
          obtain ⟨M_w_12, M_h_13, M_cells_14, M_shape_15, M_isBoard_16, M_lives_17, M_moves_18, M_grade_19, M_reasons_20, M_total_21, M_near_22, M_degree_23, M_mine_24, M_state_25, rfl, h⟩ := hp
          refine wa_aload_n C 0 rfl dX12_make_56 rfl ?_
          refine wa_iconst C (z := 0) dX12_make_57 rfl ?_
          refine wa_putZ C (ws' := (mW 0 M_w_12 M_h_13 M_cells_14 M_shape_15 M_isBoard_16 0 M_lives_17 M_moves_18 M_parts M_numbers M_grade_19 M_reasons_20 M_total_21 M_near_22 M_degree_23 M_mine_24 M_state_25 M_history M_oldLives M_safe M_mined M_used M_partOf M_placeOf M_partSize M_ways M_with M_masks M_rests M_bits M_reach M_more M_reason M_big M_region)) 0 6 mW_0 rfl (by decide) okX12 gw_1238 rfl rfl (Nat.le_of_ble_eq_true rfl) (Or.inl rfl) (mWp_0_6 _) dX12_make_58 ?_
          refine wa_aload_n C 0 rfl dX12_make_61 rfl ?_
          refine wa_getI C 0 2 mW_0 rfl rfl (by decide) okX12 gw_1234 dX12_make_62 (fun r_26 => ?_)
          refine wa_iconst C (z := 2) dX12_make_65 rfl ?_
          refine wa_idiv C dX12_make_66 r_26 (inR_k 2 rfl) (by decide) ?_
          refine wa_aload_n C 0 rfl dX12_make_67 rfl ?_
          refine wa_getI C 0 1 mW_0 rfl rfl (by decide) okX12 gw_1233 dX12_make_68 (fun r_27 => ?_)
          refine wa_imul C dX12_make_71 ?_
          refine wa_aload_n C 0 rfl dX12_make_72 rfl ?_
          refine wa_getI C 0 1 mW_0 rfl rfl (by decide) okX12 gw_1233 dX12_make_73 (fun r_28 => ?_)
          refine wa_iconst C (z := 2) dX12_make_76 rfl ?_
          refine wa_idiv C dX12_make_77 r_27 (inR_k 2 rfl) (by decide) ?_
          refine wa_iadd C dX12_make_78 ?_
          obtain ⟨r_29, h⟩ := h
          refine wa_nmi (fun x7_30 ex7_30 => ?_)
          replace h := h x7_30 ex7_30
          have rx7_30 : inR x7_30 := by rw [ex7_30]; exact r_29
          refine wa_istore C dX12_make_79 (by decide) rfl ?_
          refine wa_aload_n C 1 rfl dX12_make_81 rfl ?_
          refine wa_iload C 0 rfl dX12_make_82 ?_
          refine wa_iload_n C 4 rfl dX12_make_84 rfl ?_
          refine wa_iload C 6 rfl dX12_make_85 ?_
          refine wa_callVv C (k := 0) (As := [.int (iI x7_30), .int (iI x3), .int (iI x5)]) (rest := []) (c_X12_lay l K ad x7_30 x3 x5 rx7_30 rx3 rx5 _ h) gw_1385 gw_1382 mW_0 rfl gw_1384 gs_57 gw_12 q_X12_lay rfl rfl rfl ⟨by decide, by decide⟩ rfl (Nat.le_of_ble_eq_true rfl) dX12_make_87 (fun u9 hp => ?_)
          obtain ⟨M_mine_31, rfl, h⟩ := hp
          refine wa_iconst C (z := 0) dX12_make_90 rfl ?_
          refine wa_istore C dX12_make_91 (by decide) rfl ?_
          refine wa_iconst C (z := 1) dX12_make_93 rfl ?_
          refine wa_istore C dX12_make_94 (by decide) rfl ?_
          obtain ⟨Inv_32, ⟨n_33, h0Inv_32⟩, hInv_32⟩ := h
          have k_36 : ∀ (n_34 : Nat) (x8_37 : Int) (x9_38 : Int) (M_lives_39 : Int) (M_parts_40 : Int) (M_numbers_41 : Int) (M_mine_42 : Int → Int) (M_state_43 : Int → Int) (M_safe_44 : Int → Int) (M_mined_45 : Int → Int) (M_used_46 : Int → Int) (M_partOf_47 : Int → Int) (M_placeOf_48 : Int → Int) (M_partSize_49 : Int → Int) (M_ways_50 : Int → Int) (M_with_51 : Int → Int) (M_masks_52 : Int → Int) (M_rests_53 : Int → Int) (M_reach_54 : Int → Int) (M_more_55 : Int → Int), inR x8_37 → inR x9_38 → Inv_32 n_34 x8_37 x9_38 M_lives_39 M_parts_40 M_numbers_41 M_mine_42 M_state_43 M_safe_44 M_mined_45 M_used_46 M_partOf_47 M_placeOf_48 M_partSize_49 M_ways_50 M_with_51 M_masks_52 M_rests_53 M_reach_54 M_more_55 → WA p l e ({ frames := 10, cells := 0, slots := 0, locals := 600 } : Room) s m args below meth c 0 0 Q K ad 10 A 96 [(0, .ref (ad 0)), (6, .int (iI x6)), (7, .int (iI x7_30)), (8, .int (iI x8_37)), (9, .int (iI x9_38))] [] (mW 0 M_w_12 M_h_13 M_cells_14 M_shape_15 M_isBoard_16 0 M_lives_39 M_moves_18 M_parts_40 M_numbers_41 M_grade_19 M_reasons_20 M_total_21 M_near_22 M_degree_23 M_mine_42 M_state_43 M_history M_oldLives M_safe_44 M_mined_45 M_used_46 M_partOf_47 M_placeOf_48 M_partSize_49 M_ways_50 M_with_51 M_masks_52 M_rests_53 M_bits M_reach_54 M_more_55 M_reason M_big M_region) := by
            intro n_34
            induction n_34 using Nat.strongRecOn with
            | ind n_34 ih_35 =>
              intro x8_37 x9_38 M_lives_39 M_parts_40 M_numbers_41 M_mine_42 M_state_43 M_safe_44 M_mined_45 M_used_46 M_partOf_47 M_placeOf_48 M_partSize_49 M_ways_50 M_with_51 M_masks_52 M_rests_53 M_reach_54 M_more_55 rx8_37 rx9_38 h
              replace h := hInv_32 n_34 x8_37 x9_38 M_lives_39 M_parts_40 M_numbers_41 M_mine_42 M_state_43 M_safe_44 M_mined_45 M_used_46 M_partOf_47 M_placeOf_48 M_partSize_49 M_ways_50 M_with_51 M_masks_52 M_rests_53 M_reach_54 M_more_55 rx8_37 rx9_38 h
              refine wa_iload C 4 rfl dX12_make_96 ?_
              obtain ⟨J_56, h, hJ_56⟩ := h
              have k_57 : ∀ (M_lives_58 : Int) (M_parts_59 : Int) (M_numbers_60 : Int) (M_state_61 : Int → Int) (M_safe_62 : Int → Int) (M_mined_63 : Int → Int) (M_used_64 : Int → Int) (M_partOf_65 : Int → Int) (M_placeOf_66 : Int → Int) (M_partSize_67 : Int → Int) (M_ways_68 : Int → Int) (M_with_69 : Int → Int) (M_masks_70 : Int → Int) (M_rests_71 : Int → Int) (M_reach_72 : Int → Int) (M_more_73 : Int → Int), J_56 M_lives_58 M_parts_59 M_numbers_60 M_state_61 M_safe_62 M_mined_63 M_used_64 M_partOf_65 M_placeOf_66 M_partSize_67 M_ways_68 M_with_69 M_masks_70 M_rests_71 M_reach_72 M_more_73 → WA p l e ({ frames := 10, cells := 0, slots := 0, locals := 600 } : Room) s m args below meth c 0 0 Q K ad 10 A 139 [(0, .ref (ad 0)), (9, .int (iI x9_38))] [] (mW 0 M_w_12 M_h_13 M_cells_14 M_shape_15 M_isBoard_16 0 M_lives_58 M_moves_18 M_parts_59 M_numbers_60 M_grade_19 M_reasons_20 M_total_21 M_near_22 M_degree_23 M_mine_42 M_state_61 M_history M_oldLives M_safe_62 M_mined_63 M_used_64 M_partOf_65 M_placeOf_66 M_partSize_67 M_ways_68 M_with_69 M_masks_70 M_rests_71 M_bits M_reach_72 M_more_73 M_reason M_big M_region) := by
                intro M_lives_58 M_parts_59 M_numbers_60 M_state_61 M_safe_62 M_mined_63 M_used_64 M_partOf_65 M_placeOf_66 M_partSize_67 M_ways_68 M_with_69 M_masks_70 M_rests_71 M_reach_72 M_more_73 h
                replace h := hJ_56 M_lives_58 M_parts_59 M_numbers_60 M_state_61 M_safe_62 M_mined_63 M_used_64 M_partOf_65 M_placeOf_66 M_partSize_67 M_ways_68 M_with_69 M_masks_70 M_rests_71 M_reach_72 M_more_73 h
                refine wa_aload_n C 0 rfl dX12_make_139 rfl ?_
                refine wa_callVv C (k := 0) (As := []) (rest := []) (c_X12_closeAll l K ad  _ h) gw_1381 gw_1378 mW_0 rfl gw_1380 gs_56 gw_12 q_X12_closeAll rfl rfl rfl ⟨by decide, by decide⟩ rfl (Nat.le_of_ble_eq_true rfl) dX12_make_140 (fun u9 hp => ?_)
                obtain ⟨M_state_74, rfl, h⟩ := hp
                refine wa_aload_n C 0 rfl dX12_make_143 rfl ?_
                refine wa_iconst C (z := 3) dX12_make_144 rfl ?_
                refine wa_putI C (ws' := (mW 0 M_w_12 M_h_13 M_cells_14 M_shape_15 M_isBoard_16 0 3 M_moves_18 M_parts_59 M_numbers_60 M_grade_19 M_reasons_20 M_total_21 M_near_22 M_degree_23 M_mine_42 M_state_74 M_history M_oldLives M_safe_62 M_mined_63 M_used_64 M_partOf_65 M_placeOf_66 M_partSize_67 M_ways_68 M_with_69 M_masks_70 M_rests_71 M_bits M_reach_72 M_more_73 M_reason M_big M_region)) 0 11 mW_0 rfl (by decide) okX12 gw_1243 rfl rfl (Nat.le_of_ble_eq_true rfl) (inR_k 3 rfl) (mWp_0_11 _) dX12_make_145 ?_
                refine wa_aload_n C 0 rfl dX12_make_148 rfl ?_
                refine wa_iload C 1 rfl dX12_make_149 ?_
                obtain ⟨b_75, h⟩ := h
                refine wa_putZ C (ws' := (mW 0 M_w_12 M_h_13 M_cells_14 M_shape_15 x9_38 0 3 M_moves_18 M_parts_59 M_numbers_60 M_grade_19 M_reasons_20 M_total_21 M_near_22 M_degree_23 M_mine_42 M_state_74 M_history M_oldLives M_safe_62 M_mined_63 M_used_64 M_partOf_65 M_placeOf_66 M_partSize_67 M_ways_68 M_with_69 M_masks_70 M_rests_71 M_bits M_reach_72 M_more_73 M_reason M_big M_region)) 0 5 mW_0 rfl (by decide) okX12 gw_1237 rfl rfl (Nat.le_of_ble_eq_true rfl) b_75 (mWp_0_5 _) dX12_make_151 ?_
                refine wa_iload C 1 rfl dX12_make_154 ?_
                obtain ⟨J_76, h, hJ_76⟩ := h
                have k_77 : ∀ (z_78 : Int), inR z_78 → J_76 z_78 → WA p l e ({ frames := 10, cells := 0, slots := 0, locals := 600 } : Room) s m args below meth c 0 0 Q K ad 10 A 164 [] [.int (iI z_78)] (mW 0 M_w_12 M_h_13 M_cells_14 M_shape_15 x9_38 0 3 M_moves_18 M_parts_59 M_numbers_60 M_grade_19 M_reasons_20 M_total_21 M_near_22 M_degree_23 M_mine_42 M_state_74 M_history M_oldLives M_safe_62 M_mined_63 M_used_64 M_partOf_65 M_placeOf_66 M_partSize_67 M_ways_68 M_with_69 M_masks_70 M_rests_71 M_bits M_reach_72 M_more_73 M_reason M_big M_region) := by
                  intro z_78 rz_78 h
                  replace h := hJ_76 z_78 rz_78 h
                  exact ret dX12_make_164 rz_78 ⟨_, _, _, _, _, _, _, _, _, _, _, _, _, _, _, _, _, _, _, _, _, _, _, _, _, _, _, _, _, _, rfl, h⟩
                refine wa_if_eq C (tgt := 163) (inR_b b_75) dX12_make_156 (by decide) (fun c_79 => ?_) (fun c_79 => ?_)
                · replace h := h.1 c_79
                  refine wa_iconst C (z := 0) dX12_make_163 rfl ?_
                  refine wa_sub C [] rfl ?_
                  exact k_77 0 (inR_k 0 rfl) h
                · replace h := h.2 c_79
                  refine wa_iconst C (z := 1) dX12_make_159 rfl ?_
                  refine wa_goto C (tgt := 164) dX12_make_160 (by decide) ?_
                  refine wa_sub C [] rfl ?_
                  exact k_77 1 (inR_k 1 rfl) h
              refine wa_if_eq C (tgt := 139) rx9_38 dX12_make_98 (by decide) (fun c_80 => ?_) (fun c_80 => ?_)
              · replace h := h.1 c_80
                refine wa_sub C [0, 4] rfl ?_
                exact k_57 M_lives_39 M_parts_40 M_numbers_41 M_state_43 M_safe_44 M_mined_45 M_used_46 M_partOf_47 M_placeOf_48 M_partSize_49 M_ways_50 M_with_51 M_masks_52 M_rests_53 M_reach_54 M_more_55 h
              · replace h := h.2 c_80
                refine wa_aload_n C 0 rfl dX12_make_101 rfl ?_
                refine wa_iload C 2 rfl dX12_make_102 ?_
                refine wa_iload C 1 rfl dX12_make_104 ?_
                refine wa_callVi C (k := 0) (As := [.int (iI x7_30), .int (iI x6)]) (rest := []) (c_X12_isPlayed l K ad x7_30 x6 rx7_30 rx6 _ h) gw_1399 gw_1396 mW_0 rfl gw_1398 gs_60 gw_12 q_X12_isPlayed rfl rfl rfl ⟨by decide, by decide⟩ rfl (Nat.le_of_ble_eq_true rfl) dX12_make_106 (fun c_81 u9 rc_81 hp => ?_)
                obtain ⟨bc_81, M_lives_82, M_parts_83, M_numbers_84, M_state_85, M_safe_86, M_mined_87, M_used_88, M_partOf_89, M_placeOf_90, M_partSize_91, M_ways_92, M_with_93, M_masks_94, M_rests_95, M_reach_96, M_more_97, rfl, h⟩ := hp
                replace h := h bc_81
                refine wa_if_ne C (tgt := 139) (inR_b bc_81) dX12_make_109 (by decide) (fun c_98 => ?_) (fun c_98 => ?_)
                · replace h := h.1 c_98
                  refine wa_sub C [0, 4] rfl ?_
                  exact k_57 M_lives_82 M_parts_83 M_numbers_84 M_state_85 M_safe_86 M_mined_87 M_used_88 M_partOf_89 M_placeOf_90 M_partSize_91 M_ways_92 M_with_93 M_masks_94 M_rests_95 M_reach_96 M_more_97 h
                · replace h := h.2 c_98
                  refine wa_iload C 3 rfl dX12_make_112 ?_
                  refine wa_bipush C (z := 100) dX12_make_114 (by decide) ?_
                  obtain ⟨J_99, h, hJ_99⟩ := h
                  have k_100 : ∀ (M_mine_101 : Int → Int) (z_102 : Int), inR z_102 → J_99 M_mine_101 z_102 → WA p l e ({ frames := 10, cells := 0, slots := 0, locals := 600 } : Room) s m args below meth c 0 0 Q K ad 10 A 131 [(0, .ref (ad 0)), (6, .int (iI x6)), (7, .int (iI x7_30)), (8, .int (iI x8_37))] [.int (iI z_102)] (mW 0 M_w_12 M_h_13 M_cells_14 M_shape_15 M_isBoard_16 0 M_lives_82 M_moves_18 M_parts_83 M_numbers_84 M_grade_19 M_reasons_20 M_total_21 M_near_22 M_degree_23 M_mine_101 M_state_85 M_history M_oldLives M_safe_86 M_mined_87 M_used_88 M_partOf_89 M_placeOf_90 M_partSize_91 M_ways_92 M_with_93 M_masks_94 M_rests_95 M_bits M_reach_96 M_more_97 M_reason M_big M_region) := by
                    intro M_mine_101 z_102 rz_102 h
                    replace h := hJ_99 M_mine_101 z_102 rz_102 h
                    refine wa_istore C dX12_make_131 (by decide) rfl ?_
                    obtain ⟨r_103, h⟩ := h
                    refine wa_iinc C (lv' := fun w9 => [(8, .int (iI w9)), (9, .int (iI z_102)), (0, .ref (ad 0)), (6, .int (iI x6)), (7, .int (iI x7_30))]) 4 rfl dX12_make_133 (by decide) (fun _ => rfl) (fun x8_104 ex8_104 => ?_)
                    replace h := h x8_104 ex8_104
                    have rx8_104 : inR x8_104 := by rw [ex8_104]; exact r_103
                    refine wa_goto C (tgt := 96) dX12_make_136 (by decide) ?_
                    obtain ⟨n_105, ln_105, h⟩ := h
                    refine wa_sub C [2, 3, 4, 0, 1] rfl ?_
                    exact ih_35 n_105 ln_105 x8_104 z_102 M_lives_82 M_parts_83 M_numbers_84 M_mine_101 M_state_85 M_safe_86 M_mined_87 M_used_88 M_partOf_89 M_placeOf_90 M_partSize_91 M_ways_92 M_with_93 M_masks_94 M_rests_95 M_reach_96 M_more_97 rx8_104 rz_102 h
                  obtain ⟨J_106, h, hJ_106⟩ := h
                  have k_107 : ∀ (M_mine_108 : Int → Int), J_106 M_mine_108 → WA p l e ({ frames := 10, cells := 0, slots := 0, locals := 600 } : Room) s m args below meth c 0 0 Q K ad 10 A 130 [(0, .ref (ad 0)), (6, .int (iI x6)), (7, .int (iI x7_30)), (8, .int (iI x8_37))] [] (mW 0 M_w_12 M_h_13 M_cells_14 M_shape_15 M_isBoard_16 0 M_lives_82 M_moves_18 M_parts_83 M_numbers_84 M_grade_19 M_reasons_20 M_total_21 M_near_22 M_degree_23 M_mine_108 M_state_85 M_history M_oldLives M_safe_86 M_mined_87 M_used_88 M_partOf_89 M_placeOf_90 M_partSize_91 M_ways_92 M_with_93 M_masks_94 M_rests_95 M_bits M_reach_96 M_more_97 M_reason M_big M_region) := by
                    intro M_mine_108 h
                    replace h := hJ_106 M_mine_108 h
                    refine wa_iconst C (z := 0) dX12_make_130 rfl ?_
                    refine wa_sub C [0, 1, 2, 3] rfl ?_
                    exact k_100 M_mine_108 0 (inR_k 0 rfl) h
                  refine wa_icmp_ge C (tgt := 130) rx8_37 (inR_k 100 rfl) dX12_make_116 (by decide) (fun c_109 => ?_) (fun c_109 => ?_)
                  · replace h := h.1 c_109
                    refine wa_sub C [0, 1, 2, 3] rfl ?_
                    exact k_107 M_mine_42 h
                  · replace h := h.2 c_109
                    refine wa_aload_n C 0 rfl dX12_make_119 rfl ?_
                    refine wa_callVi C (k := 0) (As := []) (rest := []) (c_X12_isMended l K ad  _ h) gw_1523 gw_1520 mW_0 rfl gw_1522 gs_91 gw_12 q_X12_isMended rfl rfl rfl ⟨by decide, by decide⟩ rfl (Nat.le_of_ble_eq_true rfl) dX12_make_120 (fun c_110 u9 rc_110 hp => ?_)
                    obtain ⟨bc_110, M_mine_111, rfl, h⟩ := hp
                    replace h := h bc_110
                    refine wa_if_eq C (tgt := 130) (inR_b bc_110) dX12_make_123 (by decide) (fun c_112 => ?_) (fun c_112 => ?_)
                    · replace h := h.1 c_112
                      refine wa_sub C [0, 1, 2, 3] rfl ?_
                      exact k_107 M_mine_111 h
                    · replace h := h.2 c_112
                      refine wa_iconst C (z := 1) dX12_make_126 rfl ?_
                      refine wa_goto C (tgt := 131) dX12_make_127 (by decide) ?_
                      refine wa_sub C [0, 1, 2, 3] rfl ?_
                      exact k_100 M_mine_111 1 (inR_k 1 rfl) h
          refine wa_sub C [3, 9, 2, 1, 0] rfl ?_
          exact k_36 n_33 0 1 M_lives_17 M_parts M_numbers M_mine_31 M_state_25 M_safe M_mined M_used M_partOf M_placeOf M_partSize M_ways M_with M_masks M_rests M_reach M_more (inR_k 0 rfl) (inR_k 1 rfl) h0Inv_32
        · replace h := h.2 c_11
          refine wa_sub C [0] rfl ?_
          exact k_3 h
def P_X12_blank (post : (Int) → (Int) → (Int) → (Int) → (Int) → (Int) → (Int) → (Int) → (Int) → (Int) → (Int) → (Int) → (Int → Int) → (Int → Int) → (Int → Int) → (Int → Int) → Prop) (M_thrown : Int) (M_w : Int) (M_h : Int) (M_cells : Int) (M_shape : Int) (M_isBoard : Int) (M_isBlank : Int) (M_lives : Int) (M_moves : Int) (M_grade : Int) (M_reasons : Int) (M_total : Int) (M_near : Int → Int) (M_degree : Int → Int) (M_mine : Int → Int) (M_state : Int → Int) (x1 : Int) (x2 : Int) (x3 : Int) : Prop :=
  P_X12_canBe (fun (c_1 : Int) => (c_1 = 0 ∨ c_1 = 1) → ((¬ c_1 = 0 → (P_X12_setUp (fun (M_w_3 : Int) (M_h_4 : Int) (M_cells_5 : Int) (M_shape_6 : Int) (M_isBoard_7 : Int) (M_lives_8 : Int) (M_moves_9 : Int) (M_grade_10 : Int) (M_reasons_11 : Int) (M_total_12 : Int) (M_near_13 : Int → Int) (M_degree_14 : Int → Int) (M_mine_15 : Int → Int) (M_state_16 : Int → Int) => (post 0 M_w_3 M_h_4 M_cells_5 M_shape_6 M_isBoard_7 1 M_lives_8 M_moves_9 M_grade_10 M_reasons_11 M_total_12 M_near_13 M_degree_14 M_mine_15 M_state_16)) M_w M_h M_cells M_shape M_isBoard M_lives M_moves M_grade M_reasons M_total M_near M_degree M_mine M_state x1 x2 x3)) ∧ (c_1 = 0 → (post 1 M_w M_h M_cells M_shape M_isBoard M_isBlank M_lives M_moves M_grade M_reasons M_total M_near M_degree M_mine M_state))))  x1 x2 x3
set_option maxRecDepth 100000 in
set_option maxHeartbeats 4000000 in
theorem c_X12_blank (l : Launch) (K : wK) (ad : Nat → Nat) {M_thrown : Int} {M_w : Int} {M_h : Int} {M_cells : Int} {M_shape : Int} {M_isBoard : Int} {M_isBlank : Int} {M_lives : Int} {M_moves : Int} {M_parts : Int} {M_numbers : Int} {M_grade : Int} {M_reasons : Int} {M_total : Int} {M_near : Int → Int} {M_degree : Int → Int} {M_mine : Int → Int} {M_state : Int → Int} {M_history : Int → Int64} {M_oldLives : Int → Int} {M_safe : Int → Int} {M_mined : Int → Int} {M_used : Int → Int} {M_partOf : Int → Int} {M_placeOf : Int → Int} {M_partSize : Int → Int} {M_ways : Int → Int} {M_with : Int → Int} {M_masks : Int → Int} {M_rests : Int → Int} {M_bits : Int → Int} {M_reach : Int → Int} {M_more : Int → Int} {M_reason : Int → Int} {M_big : Int → Int64} {M_region : Int → Int} (x1 : Int) (x2 : Int) (x3 : Int) (rx1 : inR x1) (rx2 : inR x2) (rx3 : inR x3) (post : (Int) → (Int) → (Int) → (Int) → (Int) → (Int) → (Int) → (Int) → (Int) → (Int) → (Int) → (Int) → (Int → Int) → (Int → Int) → (Int → Int) → (Int → Int) → Prop) (h : P_X12_blank post M_thrown M_w M_h M_cells M_shape M_isBoard M_isBlank M_lives M_moves M_grade M_reasons M_total M_near M_degree M_mine M_state x1 x2 x3) : mV l yX12_blank (Cond.code yX12_blank cX12_blank 4 none :: GT) ({ frames := 6, cells := 0, slots := 0, locals := 360 } : Room) [.ref (ad 0), .int (iI x1), .int (iI x2), .int (iI x3)] K ad (mW M_thrown M_w M_h M_cells M_shape M_isBoard M_isBlank M_lives M_moves M_parts M_numbers M_grade M_reasons M_total M_near M_degree M_mine M_state M_history M_oldLives M_safe M_mined M_used M_partOf M_placeOf M_partSize M_ways M_with M_masks M_rests M_bits M_reach M_more M_reason M_big M_region) (fun u9 => ∃ M_thrown9 M_w9 M_h9 M_cells9 M_shape9 M_isBoard9 M_isBlank9 M_lives9 M_moves9 M_grade9 M_reasons9 M_total9 M_near9 M_degree9 M_mine9 M_state9, u9 = (mW M_thrown9 M_w9 M_h9 M_cells9 M_shape9 M_isBoard9 M_isBlank9 M_lives9 M_moves9 M_parts M_numbers M_grade9 M_reasons9 M_total9 M_near9 M_degree9 M_mine9 M_state9 M_history M_oldLives M_safe M_mined M_used M_partOf M_placeOf M_partSize M_ways M_with M_masks M_rests M_bits M_reach M_more M_reason M_big M_region) ∧ post M_thrown9 M_w9 M_h9 M_cells9 M_shape9 M_isBoard9 M_isBlank9 M_lives9 M_moves9 M_grade9 M_reasons9 M_total9 M_near9 M_degree9 M_mine9 M_state9) := by
  refine mV_of (lv0 := [(0, .ref (ad 0)), (1, .int (iI x1)), (2, .int (iI x2)), (3, .int (iI x3))]) (by decide) (Nat.le_of_ble_eq_true rfl) rfl ?_
  intro p e s m args below meth c Q A C ret
  replace C : Cx p ({ frames := 6, cells := 0, slots := 0, locals := 360 } : Room) m c 0 0 cX12_blank 4 s args RX12 K A := C
  unfold P_X12_blank at h
  refine wa_aload_n C 0 rfl dX12_blank_0 rfl ?_
  refine wa_iconst C (z := 0) dX12_blank_1 rfl ?_
  refine wa_putI C (ws' := (mW 0 M_w M_h M_cells M_shape M_isBoard M_isBlank M_lives M_moves M_parts M_numbers M_grade M_reasons M_total M_near M_degree M_mine M_state M_history M_oldLives M_safe M_mined M_used M_partOf M_placeOf M_partSize M_ways M_with M_masks M_rests M_bits M_reach M_more M_reason M_big M_region)) 0 0 mW_0 rfl (by decide) okX12 gw_1232 rfl rfl (Nat.le_of_ble_eq_true rfl) (inR_k 0 rfl) (mWp_0_0 _) dX12_blank_2 ?_
  refine wa_iload_n C 1 rfl dX12_blank_5 rfl ?_
  refine wa_iload_n C 2 rfl dX12_blank_6 rfl ?_
  refine wa_iload_n C 3 rfl dX12_blank_7 rfl ?_
  refine wa_callSi C (As := [.int (iI x1), .int (iI x2), .int (iI x3)]) (rest := []) (c_X12_canBe l K ad x1 x2 x3 rx1 rx2 rx3 _ h) gw_1351 gw_1349 gw_1350 gw_12 q_X12_canBe rfl rfl rfl ⟨by decide, by decide⟩ rfl (Nat.le_of_ble_eq_true rfl) dX12_blank_8 (fun c_1 u9 rc_1 hp => ?_)
  obtain ⟨bc_1, rfl, h⟩ := hp
  replace h := h bc_1
  refine wa_if_ne C (tgt := 20) (inR_b bc_1) dX12_blank_11 (by decide) (fun c_2 => ?_) (fun c_2 => ?_)
  · replace h := h.1 c_2
    refine wa_aload_n C 0 rfl dX12_blank_20 rfl ?_
    refine wa_iload_n C 1 rfl dX12_blank_21 rfl ?_
    refine wa_iload_n C 2 rfl dX12_blank_22 rfl ?_
    refine wa_iload_n C 3 rfl dX12_blank_23 rfl ?_
    refine wa_callVv C (k := 0) (As := [.int (iI x1), .int (iI x2), .int (iI x3)]) (rest := []) (c_X12_setUp l K ad x1 x2 x3 rx1 rx2 rx3 _ h) gw_1369 gw_1366 mW_0 rfl gw_1368 gs_53 gw_12 q_X12_setUp rfl rfl rfl ⟨by decide, by decide⟩ rfl (Nat.le_of_ble_eq_true rfl) dX12_blank_24 (fun u9 hp => ?_)
    obtain ⟨M_w_3, M_h_4, M_cells_5, M_shape_6, M_isBoard_7, M_lives_8, M_moves_9, M_grade_10, M_reasons_11, M_total_12, M_near_13, M_degree_14, M_mine_15, M_state_16, rfl, h⟩ := hp
    refine wa_aload_n C 0 rfl dX12_blank_27 rfl ?_
    refine wa_iconst C (z := 1) dX12_blank_28 rfl ?_
    refine wa_putZ C (ws' := (mW 0 M_w_3 M_h_4 M_cells_5 M_shape_6 M_isBoard_7 1 M_lives_8 M_moves_9 M_parts M_numbers M_grade_10 M_reasons_11 M_total_12 M_near_13 M_degree_14 M_mine_15 M_state_16 M_history M_oldLives M_safe M_mined M_used M_partOf M_placeOf M_partSize M_ways M_with M_masks M_rests M_bits M_reach M_more M_reason M_big M_region)) 0 6 mW_0 rfl (by decide) okX12 gw_1238 rfl rfl (Nat.le_of_ble_eq_true rfl) (Or.inr rfl) (mWp_0_6 _) dX12_blank_29 ?_
    exact ret dX12_blank_32 ⟨_, _, _, _, _, _, _, _, _, _, _, _, _, _, _, _, rfl, h⟩
  · replace h := h.2 c_2
    refine wa_aload_n C 0 rfl dX12_blank_14 rfl ?_
    refine wa_iconst C (z := 1) dX12_blank_15 rfl ?_
    refine wa_putI C (ws' := (mW 1 M_w M_h M_cells M_shape M_isBoard M_isBlank M_lives M_moves M_parts M_numbers M_grade M_reasons M_total M_near M_degree M_mine M_state M_history M_oldLives M_safe M_mined M_used M_partOf M_placeOf M_partSize M_ways M_with M_masks M_rests M_bits M_reach M_more M_reason M_big M_region)) 0 0 mW_0 rfl (by decide) okX12 gw_1232 rfl rfl (Nat.le_of_ble_eq_true rfl) (inR_k 1 rfl) (mWp_0_0 _) dX12_blank_16 ?_
    exact ret dX12_blank_19 ⟨_, _, _, _, _, _, _, _, _, _, _, _, _, _, _, _, rfl, h⟩
def P_X12_isCell (post : Int → Prop) (M_w : Int) (M_h : Int) (x1 : Int) (x2 : Int) : Prop :=
  inR (M_h - 1) ∧ (P_X12_within (fun (c_3 : Int) => (c_3 = 0 ∨ c_3 = 1) → (∃ J_4 : (Int) → Prop, (∃ J_8 : Prop, ((c_3 = 0 → (J_8)) ∧ (¬ c_3 = 0 → (inR (M_w - 1) ∧ (P_X12_within (fun (c_13 : Int) => (c_13 = 0 ∨ c_13 = 1) → ((c_13 = 0 → (J_8)) ∧ (¬ c_13 = 0 → (J_4 1))))  x2 0 (M_w - 1))))) ∧ (J_8 → (J_4 0))) ∧ (∀ (z_6 : Int), inR z_6 → J_4 z_6 → ((z_6 = 0 ∨ z_6 = 1) ∧ (post z_6)))))  x1 0 (M_h - 1))
set_option maxRecDepth 100000 in
set_option maxHeartbeats 4000000 in
theorem c_X12_isCell (l : Launch) (K : wK) (ad : Nat → Nat) {M_thrown : Int} {M_w : Int} {M_h : Int} {M_cells : Int} {M_shape : Int} {M_isBoard : Int} {M_isBlank : Int} {M_lives : Int} {M_moves : Int} {M_parts : Int} {M_numbers : Int} {M_grade : Int} {M_reasons : Int} {M_total : Int} {M_near : Int → Int} {M_degree : Int → Int} {M_mine : Int → Int} {M_state : Int → Int} {M_history : Int → Int64} {M_oldLives : Int → Int} {M_safe : Int → Int} {M_mined : Int → Int} {M_used : Int → Int} {M_partOf : Int → Int} {M_placeOf : Int → Int} {M_partSize : Int → Int} {M_ways : Int → Int} {M_with : Int → Int} {M_masks : Int → Int} {M_rests : Int → Int} {M_bits : Int → Int} {M_reach : Int → Int} {M_more : Int → Int} {M_reason : Int → Int} {M_big : Int → Int64} {M_region : Int → Int} (x1 : Int) (x2 : Int) (rx1 : inR x1) (rx2 : inR x2) (post : Int → Prop) (h : P_X12_isCell post M_w M_h x1 x2) : mI l yX12_isCell (Cond.code yX12_isCell cX12_isCell 3 (some .boolean) :: GT) ({ frames := 3, cells := 0, slots := 0, locals := 180 } : Room) [.ref (ad 0), .int (iI x1), .int (iI x2)] K ad (mW M_thrown M_w M_h M_cells M_shape M_isBoard M_isBlank M_lives M_moves M_parts M_numbers M_grade M_reasons M_total M_near M_degree M_mine M_state M_history M_oldLives M_safe M_mined M_used M_partOf M_placeOf M_partSize M_ways M_with M_masks M_rests M_bits M_reach M_more M_reason M_big M_region) (fun z9 u9 => (z9 = 0 ∨ z9 = 1) ∧ u9 = (mW M_thrown M_w M_h M_cells M_shape M_isBoard M_isBlank M_lives M_moves M_parts M_numbers M_grade M_reasons M_total M_near M_degree M_mine M_state M_history M_oldLives M_safe M_mined M_used M_partOf M_placeOf M_partSize M_ways M_with M_masks M_rests M_bits M_reach M_more M_reason M_big M_region) ∧ post z9) := by
  refine mZ_of (lv0 := [(0, .ref (ad 0)), (1, .int (iI x1)), (2, .int (iI x2))]) (by decide) (Nat.le_of_ble_eq_true rfl) rfl ?_
  intro p e s m args below meth c Q A C ret
  replace C : Cx p ({ frames := 3, cells := 0, slots := 0, locals := 180 } : Room) m c 0 0 cX12_isCell 3 s args RX12 K A := C
  unfold P_X12_isCell at h
  refine wa_iload_n C 1 rfl dX12_isCell_0 rfl ?_
  refine wa_iconst C (z := 0) dX12_isCell_1 rfl ?_
  refine wa_aload_n C 0 rfl dX12_isCell_2 rfl ?_
  refine wa_getI C 0 2 mW_0 rfl rfl (by decide) okX12 gw_1234 dX12_isCell_3 (fun r_1 => ?_)
  refine wa_iconst C (z := 1) dX12_isCell_6 rfl ?_
  refine wa_isub C dX12_isCell_7 ?_
  obtain ⟨r_2, h⟩ := h
  refine wa_callSi C (As := [.int (iI x1), .int (iI 0), .int (iI (M_h - 1))]) (rest := []) (c_X12_within l K ad x1 0 (M_h - 1) rx1 (inR_k 0 rfl) r_2 _ h) gw_1354 gw_1352 gw_1353 gw_12 q_X12_within rfl rfl rfl ⟨by decide, by decide⟩ rfl (Nat.le_of_ble_eq_true rfl) dX12_isCell_8 (fun c_3 u9 rc_3 hp => ?_)
  obtain ⟨bc_3, rfl, h⟩ := hp
  replace h := h bc_3
  obtain ⟨J_4, h, hJ_4⟩ := h
  have k_5 : ∀ (z_6 : Int), inR z_6 → J_4 z_6 → WA p l e ({ frames := 3, cells := 0, slots := 0, locals := 180 } : Room) s m args below meth c 0 0 Q K ad 3 A 33 [] [.int (iI z_6)] (mW M_thrown M_w M_h M_cells M_shape M_isBoard M_isBlank M_lives M_moves M_parts M_numbers M_grade M_reasons M_total M_near M_degree M_mine M_state M_history M_oldLives M_safe M_mined M_used M_partOf M_placeOf M_partSize M_ways M_with M_masks M_rests M_bits M_reach M_more M_reason M_big M_region) := by
    intro z_6 rz_6 h
    replace h := hJ_4 z_6 rz_6 h
    obtain ⟨b_7, h⟩ := h
    exact ret dX12_isCell_33 b_7 ⟨b_7, rfl, h⟩
  obtain ⟨J_8, h, hJ_8⟩ := h
  have k_9 : J_8 → WA p l e ({ frames := 3, cells := 0, slots := 0, locals := 180 } : Room) s m args below meth c 0 0 Q K ad 3 A 32 [] [] (mW M_thrown M_w M_h M_cells M_shape M_isBoard M_isBlank M_lives M_moves M_parts M_numbers M_grade M_reasons M_total M_near M_degree M_mine M_state M_history M_oldLives M_safe M_mined M_used M_partOf M_placeOf M_partSize M_ways M_with M_masks M_rests M_bits M_reach M_more M_reason M_big M_region) := by
    intro h
    replace h := hJ_8 h
    refine wa_iconst C (z := 0) dX12_isCell_32 rfl ?_
    refine wa_sub C [] rfl ?_
    exact k_5 0 (inR_k 0 rfl) h
  refine wa_if_eq C (tgt := 32) (inR_b bc_3) dX12_isCell_11 (by decide) (fun c_10 => ?_) (fun c_10 => ?_)
  · replace h := h.1 c_10
    refine wa_sub C [] rfl ?_
    exact k_9 h
  · replace h := h.2 c_10
    refine wa_iload_n C 2 rfl dX12_isCell_14 rfl ?_
    refine wa_iconst C (z := 0) dX12_isCell_15 rfl ?_
    refine wa_aload_n C 0 rfl dX12_isCell_16 rfl ?_
    refine wa_getI C 0 1 mW_0 rfl rfl (by decide) okX12 gw_1233 dX12_isCell_17 (fun r_11 => ?_)
    refine wa_iconst C (z := 1) dX12_isCell_20 rfl ?_
    refine wa_isub C dX12_isCell_21 ?_
    obtain ⟨r_12, h⟩ := h
    refine wa_callSi C (As := [.int (iI x2), .int (iI 0), .int (iI (M_w - 1))]) (rest := []) (c_X12_within l K ad x2 0 (M_w - 1) rx2 (inR_k 0 rfl) r_12 _ h) gw_1354 gw_1352 gw_1353 gw_12 q_X12_within rfl rfl rfl ⟨by decide, by decide⟩ rfl (Nat.le_of_ble_eq_true rfl) dX12_isCell_22 (fun c_13 u9 rc_13 hp => ?_)
    obtain ⟨bc_13, rfl, h⟩ := hp
    replace h := h bc_13
    refine wa_if_eq C (tgt := 32) (inR_b bc_13) dX12_isCell_25 (by decide) (fun c_14 => ?_) (fun c_14 => ?_)
    · replace h := h.1 c_14
      refine wa_sub C [] rfl ?_
      exact k_9 h
    · replace h := h.2 c_14
      refine wa_iconst C (z := 1) dX12_isCell_28 rfl ?_
      refine wa_goto C (tgt := 33) dX12_isCell_29 (by decide) ?_
      refine wa_sub C [] rfl ?_
      exact k_5 1 (inR_k 1 rfl) h
def P_X12_has (post : Int → (Int) → Prop) (M_thrown : Int) (M_w : Int) (M_h : Int) (M_isBoard : Int) (x1 : Int) (x2 : Int) : Prop :=
  ∃ J_2 : (Int) → Prop, ((¬ M_isBoard = 0 → (P_X12_isCell (fun (c_12 : Int) => (c_12 = 0 ∨ c_12 = 1) → ((¬ c_12 = 0 → (J_2 M_thrown)) ∧ (c_12 = 0 → (J_2 2)))) M_w M_h x1 x2)) ∧ (M_isBoard = 0 → (J_2 1))) ∧ (∀ (M_thrown_4 : Int), J_2 M_thrown_4 → (∃ J_6 : (Int) → Prop, ((¬ M_thrown_4 = 0 → (J_6 0)) ∧ (M_thrown_4 = 0 → (J_6 1))) ∧ (∀ (z_8 : Int), inR z_8 → J_6 z_8 → ((z_8 = 0 ∨ z_8 = 1) ∧ (post z_8 M_thrown_4)))))
set_option maxRecDepth 100000 in
set_option maxHeartbeats 4000000 in
theorem c_X12_has (l : Launch) (K : wK) (ad : Nat → Nat) {M_thrown : Int} {M_w : Int} {M_h : Int} {M_cells : Int} {M_shape : Int} {M_isBoard : Int} {M_isBlank : Int} {M_lives : Int} {M_moves : Int} {M_parts : Int} {M_numbers : Int} {M_grade : Int} {M_reasons : Int} {M_total : Int} {M_near : Int → Int} {M_degree : Int → Int} {M_mine : Int → Int} {M_state : Int → Int} {M_history : Int → Int64} {M_oldLives : Int → Int} {M_safe : Int → Int} {M_mined : Int → Int} {M_used : Int → Int} {M_partOf : Int → Int} {M_placeOf : Int → Int} {M_partSize : Int → Int} {M_ways : Int → Int} {M_with : Int → Int} {M_masks : Int → Int} {M_rests : Int → Int} {M_bits : Int → Int} {M_reach : Int → Int} {M_more : Int → Int} {M_reason : Int → Int} {M_big : Int → Int64} {M_region : Int → Int} (x1 : Int) (x2 : Int) (rx1 : inR x1) (rx2 : inR x2) (post : Int → (Int) → Prop) (h : P_X12_has post M_thrown M_w M_h M_isBoard x1 x2) : mI l yX12_has (Cond.code yX12_has cX12_has 3 (some .boolean) :: GT) ({ frames := 4, cells := 0, slots := 0, locals := 240 } : Room) [.ref (ad 0), .int (iI x1), .int (iI x2)] K ad (mW M_thrown M_w M_h M_cells M_shape M_isBoard M_isBlank M_lives M_moves M_parts M_numbers M_grade M_reasons M_total M_near M_degree M_mine M_state M_history M_oldLives M_safe M_mined M_used M_partOf M_placeOf M_partSize M_ways M_with M_masks M_rests M_bits M_reach M_more M_reason M_big M_region) (fun z9 u9 => (z9 = 0 ∨ z9 = 1) ∧ ∃ M_thrown9, u9 = (mW M_thrown9 M_w M_h M_cells M_shape M_isBoard M_isBlank M_lives M_moves M_parts M_numbers M_grade M_reasons M_total M_near M_degree M_mine M_state M_history M_oldLives M_safe M_mined M_used M_partOf M_placeOf M_partSize M_ways M_with M_masks M_rests M_bits M_reach M_more M_reason M_big M_region) ∧ post z9 M_thrown9) := by
  refine mZ_of (lv0 := [(0, .ref (ad 0)), (1, .int (iI x1)), (2, .int (iI x2))]) (by decide) (Nat.le_of_ble_eq_true rfl) rfl ?_
  intro p e s m args below meth c Q A C ret
  replace C : Cx p ({ frames := 4, cells := 0, slots := 0, locals := 240 } : Room) m c 0 0 cX12_has 3 s args RX12 K A := C
  unfold P_X12_has at h
  refine wa_aload_n C 0 rfl dX12_has_0 rfl ?_
  refine wa_getZ C 0 5 mW_0 rfl rfl (by decide) okX12 gw_1237 dX12_has_1 (fun r_1 => ?_)
  obtain ⟨J_2, h, hJ_2⟩ := h
  have k_3 : ∀ (M_thrown_4 : Int), J_2 M_thrown_4 → WA p l e ({ frames := 4, cells := 0, slots := 0, locals := 240 } : Room) s m args below meth c 0 0 Q K ad 3 A 29 [(0, .ref (ad 0))] [] (mW M_thrown_4 M_w M_h M_cells M_shape M_isBoard M_isBlank M_lives M_moves M_parts M_numbers M_grade M_reasons M_total M_near M_degree M_mine M_state M_history M_oldLives M_safe M_mined M_used M_partOf M_placeOf M_partSize M_ways M_with M_masks M_rests M_bits M_reach M_more M_reason M_big M_region) := by
    intro M_thrown_4 h
    replace h := hJ_2 M_thrown_4 h
    refine wa_aload_n C 0 rfl dX12_has_29 rfl ?_
    refine wa_getI C 0 0 mW_0 rfl rfl (by decide) okX12 gw_1232 dX12_has_30 (fun r_5 => ?_)
    obtain ⟨J_6, h, hJ_6⟩ := h
    have k_7 : ∀ (z_8 : Int), inR z_8 → J_6 z_8 → WA p l e ({ frames := 4, cells := 0, slots := 0, locals := 240 } : Room) s m args below meth c 0 0 Q K ad 3 A 41 [] [.int (iI z_8)] (mW M_thrown_4 M_w M_h M_cells M_shape M_isBoard M_isBlank M_lives M_moves M_parts M_numbers M_grade M_reasons M_total M_near M_degree M_mine M_state M_history M_oldLives M_safe M_mined M_used M_partOf M_placeOf M_partSize M_ways M_with M_masks M_rests M_bits M_reach M_more M_reason M_big M_region) := by
      intro z_8 rz_8 h
      replace h := hJ_6 z_8 rz_8 h
      obtain ⟨b_9, h⟩ := h
      exact ret dX12_has_41 b_9 ⟨b_9, _, rfl, h⟩
    refine wa_if_ne C (tgt := 40) r_5 dX12_has_33 (by decide) (fun c_10 => ?_) (fun c_10 => ?_)
    · replace h := h.1 c_10
      refine wa_iconst C (z := 0) dX12_has_40 rfl ?_
      refine wa_sub C [] rfl ?_
      exact k_7 0 (inR_k 0 rfl) h
    · replace h := h.2 c_10
      refine wa_iconst C (z := 1) dX12_has_36 rfl ?_
      refine wa_goto C (tgt := 41) dX12_has_37 (by decide) ?_
      refine wa_sub C [] rfl ?_
      exact k_7 1 (inR_k 1 rfl) h
  refine wa_if_ne C (tgt := 15) (inR_b r_1) dX12_has_4 (by decide) (fun c_11 => ?_) (fun c_11 => ?_)
  · replace h := h.1 c_11
    refine wa_aload_n C 0 rfl dX12_has_15 rfl ?_
    refine wa_iload_n C 1 rfl dX12_has_16 rfl ?_
    refine wa_iload_n C 2 rfl dX12_has_17 rfl ?_
    refine wa_callVi C (k := 0) (As := [.int (iI x1), .int (iI x2)]) (rest := []) (c_X12_isCell l K ad x1 x2 rx1 rx2 _ h) gw_1543 gw_1540 mW_0 rfl gw_1542 gs_94 gw_12 q_X12_isCell rfl rfl rfl ⟨by decide, by decide⟩ rfl (Nat.le_of_ble_eq_true rfl) dX12_has_18 (fun c_12 u9 rc_12 hp => ?_)
    obtain ⟨bc_12, rfl, h⟩ := hp
    replace h := h bc_12
    refine wa_if_ne C (tgt := 29) (inR_b bc_12) dX12_has_21 (by decide) (fun c_13 => ?_) (fun c_13 => ?_)
    · replace h := h.1 c_13
      refine wa_sub C [0] rfl ?_
      exact k_3 M_thrown h
    · replace h := h.2 c_13
      refine wa_aload_n C 0 rfl dX12_has_24 rfl ?_
      refine wa_iconst C (z := 2) dX12_has_25 rfl ?_
      refine wa_putI C (ws' := (mW 2 M_w M_h M_cells M_shape M_isBoard M_isBlank M_lives M_moves M_parts M_numbers M_grade M_reasons M_total M_near M_degree M_mine M_state M_history M_oldLives M_safe M_mined M_used M_partOf M_placeOf M_partSize M_ways M_with M_masks M_rests M_bits M_reach M_more M_reason M_big M_region)) 0 0 mW_0 rfl (by decide) okX12 gw_1232 rfl rfl (Nat.le_of_ble_eq_true rfl) (inR_k 2 rfl) (mWp_0_0 _) dX12_has_26 ?_
      refine wa_sub C [0] rfl ?_
      exact k_3 2 h
  · replace h := h.2 c_11
    refine wa_aload_n C 0 rfl dX12_has_7 rfl ?_
    refine wa_iconst C (z := 1) dX12_has_8 rfl ?_
    refine wa_putI C (ws' := (mW 1 M_w M_h M_cells M_shape M_isBoard M_isBlank M_lives M_moves M_parts M_numbers M_grade M_reasons M_total M_near M_degree M_mine M_state M_history M_oldLives M_safe M_mined M_used M_partOf M_placeOf M_partSize M_ways M_with M_masks M_rests M_bits M_reach M_more M_reason M_big M_region)) 0 0 mW_0 rfl (by decide) okX12 gw_1232 rfl rfl (Nat.le_of_ble_eq_true rfl) (inR_k 1 rfl) (mWp_0_0 _) dX12_has_9 ?_
    refine wa_goto C (tgt := 29) dX12_has_12 (by decide) ?_
    refine wa_sub C [0] rfl ?_
    exact k_3 1 h
def P_X12_edit (post : Int → (Int) → (Int → Int) → Prop) (M_thrown : Int) (M_w : Int) (M_h : Int) (M_cells : Int) (M_isBoard : Int) (M_isBlank : Int) (M_moves : Int) (M_mine : Int → Int) (x1 : Int) (x2 : Int) (x3 : Int) : Prop :=
  P_X12_has (fun (c_1 : Int) (M_thrown_2 : Int) => (c_1 = 0 ∨ c_1 = 1) → ((¬ c_1 = 0 → (∃ J_5 : Prop, ((M_isBlank = 0 → (J_5)) ∧ (¬ M_isBlank = 0 → ((M_moves ≤ 0 → ((0 ≤ ((M_w * x1) + x2) ∧ ((M_w * x1) + x2) < 144) ∧ (∀ M_mine_14 : Int → Int, M_mine_14 = upZ M_mine ((M_w * x1) + x2) x3 → (P_X12_mines (fun (c_15 : Int) => inR c_15 → (post c_15 M_thrown_2 M_mine_14)) M_cells M_mine_14 )))) ∧ (¬ M_moves ≤ 0 → (J_5))))) ∧ (J_5 → (P_X12_fail (fun (c_7 : Int) (M_thrown_8 : Int) => inR c_7 → (post c_7 M_thrown_8 M_mine)) M_thrown_2 3)))) ∧ (c_1 = 0 → (post 0 M_thrown_2 M_mine)))) 0 M_w M_h M_isBoard x1 x2
set_option maxRecDepth 100000 in
set_option maxHeartbeats 4000000 in
theorem c_X12_edit (l : Launch) (K : wK) (ad : Nat → Nat) {M_thrown : Int} {M_w : Int} {M_h : Int} {M_cells : Int} {M_shape : Int} {M_isBoard : Int} {M_isBlank : Int} {M_lives : Int} {M_moves : Int} {M_parts : Int} {M_numbers : Int} {M_grade : Int} {M_reasons : Int} {M_total : Int} {M_near : Int → Int} {M_degree : Int → Int} {M_mine : Int → Int} {M_state : Int → Int} {M_history : Int → Int64} {M_oldLives : Int → Int} {M_safe : Int → Int} {M_mined : Int → Int} {M_used : Int → Int} {M_partOf : Int → Int} {M_placeOf : Int → Int} {M_partSize : Int → Int} {M_ways : Int → Int} {M_with : Int → Int} {M_masks : Int → Int} {M_rests : Int → Int} {M_bits : Int → Int} {M_reach : Int → Int} {M_more : Int → Int} {M_reason : Int → Int} {M_big : Int → Int64} {M_region : Int → Int} (x1 : Int) (x2 : Int) (x3 : Int) (rx1 : inR x1) (rx2 : inR x2) (bx3 : x3 = 0 ∨ x3 = 1) (post : Int → (Int) → (Int → Int) → Prop) (h : P_X12_edit post M_thrown M_w M_h M_cells M_isBoard M_isBlank M_moves M_mine x1 x2 x3) : mI l yX12_edit (Cond.code yX12_edit cX12_edit 4 (some .int) :: GT) ({ frames := 5, cells := 0, slots := 0, locals := 300 } : Room) [.ref (ad 0), .int (iI x1), .int (iI x2), .int (iI x3)] K ad (mW M_thrown M_w M_h M_cells M_shape M_isBoard M_isBlank M_lives M_moves M_parts M_numbers M_grade M_reasons M_total M_near M_degree M_mine M_state M_history M_oldLives M_safe M_mined M_used M_partOf M_placeOf M_partSize M_ways M_with M_masks M_rests M_bits M_reach M_more M_reason M_big M_region) (fun z9 u9 => ∃ M_thrown9 M_mine9, u9 = (mW M_thrown9 M_w M_h M_cells M_shape M_isBoard M_isBlank M_lives M_moves M_parts M_numbers M_grade M_reasons M_total M_near M_degree M_mine9 M_state M_history M_oldLives M_safe M_mined M_used M_partOf M_placeOf M_partSize M_ways M_with M_masks M_rests M_bits M_reach M_more M_reason M_big M_region) ∧ post z9 M_thrown9 M_mine9) := by
  refine mI_of (lv0 := [(0, .ref (ad 0)), (1, .int (iI x1)), (2, .int (iI x2)), (3, .int (iI x3))]) (by decide) (Nat.le_of_ble_eq_true rfl) rfl ?_
  intro p e s m args below meth c Q A C ret
  replace C : Cx p ({ frames := 5, cells := 0, slots := 0, locals := 300 } : Room) m c 0 0 cX12_edit 4 s args RX12 K A := C
  unfold P_X12_edit at h
  refine wa_aload_n C 0 rfl dX12_edit_0 rfl ?_
  refine wa_iconst C (z := 0) dX12_edit_1 rfl ?_
  refine wa_putI C (ws' := (mW 0 M_w M_h M_cells M_shape M_isBoard M_isBlank M_lives M_moves M_parts M_numbers M_grade M_reasons M_total M_near M_degree M_mine M_state M_history M_oldLives M_safe M_mined M_used M_partOf M_placeOf M_partSize M_ways M_with M_masks M_rests M_bits M_reach M_more M_reason M_big M_region)) 0 0 mW_0 rfl (by decide) okX12 gw_1232 rfl rfl (Nat.le_of_ble_eq_true rfl) (inR_k 0 rfl) (mWp_0_0 _) dX12_edit_2 ?_
  refine wa_aload_n C 0 rfl dX12_edit_5 rfl ?_
  refine wa_iload_n C 1 rfl dX12_edit_6 rfl ?_
  refine wa_iload_n C 2 rfl dX12_edit_7 rfl ?_
  refine wa_callVi C (k := 0) (As := [.int (iI x1), .int (iI x2)]) (rest := []) (c_X12_has l K ad x1 x2 rx1 rx2 _ h) gw_1539 gw_1536 mW_0 rfl gw_1538 gs_93 gw_12 q_X12_has rfl rfl rfl ⟨by decide, by decide⟩ rfl (Nat.le_of_ble_eq_true rfl) dX12_edit_8 (fun c_1 u9 rc_1 hp => ?_)
  obtain ⟨bc_1, M_thrown_2, rfl, h⟩ := hp
  replace h := h bc_1
  refine wa_if_ne C (tgt := 16) (inR_b bc_1) dX12_edit_11 (by decide) (fun c_3 => ?_) (fun c_3 => ?_)
  · replace h := h.1 c_3
    refine wa_aload_n C 0 rfl dX12_edit_16 rfl ?_
    refine wa_getZ C 0 6 mW_0 rfl rfl (by decide) okX12 gw_1238 dX12_edit_17 (fun r_4 => ?_)
    obtain ⟨J_5, h, hJ_5⟩ := h
    have k_6 : J_5 → WA p l e ({ frames := 5, cells := 0, slots := 0, locals := 300 } : Room) s m args below meth c 0 0 Q K ad 4 A 30 [(0, .ref (ad 0))] [] (mW M_thrown_2 M_w M_h M_cells M_shape M_isBoard M_isBlank M_lives M_moves M_parts M_numbers M_grade M_reasons M_total M_near M_degree M_mine M_state M_history M_oldLives M_safe M_mined M_used M_partOf M_placeOf M_partSize M_ways M_with M_masks M_rests M_bits M_reach M_more M_reason M_big M_region) := by
      intro h
      replace h := hJ_5 h
      refine wa_aload_n C 0 rfl dX12_edit_30 rfl ?_
      refine wa_iconst C (z := 3) dX12_edit_31 rfl ?_
      refine wa_callVi C (k := 0) (As := [.int (iI 3)]) (rest := []) (c_X12_fail l K ad 3 (inR_k 3 rfl) _ h) gw_1365 gw_1362 mW_0 rfl gw_1364 gs_52 gw_12 q_X12_fail rfl rfl rfl ⟨by decide, by decide⟩ rfl (Nat.le_of_ble_eq_true rfl) dX12_edit_32 (fun c_7 u9 rc_7 hp => ?_)
      obtain ⟨M_thrown_8, rfl, h⟩ := hp
      replace h := h rc_7
      exact ret dX12_edit_35 rc_7 ⟨_, _, rfl, h⟩
    refine wa_if_eq C (tgt := 30) (inR_b r_4) dX12_edit_20 (by decide) (fun c_9 => ?_) (fun c_9 => ?_)
    · replace h := h.1 c_9
      refine wa_sub C [0] rfl ?_
      exact k_6 h
    · replace h := h.2 c_9
      refine wa_aload_n C 0 rfl dX12_edit_23 rfl ?_
      refine wa_getI C 0 12 mW_0 rfl rfl (by decide) okX12 gw_1244 dX12_edit_24 (fun r_10 => ?_)
      refine wa_if_le C (tgt := 36) r_10 dX12_edit_27 (by decide) (fun c_11 => ?_) (fun c_11 => ?_)
      · replace h := h.1 c_11
        refine wa_aload_n C 0 rfl dX12_edit_36 rfl ?_
        refine wa_getR C 0 9 mW_0 rfl rfl (by decide) okX12 gw_1241 dX12_edit_37 ?_
        refine wa_aload_n C 0 rfl dX12_edit_40 rfl ?_
        refine wa_getI C 0 1 mW_0 rfl rfl (by decide) okX12 gw_1233 dX12_edit_41 (fun r_12 => ?_)
        refine wa_iload_n C 1 rfl dX12_edit_44 rfl ?_
        refine wa_imul C dX12_edit_45 ?_
        refine wa_iload_n C 2 rfl dX12_edit_46 rfl ?_
        refine wa_iadd C dX12_edit_47 ?_
        refine wa_iload_n C 3 rfl dX12_edit_48 rfl ?_
        obtain ⟨t_13, h⟩ := h
        refine wa_bast C (ws' := fun w9 => (mW M_thrown_2 M_w M_h M_cells M_shape M_isBoard M_isBlank M_lives M_moves M_parts M_numbers M_grade M_reasons M_total M_near M_degree w9 M_state M_history M_oldLives M_safe M_mined M_used M_partOf M_placeOf M_partSize M_ways M_with M_masks M_rests M_bits M_reach M_more M_reason M_big M_region)) 3 mW_3 dX12_edit_49 t_13.1 t_13.2 bx3 mWs_3 (fun M_mine_14 eM_mine_14 => ?_)
        replace h := h M_mine_14 eM_mine_14
        refine wa_aload_n C 0 rfl dX12_edit_50 rfl ?_
        refine wa_callVi C (k := 0) (As := []) (rest := []) (c_X12_mines l K ad  _ h) gw_1503 gw_1500 mW_0 rfl gw_1502 gs_86 gw_12 q_X12_mines rfl rfl rfl ⟨by decide, by decide⟩ rfl (Nat.le_of_ble_eq_true rfl) dX12_edit_51 (fun c_15 u9 rc_15 hp => ?_)
        obtain ⟨rfl, h⟩ := hp
        replace h := h rc_15
        exact ret dX12_edit_54 rc_15 ⟨_, _, rfl, h⟩
      · replace h := h.2 c_11
        refine wa_sub C [0] rfl ?_
        exact k_6 h
  · replace h := h.2 c_3
    refine wa_iconst C (z := 0) dX12_edit_14 rfl ?_
    exact ret dX12_edit_15 (inR_k 0 rfl) ⟨_, _, rfl, h⟩
def P_X12_keep (post : (Int) → (Int → Int64) → (Int → Int) → Prop) (M_cells : Int) (M_lives : Int) (M_moves : Int) (M_state : Int → Int) (M_history : Int → Int64) (M_oldLives : Int → Int) : Prop :=
  ∃ Inv_1 : Nat → (Int) → (Int → Int64) → Prop, (∃ n_2 : Nat, Inv_1 n_2 0 M_history) ∧ ∀ (n_3 : Nat) (x1_6 : Int) (M_history_7 : Int → Int64), inR x1_6 → Inv_1 n_3 x1_6 M_history_7 → ((5 ≤ x1_6 → (∃ Inv_9 : Nat → (Int) → (Int → Int64) → Prop, (∃ n_10 : Nat, Inv_9 n_10 0 M_history_7) ∧ ∀ (n_11 : Nat) (x1_14 : Int) (M_history_15 : Int → Int64), inR x1_14 → Inv_9 n_11 x1_14 M_history_15 → ((M_cells ≤ x1_14 → ((0 ≤ M_moves ∧ M_moves < 1040) ∧ (∀ M_oldLives_21 : Int → Int, M_oldLives_21 = upZ M_oldLives M_moves M_lives → (inR (M_moves + 1) ∧ (∀ M_moves_24 : Int, M_moves_24 = (M_moves + 1) → (post M_moves_24 M_history_15 M_oldLives_21)))))) ∧ (¬ M_cells ≤ x1_14 → ((0 ≤ ((5 * M_moves) + (x1_14.tdiv 32)) ∧ ((5 * M_moves) + (x1_14.tdiv 32)) < 5200) ∧ (∀ v_27 : Int64, v_27 = M_history_15 ((5 * M_moves) + (x1_14.tdiv 32)) → ((0 ≤ x1_14 ∧ x1_14 < 144) ∧ (∀ v_29 : Int, v_29 = M_state x1_14 → inR v_29 → ((0 ≤ ((5 * M_moves) + (x1_14.tdiv 32)) ∧ ((5 * M_moves) + (x1_14.tdiv 32)) < 5200) ∧ (∀ M_history_31 : Int → Int64, M_history_31 = upZ M_history_15 ((5 * M_moves) + (x1_14.tdiv 32)) (v_27 ||| (shlL (Int64.ofInt v_29) (2 * (x1_14.tmod 32)))) → (inR (x1_14 + 1) ∧ (∀ x1_33 : Int, x1_33 = (x1_14 + 1) → (∃ n_34 : Nat, n_34 < n_11 ∧ Inv_9 n_34 x1_33 M_history_31))))))))))))) ∧ (¬ 5 ≤ x1_6 → ((0 ≤ ((5 * M_moves) + x1_6) ∧ ((5 * M_moves) + x1_6) < 5200) ∧ (∀ M_history_37 : Int → Int64, M_history_37 = upZ M_history_7 ((5 * M_moves) + x1_6) (0 : Int64) → (inR (x1_6 + 1) ∧ (∀ x1_39 : Int, x1_39 = (x1_6 + 1) → (∃ n_40 : Nat, n_40 < n_3 ∧ Inv_1 n_40 x1_39 M_history_37)))))))
set_option maxRecDepth 100000 in
set_option maxHeartbeats 4000000 in
theorem c_X12_keep (l : Launch) (K : wK) (ad : Nat → Nat) {M_thrown : Int} {M_w : Int} {M_h : Int} {M_cells : Int} {M_shape : Int} {M_isBoard : Int} {M_isBlank : Int} {M_lives : Int} {M_moves : Int} {M_parts : Int} {M_numbers : Int} {M_grade : Int} {M_reasons : Int} {M_total : Int} {M_near : Int → Int} {M_degree : Int → Int} {M_mine : Int → Int} {M_state : Int → Int} {M_history : Int → Int64} {M_oldLives : Int → Int} {M_safe : Int → Int} {M_mined : Int → Int} {M_used : Int → Int} {M_partOf : Int → Int} {M_placeOf : Int → Int} {M_partSize : Int → Int} {M_ways : Int → Int} {M_with : Int → Int} {M_masks : Int → Int} {M_rests : Int → Int} {M_bits : Int → Int} {M_reach : Int → Int} {M_more : Int → Int} {M_reason : Int → Int} {M_big : Int → Int64} {M_region : Int → Int}   (post : (Int) → (Int → Int64) → (Int → Int) → Prop) (h : P_X12_keep post M_cells M_lives M_moves M_state M_history M_oldLives) : mV l yX12_keep (Cond.code yX12_keep cX12_keep 2 none :: GT) ({ frames := 2, cells := 0, slots := 0, locals := 120 } : Room) [.ref (ad 0)] K ad (mW M_thrown M_w M_h M_cells M_shape M_isBoard M_isBlank M_lives M_moves M_parts M_numbers M_grade M_reasons M_total M_near M_degree M_mine M_state M_history M_oldLives M_safe M_mined M_used M_partOf M_placeOf M_partSize M_ways M_with M_masks M_rests M_bits M_reach M_more M_reason M_big M_region) (fun u9 => ∃ M_moves9 M_history9 M_oldLives9, u9 = (mW M_thrown M_w M_h M_cells M_shape M_isBoard M_isBlank M_lives M_moves9 M_parts M_numbers M_grade M_reasons M_total M_near M_degree M_mine M_state M_history9 M_oldLives9 M_safe M_mined M_used M_partOf M_placeOf M_partSize M_ways M_with M_masks M_rests M_bits M_reach M_more M_reason M_big M_region) ∧ post M_moves9 M_history9 M_oldLives9) := by
  refine mV_of (lv0 := [(0, .ref (ad 0))]) (by decide) (Nat.le_of_ble_eq_true rfl) rfl ?_
  intro p e s m args below meth c Q A C ret
  replace C : Cx p ({ frames := 2, cells := 0, slots := 0, locals := 120 } : Room) m c 0 0 cX12_keep 2 s args RX12 K A := C
  unfold P_X12_keep at h
  refine wa_iconst C (z := 0) dX12_keep_0 rfl ?_
  refine wa_istore_n C dX12_keep_1 rfl (by decide) rfl ?_
  obtain ⟨Inv_1, ⟨n_2, h0Inv_1⟩, hInv_1⟩ := h
  have k_5 : ∀ (n_3 : Nat) (x1_6 : Int) (M_history_7 : Int → Int64), inR x1_6 → Inv_1 n_3 x1_6 M_history_7 → WA p l e ({ frames := 2, cells := 0, slots := 0, locals := 120 } : Room) s m args below meth c 0 0 Q K ad 2 A 2 [(0, .ref (ad 0)), (1, .int (iI x1_6))] [] (mW M_thrown M_w M_h M_cells M_shape M_isBoard M_isBlank M_lives M_moves M_parts M_numbers M_grade M_reasons M_total M_near M_degree M_mine M_state M_history_7 M_oldLives M_safe M_mined M_used M_partOf M_placeOf M_partSize M_ways M_with M_masks M_rests M_bits M_reach M_more M_reason M_big M_region) := by
    intro n_3
    induction n_3 using Nat.strongRecOn with
    | ind n_3 ih_4 =>
      intro x1_6 M_history_7 rx1_6 h
      replace h := hInv_1 n_3 x1_6 M_history_7 rx1_6 h
      refine wa_iload_n C 1 rfl dX12_keep_2 rfl ?_
      refine wa_iconst C (z := 5) dX12_keep_3 rfl ?_
      refine wa_icmp_ge C (tgt := 27) rx1_6 (inR_k 5 rfl) dX12_keep_4 (by decide) (fun c_8 => ?_) (fun c_8 => ?_)
      · replace h := h.1 c_8
        refine wa_iconst C (z := 0) dX12_keep_27 rfl ?_
        refine wa_istore_n C dX12_keep_28 rfl (by decide) rfl ?_
        obtain ⟨Inv_9, ⟨n_10, h0Inv_9⟩, hInv_9⟩ := h
        have k_13 : ∀ (n_11 : Nat) (x1_14 : Int) (M_history_15 : Int → Int64), inR x1_14 → Inv_9 n_11 x1_14 M_history_15 → WA p l e ({ frames := 2, cells := 0, slots := 0, locals := 120 } : Room) s m args below meth c 0 0 Q K ad 2 A 29 [(0, .ref (ad 0)), (1, .int (iI x1_14))] [] (mW M_thrown M_w M_h M_cells M_shape M_isBoard M_isBlank M_lives M_moves M_parts M_numbers M_grade M_reasons M_total M_near M_degree M_mine M_state M_history_15 M_oldLives M_safe M_mined M_used M_partOf M_placeOf M_partSize M_ways M_with M_masks M_rests M_bits M_reach M_more M_reason M_big M_region) := by
          intro n_11
          induction n_11 using Nat.strongRecOn with
          | ind n_11 ih_12 =>
            intro x1_14 M_history_15 rx1_14 h
            replace h := hInv_9 n_11 x1_14 M_history_15 rx1_14 h
            refine wa_iload_n C 1 rfl dX12_keep_29 rfl ?_
            refine wa_aload_n C 0 rfl dX12_keep_30 rfl ?_
            refine wa_getI C 0 3 mW_0 rfl rfl (by decide) okX12 gw_1235 dX12_keep_31 (fun r_16 => ?_)
            refine wa_icmp_ge C (tgt := 76) rx1_14 r_16 dX12_keep_34 (by decide) (fun c_17 => ?_) (fun c_17 => ?_)
            · replace h := h.1 c_17
              refine wa_aload_n C 0 rfl dX12_keep_76 rfl ?_
              refine wa_getR C 0 14 mW_0 rfl rfl (by decide) okX12 gw_1246 dX12_keep_77 ?_
              refine wa_aload_n C 0 rfl dX12_keep_80 rfl ?_
              refine wa_getI C 0 12 mW_0 rfl rfl (by decide) okX12 gw_1244 dX12_keep_81 (fun r_18 => ?_)
              refine wa_aload_n C 0 rfl dX12_keep_84 rfl ?_
              refine wa_getI C 0 11 mW_0 rfl rfl (by decide) okX12 gw_1243 dX12_keep_85 (fun r_19 => ?_)
              obtain ⟨t_20, h⟩ := h
              refine wa_iast C (ws' := fun w9 => (mW M_thrown M_w M_h M_cells M_shape M_isBoard M_isBlank M_lives M_moves M_parts M_numbers M_grade M_reasons M_total M_near M_degree M_mine M_state M_history_15 w9 M_safe M_mined M_used M_partOf M_placeOf M_partSize M_ways M_with M_masks M_rests M_bits M_reach M_more M_reason M_big M_region)) 6 mW_6 dX12_keep_88 t_20.1 t_20.2 r_19 mWs_6 (fun M_oldLives_21 eM_oldLives_21 => ?_)
              replace h := h M_oldLives_21 eM_oldLives_21
              refine wa_aload_n C 0 rfl dX12_keep_89 rfl ?_
              refine wa_dup C dX12_keep_90 rfl ?_
              refine wa_getI C 0 12 mW_0 rfl rfl (by decide) okX12 gw_1244 dX12_keep_91 (fun r_22 => ?_)
              refine wa_iconst C (z := 1) dX12_keep_94 rfl ?_
              refine wa_iadd C dX12_keep_95 ?_
              obtain ⟨r_23, h⟩ := h
              refine wa_nmi (fun M_moves_24 eM_moves_24 => ?_)
              replace h := h M_moves_24 eM_moves_24
              have rM_moves_24 : inR M_moves_24 := by rw [eM_moves_24]; exact r_23
              refine wa_putI C (ws' := (mW M_thrown M_w M_h M_cells M_shape M_isBoard M_isBlank M_lives M_moves_24 M_parts M_numbers M_grade M_reasons M_total M_near M_degree M_mine M_state M_history_15 M_oldLives_21 M_safe M_mined M_used M_partOf M_placeOf M_partSize M_ways M_with M_masks M_rests M_bits M_reach M_more M_reason M_big M_region)) 0 12 mW_0 rfl (by decide) okX12 gw_1244 rfl rfl (Nat.le_of_ble_eq_true rfl) rM_moves_24 (mWp_0_12 _) dX12_keep_96 ?_
              exact ret dX12_keep_99 ⟨_, _, _, rfl, h⟩
            · replace h := h.2 c_17
              refine wa_aload_n C 0 rfl dX12_keep_37 rfl ?_
              refine wa_getR C 0 13 mW_0 rfl rfl (by decide) okX12 gw_1245 dX12_keep_38 ?_
              refine wa_iconst C (z := 5) dX12_keep_41 rfl ?_
              refine wa_aload_n C 0 rfl dX12_keep_42 rfl ?_
              refine wa_getI C 0 12 mW_0 rfl rfl (by decide) okX12 gw_1244 dX12_keep_43 (fun r_25 => ?_)
              refine wa_imul C dX12_keep_46 ?_
              refine wa_iload_n C 1 rfl dX12_keep_47 rfl ?_
              refine wa_bipush C (z := 32) dX12_keep_48 (by decide) ?_
              refine wa_idiv C dX12_keep_50 rx1_14 (inR_k 32 rfl) (by decide) ?_
              refine wa_iadd C dX12_keep_51 ?_
              refine wa_dup2 C dX12_keep_52 rfl rfl ?_
              obtain ⟨t_26, h⟩ := h
              refine wa_lald C 5 mW_5 dX12_keep_53 t_26.1 t_26.2 (fun v_27 ev_27 => ?_)
              replace h := h v_27 ev_27
              refine wa_aload_n C 0 rfl dX12_keep_54 rfl ?_
              refine wa_getR C 0 10 mW_0 rfl rfl (by decide) okX12 gw_1242 dX12_keep_55 ?_
              refine wa_iload_n C 1 rfl dX12_keep_58 rfl ?_
              obtain ⟨t_28, h⟩ := h
              refine wa_iald C 4 mW_4 dX12_keep_59 t_28.1 t_28.2 (fun v_29 ev_29 rv_29 => ?_)
              replace h := h v_29 ev_29 rv_29
              refine wa_i2l C rv_29 dX12_keep_60 ?_
              refine wa_iconst C (z := 2) dX12_keep_61 rfl ?_
              refine wa_iload_n C 1 rfl dX12_keep_62 rfl ?_
              refine wa_bipush C (z := 32) dX12_keep_63 (by decide) ?_
              refine wa_irem C dX12_keep_65 rx1_14 (inR_k 32 rfl) (by decide) ?_
              refine wa_imul C dX12_keep_66 ?_
              refine wa_lshl C dX12_keep_67 ?_
              refine wa_lor C dX12_keep_68 ?_
              obtain ⟨t_30, h⟩ := h
              refine wa_last C (ws' := fun w9 => (mW M_thrown M_w M_h M_cells M_shape M_isBoard M_isBlank M_lives M_moves M_parts M_numbers M_grade M_reasons M_total M_near M_degree M_mine M_state w9 M_oldLives M_safe M_mined M_used M_partOf M_placeOf M_partSize M_ways M_with M_masks M_rests M_bits M_reach M_more M_reason M_big M_region)) 5 mW_5 dX12_keep_69 t_30.1 t_30.2 mWs_5 (fun M_history_31 eM_history_31 => ?_)
              replace h := h M_history_31 eM_history_31
              obtain ⟨r_32, h⟩ := h
              refine wa_iinc C (lv' := fun w9 => [(1, .int (iI w9)), (0, .ref (ad 0))]) 1 rfl dX12_keep_70 (by decide) (fun _ => rfl) (fun x1_33 ex1_33 => ?_)
              replace h := h x1_33 ex1_33
              have rx1_33 : inR x1_33 := by rw [ex1_33]; exact r_32
              refine wa_goto C (tgt := 29) dX12_keep_73 (by decide) ?_
              obtain ⟨n_34, ln_34, h⟩ := h
              refine wa_sub C [1, 0] rfl ?_
              exact ih_12 n_34 ln_34 x1_33 M_history_31 rx1_33 h
        refine wa_sub C [1, 0] rfl ?_
        exact k_13 n_10 0 M_history_7 (inR_k 0 rfl) h0Inv_9
      · replace h := h.2 c_8
        refine wa_aload_n C 0 rfl dX12_keep_7 rfl ?_
        refine wa_getR C 0 13 mW_0 rfl rfl (by decide) okX12 gw_1245 dX12_keep_8 ?_
        refine wa_iconst C (z := 5) dX12_keep_11 rfl ?_
        refine wa_aload_n C 0 rfl dX12_keep_12 rfl ?_
        refine wa_getI C 0 12 mW_0 rfl rfl (by decide) okX12 gw_1244 dX12_keep_13 (fun r_35 => ?_)
        refine wa_imul C dX12_keep_16 ?_
        refine wa_iload_n C 1 rfl dX12_keep_17 rfl ?_
        refine wa_iadd C dX12_keep_18 ?_
        refine wa_lconst C (v := 0) dX12_keep_19 rfl ?_
        obtain ⟨t_36, h⟩ := h
        refine wa_last C (ws' := fun w9 => (mW M_thrown M_w M_h M_cells M_shape M_isBoard M_isBlank M_lives M_moves M_parts M_numbers M_grade M_reasons M_total M_near M_degree M_mine M_state w9 M_oldLives M_safe M_mined M_used M_partOf M_placeOf M_partSize M_ways M_with M_masks M_rests M_bits M_reach M_more M_reason M_big M_region)) 5 mW_5 dX12_keep_20 t_36.1 t_36.2 mWs_5 (fun M_history_37 eM_history_37 => ?_)
        replace h := h M_history_37 eM_history_37
        obtain ⟨r_38, h⟩ := h
        refine wa_iinc C (lv' := fun w9 => [(1, .int (iI w9)), (0, .ref (ad 0))]) 1 rfl dX12_keep_21 (by decide) (fun _ => rfl) (fun x1_39 ex1_39 => ?_)
        replace h := h x1_39 ex1_39
        have rx1_39 : inR x1_39 := by rw [ex1_39]; exact r_38
        refine wa_goto C (tgt := 2) dX12_keep_24 (by decide) ?_
        obtain ⟨n_40, ln_40, h⟩ := h
        refine wa_sub C [1, 0] rfl ?_
        exact ih_4 n_40 ln_40 x1_39 M_history_37 rx1_39 h
  refine wa_sub C [1, 0] rfl ?_
  exact k_5 n_2 0 M_history (inR_k 0 rfl) h0Inv_1
def P_X12_open (post : Int → (Int) → (Int) → (Int) → (Int → Int) → (Int → Int64) → (Int → Int) → Prop) (M_thrown : Int) (M_w : Int) (M_h : Int) (M_cells : Int) (M_isBoard : Int) (M_lives : Int) (M_moves : Int) (M_near : Int → Int) (M_degree : Int → Int) (M_mine : Int → Int) (M_state : Int → Int) (M_history : Int → Int64) (M_oldLives : Int → Int) (x1 : Int) (x2 : Int) : Prop :=
  P_X12_has (fun (c_1 : Int) (M_thrown_2 : Int) => (c_1 = 0 ∨ c_1 = 1) → ((¬ c_1 = 0 → (inR ((M_w * x1) + x2) ∧ (∀ x3_6 : Int, x3_6 = ((M_w * x1) + x2) → ((0 ≤ x3_6 ∧ x3_6 < 144) ∧ (∀ v_8 : Int, v_8 = M_state x3_6 → inR v_8 → (∃ J_9 : Prop, ((¬ v_8 = 0 → (J_9)) ∧ (v_8 = 0 → ((1 ≤ M_lives → (P_X12_keep (fun (M_moves_16 : Int) (M_history_17 : Int → Int64) (M_oldLives_18 : Int → Int) => (P_X12_uncover (fun (M_lives_19 : Int) (M_state_20 : Int → Int) => ((0 ≤ x3_6 ∧ x3_6 < 144) ∧ (∀ v_22 : Int, v_22 = M_state_20 x3_6 → inR v_22 → (∃ J_23 : (Int) → Prop, ((¬ v_22 = 3 → (P_X12_numberOf (fun (c_27 : Int) => inR c_27 → (J_23 c_27)) M_near M_degree M_mine x3_6)) ∧ (v_22 = 3 → (J_23 9))) ∧ (∀ (z_25 : Int), inR z_25 → J_23 z_25 → (post z_25 M_thrown_2 M_lives_19 M_moves_16 M_state_20 M_history_17 M_oldLives_18)))))) M_cells M_lives M_near M_degree M_mine M_state x3_6)) M_cells M_lives M_moves M_state M_history M_oldLives )) ∧ (¬ 1 ≤ M_lives → (J_9))))) ∧ (J_9 → (P_X12_fail (fun (c_11 : Int) (M_thrown_12 : Int) => inR c_11 → (post c_11 M_thrown_12 M_lives M_moves M_state M_history M_oldLives)) M_thrown_2 3)))))))) ∧ (c_1 = 0 → (post 0 M_thrown_2 M_lives M_moves M_state M_history M_oldLives)))) 0 M_w M_h M_isBoard x1 x2
set_option maxRecDepth 100000 in
set_option maxHeartbeats 4000000 in
theorem c_X12_open (l : Launch) (K : wK) (ad : Nat → Nat) {M_thrown : Int} {M_w : Int} {M_h : Int} {M_cells : Int} {M_shape : Int} {M_isBoard : Int} {M_isBlank : Int} {M_lives : Int} {M_moves : Int} {M_parts : Int} {M_numbers : Int} {M_grade : Int} {M_reasons : Int} {M_total : Int} {M_near : Int → Int} {M_degree : Int → Int} {M_mine : Int → Int} {M_state : Int → Int} {M_history : Int → Int64} {M_oldLives : Int → Int} {M_safe : Int → Int} {M_mined : Int → Int} {M_used : Int → Int} {M_partOf : Int → Int} {M_placeOf : Int → Int} {M_partSize : Int → Int} {M_ways : Int → Int} {M_with : Int → Int} {M_masks : Int → Int} {M_rests : Int → Int} {M_bits : Int → Int} {M_reach : Int → Int} {M_more : Int → Int} {M_reason : Int → Int} {M_big : Int → Int64} {M_region : Int → Int} (x1 : Int) (x2 : Int) (rx1 : inR x1) (rx2 : inR x2) (post : Int → (Int) → (Int) → (Int) → (Int → Int) → (Int → Int64) → (Int → Int) → Prop) (h : P_X12_open post M_thrown M_w M_h M_cells M_isBoard M_lives M_moves M_near M_degree M_mine M_state M_history M_oldLives x1 x2) : mI l yX12_open (Cond.code yX12_open cX12_open 4 (some .int) :: GT) ({ frames := 5, cells := 0, slots := 0, locals := 300 } : Room) [.ref (ad 0), .int (iI x1), .int (iI x2)] K ad (mW M_thrown M_w M_h M_cells M_shape M_isBoard M_isBlank M_lives M_moves M_parts M_numbers M_grade M_reasons M_total M_near M_degree M_mine M_state M_history M_oldLives M_safe M_mined M_used M_partOf M_placeOf M_partSize M_ways M_with M_masks M_rests M_bits M_reach M_more M_reason M_big M_region) (fun z9 u9 => ∃ M_thrown9 M_lives9 M_moves9 M_state9 M_history9 M_oldLives9, u9 = (mW M_thrown9 M_w M_h M_cells M_shape M_isBoard M_isBlank M_lives9 M_moves9 M_parts M_numbers M_grade M_reasons M_total M_near M_degree M_mine M_state9 M_history9 M_oldLives9 M_safe M_mined M_used M_partOf M_placeOf M_partSize M_ways M_with M_masks M_rests M_bits M_reach M_more M_reason M_big M_region) ∧ post z9 M_thrown9 M_lives9 M_moves9 M_state9 M_history9 M_oldLives9) := by
  refine mI_of (lv0 := [(0, .ref (ad 0)), (1, .int (iI x1)), (2, .int (iI x2))]) (by decide) (Nat.le_of_ble_eq_true rfl) rfl ?_
  intro p e s m args below meth c Q A C ret
  replace C : Cx p ({ frames := 5, cells := 0, slots := 0, locals := 300 } : Room) m c 0 0 cX12_open 4 s args RX12 K A := C
  unfold P_X12_open at h
  refine wa_aload_n C 0 rfl dX12_open_0 rfl ?_
  refine wa_iconst C (z := 0) dX12_open_1 rfl ?_
  refine wa_putI C (ws' := (mW 0 M_w M_h M_cells M_shape M_isBoard M_isBlank M_lives M_moves M_parts M_numbers M_grade M_reasons M_total M_near M_degree M_mine M_state M_history M_oldLives M_safe M_mined M_used M_partOf M_placeOf M_partSize M_ways M_with M_masks M_rests M_bits M_reach M_more M_reason M_big M_region)) 0 0 mW_0 rfl (by decide) okX12 gw_1232 rfl rfl (Nat.le_of_ble_eq_true rfl) (inR_k 0 rfl) (mWp_0_0 _) dX12_open_2 ?_
  refine wa_aload_n C 0 rfl dX12_open_5 rfl ?_
  refine wa_iload_n C 1 rfl dX12_open_6 rfl ?_
  refine wa_iload_n C 2 rfl dX12_open_7 rfl ?_
  refine wa_callVi C (k := 0) (As := [.int (iI x1), .int (iI x2)]) (rest := []) (c_X12_has l K ad x1 x2 rx1 rx2 _ h) gw_1539 gw_1536 mW_0 rfl gw_1538 gs_93 gw_12 q_X12_has rfl rfl rfl ⟨by decide, by decide⟩ rfl (Nat.le_of_ble_eq_true rfl) dX12_open_8 (fun c_1 u9 rc_1 hp => ?_)
  obtain ⟨bc_1, M_thrown_2, rfl, h⟩ := hp
  replace h := h bc_1
  refine wa_if_ne C (tgt := 16) (inR_b bc_1) dX12_open_11 (by decide) (fun c_3 => ?_) (fun c_3 => ?_)
  · replace h := h.1 c_3
    refine wa_aload_n C 0 rfl dX12_open_16 rfl ?_
    refine wa_getI C 0 1 mW_0 rfl rfl (by decide) okX12 gw_1233 dX12_open_17 (fun r_4 => ?_)
    refine wa_iload_n C 1 rfl dX12_open_20 rfl ?_
    refine wa_imul C dX12_open_21 ?_
    refine wa_iload_n C 2 rfl dX12_open_22 rfl ?_
    refine wa_iadd C dX12_open_23 ?_
    obtain ⟨r_5, h⟩ := h
    refine wa_nmi (fun x3_6 ex3_6 => ?_)
    replace h := h x3_6 ex3_6
    have rx3_6 : inR x3_6 := by rw [ex3_6]; exact r_5
    refine wa_istore_n C dX12_open_24 rfl (by decide) rfl ?_
    refine wa_aload_n C 1 rfl dX12_open_25 rfl ?_
    refine wa_getR C 0 10 mW_0 rfl rfl (by decide) okX12 gw_1242 dX12_open_26 ?_
    refine wa_iload_n C 0 rfl dX12_open_29 rfl ?_
    obtain ⟨t_7, h⟩ := h
    refine wa_iald C 4 mW_4 dX12_open_30 t_7.1 t_7.2 (fun v_8 ev_8 rv_8 => ?_)
    replace h := h v_8 ev_8 rv_8
    obtain ⟨J_9, h, hJ_9⟩ := h
    have k_10 : J_9 → WA p l e ({ frames := 5, cells := 0, slots := 0, locals := 300 } : Room) s m args below meth c 0 0 Q K ad 4 A 42 [(0, .ref (ad 0))] [] (mW M_thrown_2 M_w M_h M_cells M_shape M_isBoard M_isBlank M_lives M_moves M_parts M_numbers M_grade M_reasons M_total M_near M_degree M_mine M_state M_history M_oldLives M_safe M_mined M_used M_partOf M_placeOf M_partSize M_ways M_with M_masks M_rests M_bits M_reach M_more M_reason M_big M_region) := by
      intro h
      replace h := hJ_9 h
      refine wa_aload_n C 0 rfl dX12_open_42 rfl ?_
      refine wa_iconst C (z := 3) dX12_open_43 rfl ?_
      refine wa_callVi C (k := 0) (As := [.int (iI 3)]) (rest := []) (c_X12_fail l K ad 3 (inR_k 3 rfl) _ h) gw_1365 gw_1362 mW_0 rfl gw_1364 gs_52 gw_12 q_X12_fail rfl rfl rfl ⟨by decide, by decide⟩ rfl (Nat.le_of_ble_eq_true rfl) dX12_open_44 (fun c_11 u9 rc_11 hp => ?_)
      obtain ⟨M_thrown_12, rfl, h⟩ := hp
      replace h := h rc_11
      exact ret dX12_open_47 rc_11 ⟨_, _, _, _, _, _, rfl, h⟩
    refine wa_if_ne C (tgt := 42) rv_8 dX12_open_31 (by decide) (fun c_13 => ?_) (fun c_13 => ?_)
    · replace h := h.1 c_13
      refine wa_sub C [1] rfl ?_
      exact k_10 h
    · replace h := h.2 c_13
      refine wa_aload_n C 1 rfl dX12_open_34 rfl ?_
      refine wa_getI C 0 11 mW_0 rfl rfl (by decide) okX12 gw_1243 dX12_open_35 (fun r_14 => ?_)
      refine wa_iconst C (z := 1) dX12_open_38 rfl ?_
      refine wa_icmp_ge C (tgt := 48) r_14 (inR_k 1 rfl) dX12_open_39 (by decide) (fun c_15 => ?_) (fun c_15 => ?_)
      · replace h := h.1 c_15
        refine wa_aload_n C 1 rfl dX12_open_48 rfl ?_
        refine wa_callVv C (k := 0) (As := []) (rest := []) (c_X12_keep l K ad  _ h) gw_1551 gw_1548 mW_0 rfl gw_1550 gs_95 gw_12 q_X12_keep rfl rfl rfl ⟨by decide, by decide⟩ rfl (Nat.le_of_ble_eq_true rfl) dX12_open_49 (fun u9 hp => ?_)
        obtain ⟨M_moves_16, M_history_17, M_oldLives_18, rfl, h⟩ := hp
        refine wa_aload_n C 1 rfl dX12_open_52 rfl ?_
        refine wa_iload_n C 0 rfl dX12_open_53 rfl ?_
        refine wa_callVv C (k := 0) (As := [.int (iI x3_6)]) (rest := []) (c_X12_uncover l K ad x3_6 rx3_6 _ h) gw_1403 gw_1400 mW_0 rfl gw_1402 gs_61 gw_12 q_X12_uncover rfl rfl rfl ⟨by decide, by decide⟩ rfl (Nat.le_of_ble_eq_true rfl) dX12_open_54 (fun u9 hp => ?_)
        obtain ⟨M_lives_19, M_state_20, rfl, h⟩ := hp
        refine wa_aload_n C 1 rfl dX12_open_57 rfl ?_
        refine wa_getR C 0 10 mW_0 rfl rfl (by decide) okX12 gw_1242 dX12_open_58 ?_
        refine wa_iload_n C 0 rfl dX12_open_61 rfl ?_
        obtain ⟨t_21, h⟩ := h
        refine wa_iald C 4 mW_4 dX12_open_62 t_21.1 t_21.2 (fun v_22 ev_22 rv_22 => ?_)
        replace h := h v_22 ev_22 rv_22
        refine wa_iconst C (z := 3) dX12_open_63 rfl ?_
        obtain ⟨J_23, h, hJ_23⟩ := h
        have k_24 : ∀ (z_25 : Int), inR z_25 → J_23 z_25 → WA p l e ({ frames := 5, cells := 0, slots := 0, locals := 300 } : Room) s m args below meth c 0 0 Q K ad 4 A 77 [] [.int (iI z_25)] (mW M_thrown_2 M_w M_h M_cells M_shape M_isBoard M_isBlank M_lives_19 M_moves_16 M_parts M_numbers M_grade M_reasons M_total M_near M_degree M_mine M_state_20 M_history_17 M_oldLives_18 M_safe M_mined M_used M_partOf M_placeOf M_partSize M_ways M_with M_masks M_rests M_bits M_reach M_more M_reason M_big M_region) := by
          intro z_25 rz_25 h
          replace h := hJ_23 z_25 rz_25 h
          exact ret dX12_open_77 rz_25 ⟨_, _, _, _, _, _, rfl, h⟩
        refine wa_icmp_ne C (tgt := 72) rv_22 (inR_k 3 rfl) dX12_open_64 (by decide) (fun c_26 => ?_) (fun c_26 => ?_)
        · replace h := h.1 c_26
          refine wa_aload_n C 1 rfl dX12_open_72 rfl ?_
          refine wa_iload_n C 0 rfl dX12_open_73 rfl ?_
          refine wa_callVi C (k := 0) (As := [.int (iI x3_6)]) (rest := []) (c_X12_numberOf l K ad x3_6 rx3_6 _ h) gw_1407 gw_1404 mW_0 rfl gw_1406 gs_62 gw_12 q_X12_numberOf rfl rfl rfl ⟨by decide, by decide⟩ rfl (Nat.le_of_ble_eq_true rfl) dX12_open_74 (fun c_27 u9 rc_27 hp => ?_)
          obtain ⟨rfl, h⟩ := hp
          replace h := h rc_27
          refine wa_sub C [] rfl ?_
          exact k_24 c_27 rc_27 h
        · replace h := h.2 c_26
          refine wa_bipush C (z := 9) dX12_open_67 (by decide) ?_
          refine wa_goto C (tgt := 77) dX12_open_69 (by decide) ?_
          refine wa_sub C [] rfl ?_
          exact k_24 9 (inR_k 9 rfl) h
      · replace h := h.2 c_15
        refine wa_sub C [1] rfl ?_
        exact k_10 h
  · replace h := h.2 c_3
    refine wa_iconst C (z := 0) dX12_open_14 rfl ?_
    exact ret dX12_open_15 (inR_k 0 rfl) ⟨_, _, _, _, _, _, rfl, h⟩
def P_X12_flag (post : Int → (Int) → (Int) → (Int → Int) → (Int → Int64) → (Int → Int) → Prop) (M_thrown : Int) (M_w : Int) (M_h : Int) (M_cells : Int) (M_isBoard : Int) (M_lives : Int) (M_moves : Int) (M_state : Int → Int) (M_history : Int → Int64) (M_oldLives : Int → Int) (x1 : Int) (x2 : Int) : Prop :=
  P_X12_has (fun (c_1 : Int) (M_thrown_2 : Int) => (c_1 = 0 ∨ c_1 = 1) → ((¬ c_1 = 0 → (inR ((M_w * x1) + x2) ∧ (∀ x3_6 : Int, x3_6 = ((M_w * x1) + x2) → (P_X12_isUnknown (fun (c_7 : Int) => (c_7 = 0 ∨ c_7 = 1) → (∃ J_8 : Prop, ((c_7 = 0 → (J_8)) ∧ (¬ c_7 = 0 → ((1 ≤ M_lives → (P_X12_keep (fun (M_moves_20 : Int) (M_history_21 : Int → Int64) (M_oldLives_22 : Int → Int) => ((0 ≤ x3_6 ∧ x3_6 < 144) ∧ (∀ v_24 : Int, v_24 = M_state x3_6 → inR v_24 → (∃ J_25 : (Int) → Prop, ((¬ v_24 = 0 → (J_25 0)) ∧ (v_24 = 0 → (J_25 2))) ∧ (∀ (z_27 : Int), inR z_27 → J_25 z_27 → ((0 ≤ x3_6 ∧ x3_6 < 144) ∧ (∀ M_state_29 : Int → Int, M_state_29 = upZ M_state x3_6 z_27 → ((0 ≤ x3_6 ∧ x3_6 < 144) ∧ (∀ v_31 : Int, v_31 = M_state_29 x3_6 → inR v_31 → (∃ J_32 : (Int) → Prop, ((¬ v_31 = 2 → (J_32 0)) ∧ (v_31 = 2 → (J_32 1))) ∧ (∀ (z_34 : Int), inR z_34 → J_32 z_34 → ((z_34 = 0 ∨ z_34 = 1) ∧ (post z_34 M_thrown_2 M_moves_20 M_state_29 M_history_21 M_oldLives_22))))))))))))) M_cells M_lives M_moves M_state M_history M_oldLives )) ∧ (¬ 1 ≤ M_lives → (J_8))))) ∧ (J_8 → (P_X12_fail (fun (c_10 : Int) (M_thrown_11 : Int) => inR c_10 → (∃ J_12 : (Int) → Prop, ((c_10 ≤ 0 → (J_12 0)) ∧ (¬ c_10 ≤ 0 → (J_12 1))) ∧ (∀ (z_14 : Int), inR z_14 → J_12 z_14 → ((z_14 = 0 ∨ z_14 = 1) ∧ (post z_14 M_thrown_11 M_moves M_state M_history M_oldLives))))) M_thrown_2 3)))) M_state x3_6)))) ∧ (c_1 = 0 → (post 0 M_thrown_2 M_moves M_state M_history M_oldLives)))) 0 M_w M_h M_isBoard x1 x2
set_option maxRecDepth 100000 in
set_option maxHeartbeats 4000000 in
theorem c_X12_flag (l : Launch) (K : wK) (ad : Nat → Nat) {M_thrown : Int} {M_w : Int} {M_h : Int} {M_cells : Int} {M_shape : Int} {M_isBoard : Int} {M_isBlank : Int} {M_lives : Int} {M_moves : Int} {M_parts : Int} {M_numbers : Int} {M_grade : Int} {M_reasons : Int} {M_total : Int} {M_near : Int → Int} {M_degree : Int → Int} {M_mine : Int → Int} {M_state : Int → Int} {M_history : Int → Int64} {M_oldLives : Int → Int} {M_safe : Int → Int} {M_mined : Int → Int} {M_used : Int → Int} {M_partOf : Int → Int} {M_placeOf : Int → Int} {M_partSize : Int → Int} {M_ways : Int → Int} {M_with : Int → Int} {M_masks : Int → Int} {M_rests : Int → Int} {M_bits : Int → Int} {M_reach : Int → Int} {M_more : Int → Int} {M_reason : Int → Int} {M_big : Int → Int64} {M_region : Int → Int} (x1 : Int) (x2 : Int) (rx1 : inR x1) (rx2 : inR x2) (post : Int → (Int) → (Int) → (Int → Int) → (Int → Int64) → (Int → Int) → Prop) (h : P_X12_flag post M_thrown M_w M_h M_cells M_isBoard M_lives M_moves M_state M_history M_oldLives x1 x2) : mI l yX12_flag (Cond.code yX12_flag cX12_flag 4 (some .boolean) :: GT) ({ frames := 5, cells := 0, slots := 0, locals := 300 } : Room) [.ref (ad 0), .int (iI x1), .int (iI x2)] K ad (mW M_thrown M_w M_h M_cells M_shape M_isBoard M_isBlank M_lives M_moves M_parts M_numbers M_grade M_reasons M_total M_near M_degree M_mine M_state M_history M_oldLives M_safe M_mined M_used M_partOf M_placeOf M_partSize M_ways M_with M_masks M_rests M_bits M_reach M_more M_reason M_big M_region) (fun z9 u9 => (z9 = 0 ∨ z9 = 1) ∧ ∃ M_thrown9 M_moves9 M_state9 M_history9 M_oldLives9, u9 = (mW M_thrown9 M_w M_h M_cells M_shape M_isBoard M_isBlank M_lives M_moves9 M_parts M_numbers M_grade M_reasons M_total M_near M_degree M_mine M_state9 M_history9 M_oldLives9 M_safe M_mined M_used M_partOf M_placeOf M_partSize M_ways M_with M_masks M_rests M_bits M_reach M_more M_reason M_big M_region) ∧ post z9 M_thrown9 M_moves9 M_state9 M_history9 M_oldLives9) := by
  refine mZ_of (lv0 := [(0, .ref (ad 0)), (1, .int (iI x1)), (2, .int (iI x2))]) (by decide) (Nat.le_of_ble_eq_true rfl) rfl ?_
  intro p e s m args below meth c Q A C ret
  replace C : Cx p ({ frames := 5, cells := 0, slots := 0, locals := 300 } : Room) m c 0 0 cX12_flag 4 s args RX12 K A := C
  unfold P_X12_flag at h
  refine wa_aload_n C 0 rfl dX12_flag_0 rfl ?_
  refine wa_iconst C (z := 0) dX12_flag_1 rfl ?_
  refine wa_putI C (ws' := (mW 0 M_w M_h M_cells M_shape M_isBoard M_isBlank M_lives M_moves M_parts M_numbers M_grade M_reasons M_total M_near M_degree M_mine M_state M_history M_oldLives M_safe M_mined M_used M_partOf M_placeOf M_partSize M_ways M_with M_masks M_rests M_bits M_reach M_more M_reason M_big M_region)) 0 0 mW_0 rfl (by decide) okX12 gw_1232 rfl rfl (Nat.le_of_ble_eq_true rfl) (inR_k 0 rfl) (mWp_0_0 _) dX12_flag_2 ?_
  refine wa_aload_n C 0 rfl dX12_flag_5 rfl ?_
  refine wa_iload_n C 1 rfl dX12_flag_6 rfl ?_
  refine wa_iload_n C 2 rfl dX12_flag_7 rfl ?_
  refine wa_callVi C (k := 0) (As := [.int (iI x1), .int (iI x2)]) (rest := []) (c_X12_has l K ad x1 x2 rx1 rx2 _ h) gw_1539 gw_1536 mW_0 rfl gw_1538 gs_93 gw_12 q_X12_has rfl rfl rfl ⟨by decide, by decide⟩ rfl (Nat.le_of_ble_eq_true rfl) dX12_flag_8 (fun c_1 u9 rc_1 hp => ?_)
  obtain ⟨bc_1, M_thrown_2, rfl, h⟩ := hp
  replace h := h bc_1
  refine wa_if_ne C (tgt := 16) (inR_b bc_1) dX12_flag_11 (by decide) (fun c_3 => ?_) (fun c_3 => ?_)
  · replace h := h.1 c_3
    refine wa_aload_n C 0 rfl dX12_flag_16 rfl ?_
    refine wa_getI C 0 1 mW_0 rfl rfl (by decide) okX12 gw_1233 dX12_flag_17 (fun r_4 => ?_)
    refine wa_iload_n C 1 rfl dX12_flag_20 rfl ?_
    refine wa_imul C dX12_flag_21 ?_
    refine wa_iload_n C 2 rfl dX12_flag_22 rfl ?_
    refine wa_iadd C dX12_flag_23 ?_
    obtain ⟨r_5, h⟩ := h
    refine wa_nmi (fun x3_6 ex3_6 => ?_)
    replace h := h x3_6 ex3_6
    have rx3_6 : inR x3_6 := by rw [ex3_6]; exact r_5
    refine wa_istore_n C dX12_flag_24 rfl (by decide) rfl ?_
    refine wa_aload_n C 1 rfl dX12_flag_25 rfl ?_
    refine wa_iload_n C 0 rfl dX12_flag_26 rfl ?_
    refine wa_callVi C (k := 0) (As := [.int (iI x3_6)]) (rest := []) (c_X12_isUnknown l K ad x3_6 rx3_6 _ h) gw_1411 gw_1408 mW_0 rfl gw_1410 gs_63 gw_12 q_X12_isUnknown rfl rfl rfl ⟨by decide, by decide⟩ rfl (Nat.le_of_ble_eq_true rfl) dX12_flag_27 (fun c_7 u9 rc_7 hp => ?_)
    obtain ⟨bc_7, rfl, h⟩ := hp
    replace h := h bc_7
    obtain ⟨J_8, h, hJ_8⟩ := h
    have k_9 : J_8 → WA p l e ({ frames := 5, cells := 0, slots := 0, locals := 300 } : Room) s m args below meth c 0 0 Q K ad 4 A 41 [(0, .ref (ad 0))] [] (mW M_thrown_2 M_w M_h M_cells M_shape M_isBoard M_isBlank M_lives M_moves M_parts M_numbers M_grade M_reasons M_total M_near M_degree M_mine M_state M_history M_oldLives M_safe M_mined M_used M_partOf M_placeOf M_partSize M_ways M_with M_masks M_rests M_bits M_reach M_more M_reason M_big M_region) := by
      intro h
      replace h := hJ_8 h
      refine wa_aload_n C 0 rfl dX12_flag_41 rfl ?_
      refine wa_iconst C (z := 3) dX12_flag_42 rfl ?_
      refine wa_callVi C (k := 0) (As := [.int (iI 3)]) (rest := []) (c_X12_fail l K ad 3 (inR_k 3 rfl) _ h) gw_1365 gw_1362 mW_0 rfl gw_1364 gs_52 gw_12 q_X12_fail rfl rfl rfl ⟨by decide, by decide⟩ rfl (Nat.le_of_ble_eq_true rfl) dX12_flag_43 (fun c_10 u9 rc_10 hp => ?_)
      obtain ⟨M_thrown_11, rfl, h⟩ := hp
      replace h := h rc_10
      obtain ⟨J_12, h, hJ_12⟩ := h
      have k_13 : ∀ (z_14 : Int), inR z_14 → J_12 z_14 → WA p l e ({ frames := 5, cells := 0, slots := 0, locals := 300 } : Room) s m args below meth c 0 0 Q K ad 4 A 54 [] [.int (iI z_14)] (mW M_thrown_11 M_w M_h M_cells M_shape M_isBoard M_isBlank M_lives M_moves M_parts M_numbers M_grade M_reasons M_total M_near M_degree M_mine M_state M_history M_oldLives M_safe M_mined M_used M_partOf M_placeOf M_partSize M_ways M_with M_masks M_rests M_bits M_reach M_more M_reason M_big M_region) := by
        intro z_14 rz_14 h
        replace h := hJ_12 z_14 rz_14 h
        obtain ⟨b_15, h⟩ := h
        exact ret dX12_flag_54 b_15 ⟨b_15, _, _, _, _, _, rfl, h⟩
      refine wa_if_le C (tgt := 53) rc_10 dX12_flag_46 (by decide) (fun c_16 => ?_) (fun c_16 => ?_)
      · replace h := h.1 c_16
        refine wa_iconst C (z := 0) dX12_flag_53 rfl ?_
        refine wa_sub C [] rfl ?_
        exact k_13 0 (inR_k 0 rfl) h
      · replace h := h.2 c_16
        refine wa_iconst C (z := 1) dX12_flag_49 rfl ?_
        refine wa_goto C (tgt := 54) dX12_flag_50 (by decide) ?_
        refine wa_sub C [] rfl ?_
        exact k_13 1 (inR_k 1 rfl) h
    refine wa_if_eq C (tgt := 41) (inR_b bc_7) dX12_flag_30 (by decide) (fun c_17 => ?_) (fun c_17 => ?_)
    · replace h := h.1 c_17
      refine wa_sub C [1] rfl ?_
      exact k_9 h
    · replace h := h.2 c_17
      refine wa_aload_n C 1 rfl dX12_flag_33 rfl ?_
      refine wa_getI C 0 11 mW_0 rfl rfl (by decide) okX12 gw_1243 dX12_flag_34 (fun r_18 => ?_)
      refine wa_iconst C (z := 1) dX12_flag_37 rfl ?_
      refine wa_icmp_ge C (tgt := 55) r_18 (inR_k 1 rfl) dX12_flag_38 (by decide) (fun c_19 => ?_) (fun c_19 => ?_)
      · replace h := h.1 c_19
        refine wa_aload_n C 1 rfl dX12_flag_55 rfl ?_
        refine wa_callVv C (k := 0) (As := []) (rest := []) (c_X12_keep l K ad  _ h) gw_1551 gw_1548 mW_0 rfl gw_1550 gs_95 gw_12 q_X12_keep rfl rfl rfl ⟨by decide, by decide⟩ rfl (Nat.le_of_ble_eq_true rfl) dX12_flag_56 (fun u9 hp => ?_)
        obtain ⟨M_moves_20, M_history_21, M_oldLives_22, rfl, h⟩ := hp
        refine wa_aload_n C 1 rfl dX12_flag_59 rfl ?_
        refine wa_getR C 0 10 mW_0 rfl rfl (by decide) okX12 gw_1242 dX12_flag_60 ?_
        refine wa_iload_n C 0 rfl dX12_flag_63 rfl ?_
        refine wa_aload_n C 1 rfl dX12_flag_64 rfl ?_
        refine wa_getR C 0 10 mW_0 rfl rfl (by decide) okX12 gw_1242 dX12_flag_65 ?_
        refine wa_iload_n C 0 rfl dX12_flag_68 rfl ?_
        obtain ⟨t_23, h⟩ := h
        refine wa_iald C 4 mW_4 dX12_flag_69 t_23.1 t_23.2 (fun v_24 ev_24 rv_24 => ?_)
        replace h := h v_24 ev_24 rv_24
        obtain ⟨J_25, h, hJ_25⟩ := h
        have k_26 : ∀ (z_27 : Int), inR z_27 → J_25 z_27 → WA p l e ({ frames := 5, cells := 0, slots := 0, locals := 300 } : Room) s m args below meth c 0 0 Q K ad 4 A 78 [(0, .ref (ad 0)), (3, .int (iI x3_6))] [.int (iI z_27), .int (iI x3_6), .ref (ad 4)] (mW M_thrown_2 M_w M_h M_cells M_shape M_isBoard M_isBlank M_lives M_moves_20 M_parts M_numbers M_grade M_reasons M_total M_near M_degree M_mine M_state M_history_21 M_oldLives_22 M_safe M_mined M_used M_partOf M_placeOf M_partSize M_ways M_with M_masks M_rests M_bits M_reach M_more M_reason M_big M_region) := by
          intro z_27 rz_27 h
          replace h := hJ_25 z_27 rz_27 h
          obtain ⟨t_28, h⟩ := h
          refine wa_iast C (ws' := fun w9 => (mW M_thrown_2 M_w M_h M_cells M_shape M_isBoard M_isBlank M_lives M_moves_20 M_parts M_numbers M_grade M_reasons M_total M_near M_degree M_mine w9 M_history_21 M_oldLives_22 M_safe M_mined M_used M_partOf M_placeOf M_partSize M_ways M_with M_masks M_rests M_bits M_reach M_more M_reason M_big M_region)) 4 mW_4 dX12_flag_78 t_28.1 t_28.2 rz_27 mWs_4 (fun M_state_29 eM_state_29 => ?_)
          replace h := h M_state_29 eM_state_29
          refine wa_aload_n C 0 rfl dX12_flag_79 rfl ?_
          refine wa_getR C 0 10 mW_0 rfl rfl (by decide) okX12 gw_1242 dX12_flag_80 ?_
          refine wa_iload_n C 1 rfl dX12_flag_83 rfl ?_
          obtain ⟨t_30, h⟩ := h
          refine wa_iald C 4 mW_4 dX12_flag_84 t_30.1 t_30.2 (fun v_31 ev_31 rv_31 => ?_)
          replace h := h v_31 ev_31 rv_31
          refine wa_iconst C (z := 2) dX12_flag_85 rfl ?_
          obtain ⟨J_32, h, hJ_32⟩ := h
          have k_33 : ∀ (z_34 : Int), inR z_34 → J_32 z_34 → WA p l e ({ frames := 5, cells := 0, slots := 0, locals := 300 } : Room) s m args below meth c 0 0 Q K ad 4 A 94 [] [.int (iI z_34)] (mW M_thrown_2 M_w M_h M_cells M_shape M_isBoard M_isBlank M_lives M_moves_20 M_parts M_numbers M_grade M_reasons M_total M_near M_degree M_mine M_state_29 M_history_21 M_oldLives_22 M_safe M_mined M_used M_partOf M_placeOf M_partSize M_ways M_with M_masks M_rests M_bits M_reach M_more M_reason M_big M_region) := by
            intro z_34 rz_34 h
            replace h := hJ_32 z_34 rz_34 h
            obtain ⟨b_35, h⟩ := h
            exact ret dX12_flag_94 b_35 ⟨b_35, _, _, _, _, _, rfl, h⟩
          refine wa_icmp_ne C (tgt := 93) rv_31 (inR_k 2 rfl) dX12_flag_86 (by decide) (fun c_36 => ?_) (fun c_36 => ?_)
          · replace h := h.1 c_36
            refine wa_iconst C (z := 0) dX12_flag_93 rfl ?_
            refine wa_sub C [] rfl ?_
            exact k_33 0 (inR_k 0 rfl) h
          · replace h := h.2 c_36
            refine wa_iconst C (z := 1) dX12_flag_89 rfl ?_
            refine wa_goto C (tgt := 94) dX12_flag_90 (by decide) ?_
            refine wa_sub C [] rfl ?_
            exact k_33 1 (inR_k 1 rfl) h
        refine wa_if_ne C (tgt := 77) rv_24 dX12_flag_70 (by decide) (fun c_37 => ?_) (fun c_37 => ?_)
        · replace h := h.1 c_37
          refine wa_iconst C (z := 0) dX12_flag_77 rfl ?_
          refine wa_sub C [1, 0] rfl ?_
          exact k_26 0 (inR_k 0 rfl) h
        · replace h := h.2 c_37
          refine wa_iconst C (z := 2) dX12_flag_73 rfl ?_
          refine wa_goto C (tgt := 78) dX12_flag_74 (by decide) ?_
          refine wa_sub C [1, 0] rfl ?_
          exact k_26 2 (inR_k 2 rfl) h
      · replace h := h.2 c_19
        refine wa_sub C [1] rfl ?_
        exact k_9 h
  · replace h := h.2 c_3
    refine wa_iconst C (z := 0) dX12_flag_14 rfl ?_
    exact ret dX12_flag_15 (Or.inl rfl) ⟨(Or.inl rfl), _, _, _, _, _, rfl, h⟩
def P_X12_chord (post : Int → (Int) → (Int) → (Int) → (Int → Int) → (Int → Int64) → (Int → Int) → Prop) (M_thrown : Int) (M_w : Int) (M_h : Int) (M_cells : Int) (M_shape : Int) (M_isBoard : Int) (M_lives : Int) (M_moves : Int) (M_near : Int → Int) (M_degree : Int → Int) (M_mine : Int → Int) (M_state : Int → Int) (M_history : Int → Int64) (M_oldLives : Int → Int) (x1 : Int) (x2 : Int) : Prop :=
  P_X12_has (fun (c_1 : Int) (M_thrown_2 : Int) => (c_1 = 0 ∨ c_1 = 1) → ((¬ c_1 = 0 → (inR ((M_w * x1) + x2) ∧ (∀ x3_6 : Int, x3_6 = ((M_w * x1) + x2) → ((0 ≤ x3_6 ∧ x3_6 < 144) ∧ (∀ v_8 : Int, v_8 = M_state x3_6 → inR v_8 → (∃ J_9 : Prop, ((¬ v_8 = 1 → (J_9)) ∧ (v_8 = 1 → ((M_lives < 1 → (J_9)) ∧ (¬ M_lives < 1 → (P_X12_numberOf (fun (c_16 : Int) => inR c_16 → (P_X12_around (fun (c_17 : Int) => inR c_17 → (P_X12_around (fun (c_18 : Int) => inR c_18 → (inR (c_17 + c_18) ∧ ((¬ c_16 = (c_17 + c_18) → (J_9)) ∧ (c_16 = (c_17 + c_18) → (P_X12_around (fun (c_21 : Int) => inR c_21 → ((¬ c_21 = 0 → (P_X12_keep (fun (M_moves_23 : Int) (M_history_24 : Int → Int64) (M_oldLives_25 : Int → Int) => (P_X12_many (fun (c_26 : Int) => inR c_26 → (P_X12_many (fun (c_27 : Int) => inR c_27 → (inR (c_26 + c_27) ∧ (∀ x4_29 : Int, x4_29 = (c_26 + c_27) → (∃ Inv_30 : Nat → (Int) → (Int) → (Int → Int) → Prop, (∃ n_31 : Nat, Inv_30 n_31 0 M_lives M_state) ∧ ∀ (n_32 : Nat) (x5_35 : Int) (M_lives_36 : Int) (M_state_37 : Int → Int), inR x5_35 → Inv_30 n_32 x5_35 M_lives_36 M_state_37 → ((M_cells ≤ x5_35 → (P_X12_many (fun (c_40 : Int) => inR c_40 → (P_X12_many (fun (c_41 : Int) => inR c_41 → (inR ((x4_29 - c_40) - c_41) ∧ (post ((x4_29 - c_40) - c_41) M_thrown_2 M_lives_36 M_moves_23 M_state_37 M_history_24 M_oldLives_25))) M_cells M_state_37 2)) M_cells M_state_37 0)) ∧ (¬ M_cells ≤ x5_35 → (P_X12_areNear (fun (c_43 : Int) => (c_43 = 0 ∨ c_43 = 1) → (∃ J_44 : (Int) → (Int → Int) → Prop, ((c_43 = 0 → (J_44 M_lives_36 M_state_37)) ∧ (¬ c_43 = 0 → ((0 ≤ x5_35 ∧ x5_35 < 144) ∧ (∀ v_53 : Int, v_53 = M_state_37 x5_35 → inR v_53 → ((¬ v_53 = 0 → (J_44 M_lives_36 M_state_37)) ∧ (v_53 = 0 → (P_X12_uncover (fun (M_lives_55 : Int) (M_state_56 : Int → Int) => (J_44 M_lives_55 M_state_56)) M_cells M_lives_36 M_near M_degree M_mine M_state_37 x5_35))))))) ∧ (∀ (M_lives_46 : Int) (M_state_47 : Int → Int), J_44 M_lives_46 M_state_47 → (inR (x5_35 + 1) ∧ (∀ x5_49 : Int, x5_49 = (x5_35 + 1) → (∃ n_50 : Nat, n_50 < n_32 ∧ Inv_30 n_50 x5_49 M_lives_46 M_state_47)))))) M_w M_h M_shape x3_6 x5_35))))))) M_cells M_state 2)) M_cells M_state 0)) M_cells M_lives M_moves M_state M_history M_oldLives )) ∧ (c_21 = 0 → (J_9)))) M_near M_degree M_state x3_6 0))))) M_near M_degree M_state x3_6 3)) M_near M_degree M_state x3_6 2)) M_near M_degree M_mine x3_6))))) ∧ (J_9 → (P_X12_fail (fun (c_11 : Int) (M_thrown_12 : Int) => inR c_11 → (post c_11 M_thrown_12 M_lives M_moves M_state M_history M_oldLives)) M_thrown_2 3)))))))) ∧ (c_1 = 0 → (post 0 M_thrown_2 M_lives M_moves M_state M_history M_oldLives)))) 0 M_w M_h M_isBoard x1 x2
set_option maxRecDepth 100000 in
set_option maxHeartbeats 4000000 in
theorem c_X12_chord (l : Launch) (K : wK) (ad : Nat → Nat) {M_thrown : Int} {M_w : Int} {M_h : Int} {M_cells : Int} {M_shape : Int} {M_isBoard : Int} {M_isBlank : Int} {M_lives : Int} {M_moves : Int} {M_parts : Int} {M_numbers : Int} {M_grade : Int} {M_reasons : Int} {M_total : Int} {M_near : Int → Int} {M_degree : Int → Int} {M_mine : Int → Int} {M_state : Int → Int} {M_history : Int → Int64} {M_oldLives : Int → Int} {M_safe : Int → Int} {M_mined : Int → Int} {M_used : Int → Int} {M_partOf : Int → Int} {M_placeOf : Int → Int} {M_partSize : Int → Int} {M_ways : Int → Int} {M_with : Int → Int} {M_masks : Int → Int} {M_rests : Int → Int} {M_bits : Int → Int} {M_reach : Int → Int} {M_more : Int → Int} {M_reason : Int → Int} {M_big : Int → Int64} {M_region : Int → Int} (x1 : Int) (x2 : Int) (rx1 : inR x1) (rx2 : inR x2) (post : Int → (Int) → (Int) → (Int) → (Int → Int) → (Int → Int64) → (Int → Int) → Prop) (h : P_X12_chord post M_thrown M_w M_h M_cells M_shape M_isBoard M_lives M_moves M_near M_degree M_mine M_state M_history M_oldLives x1 x2) : mI l yX12_chord (Cond.code yX12_chord cX12_chord 6 (some .int) :: GT) ({ frames := 5, cells := 0, slots := 0, locals := 300 } : Room) [.ref (ad 0), .int (iI x1), .int (iI x2)] K ad (mW M_thrown M_w M_h M_cells M_shape M_isBoard M_isBlank M_lives M_moves M_parts M_numbers M_grade M_reasons M_total M_near M_degree M_mine M_state M_history M_oldLives M_safe M_mined M_used M_partOf M_placeOf M_partSize M_ways M_with M_masks M_rests M_bits M_reach M_more M_reason M_big M_region) (fun z9 u9 => ∃ M_thrown9 M_lives9 M_moves9 M_state9 M_history9 M_oldLives9, u9 = (mW M_thrown9 M_w M_h M_cells M_shape M_isBoard M_isBlank M_lives9 M_moves9 M_parts M_numbers M_grade M_reasons M_total M_near M_degree M_mine M_state9 M_history9 M_oldLives9 M_safe M_mined M_used M_partOf M_placeOf M_partSize M_ways M_with M_masks M_rests M_bits M_reach M_more M_reason M_big M_region) ∧ post z9 M_thrown9 M_lives9 M_moves9 M_state9 M_history9 M_oldLives9) := by
  refine mI_of (lv0 := [(0, .ref (ad 0)), (1, .int (iI x1)), (2, .int (iI x2))]) (by decide) (Nat.le_of_ble_eq_true rfl) rfl ?_
  intro p e s m args below meth c Q A C ret
  replace C : Cx p ({ frames := 5, cells := 0, slots := 0, locals := 300 } : Room) m c 0 0 cX12_chord 6 s args RX12 K A := C
  unfold P_X12_chord at h
  refine wa_aload_n C 0 rfl dX12_chord_0 rfl ?_
  refine wa_iconst C (z := 0) dX12_chord_1 rfl ?_
  refine wa_putI C (ws' := (mW 0 M_w M_h M_cells M_shape M_isBoard M_isBlank M_lives M_moves M_parts M_numbers M_grade M_reasons M_total M_near M_degree M_mine M_state M_history M_oldLives M_safe M_mined M_used M_partOf M_placeOf M_partSize M_ways M_with M_masks M_rests M_bits M_reach M_more M_reason M_big M_region)) 0 0 mW_0 rfl (by decide) okX12 gw_1232 rfl rfl (Nat.le_of_ble_eq_true rfl) (inR_k 0 rfl) (mWp_0_0 _) dX12_chord_2 ?_
  refine wa_aload_n C 0 rfl dX12_chord_5 rfl ?_
  refine wa_iload_n C 1 rfl dX12_chord_6 rfl ?_
  refine wa_iload_n C 2 rfl dX12_chord_7 rfl ?_
  refine wa_callVi C (k := 0) (As := [.int (iI x1), .int (iI x2)]) (rest := []) (c_X12_has l K ad x1 x2 rx1 rx2 _ h) gw_1539 gw_1536 mW_0 rfl gw_1538 gs_93 gw_12 q_X12_has rfl rfl rfl ⟨by decide, by decide⟩ rfl (Nat.le_of_ble_eq_true rfl) dX12_chord_8 (fun c_1 u9 rc_1 hp => ?_)
  obtain ⟨bc_1, M_thrown_2, rfl, h⟩ := hp
  replace h := h bc_1
  refine wa_if_ne C (tgt := 16) (inR_b bc_1) dX12_chord_11 (by decide) (fun c_3 => ?_) (fun c_3 => ?_)
  · replace h := h.1 c_3
    refine wa_aload_n C 0 rfl dX12_chord_16 rfl ?_
    refine wa_getI C 0 1 mW_0 rfl rfl (by decide) okX12 gw_1233 dX12_chord_17 (fun r_4 => ?_)
    refine wa_iload_n C 1 rfl dX12_chord_20 rfl ?_
    refine wa_imul C dX12_chord_21 ?_
    refine wa_iload_n C 2 rfl dX12_chord_22 rfl ?_
    refine wa_iadd C dX12_chord_23 ?_
    obtain ⟨r_5, h⟩ := h
    refine wa_nmi (fun x3_6 ex3_6 => ?_)
    replace h := h x3_6 ex3_6
    have rx3_6 : inR x3_6 := by rw [ex3_6]; exact r_5
    refine wa_istore_n C dX12_chord_24 rfl (by decide) rfl ?_
    refine wa_aload_n C 1 rfl dX12_chord_25 rfl ?_
    refine wa_getR C 0 10 mW_0 rfl rfl (by decide) okX12 gw_1242 dX12_chord_26 ?_
    refine wa_iload_n C 0 rfl dX12_chord_29 rfl ?_
    obtain ⟨t_7, h⟩ := h
    refine wa_iald C 4 mW_4 dX12_chord_30 t_7.1 t_7.2 (fun v_8 ev_8 rv_8 => ?_)
    replace h := h v_8 ev_8 rv_8
    refine wa_iconst C (z := 1) dX12_chord_31 rfl ?_
    obtain ⟨J_9, h, hJ_9⟩ := h
    have k_10 : J_9 → WA p l e ({ frames := 5, cells := 0, slots := 0, locals := 300 } : Room) s m args below meth c 0 0 Q K ad 6 A 73 [(0, .ref (ad 0))] [] (mW M_thrown_2 M_w M_h M_cells M_shape M_isBoard M_isBlank M_lives M_moves M_parts M_numbers M_grade M_reasons M_total M_near M_degree M_mine M_state M_history M_oldLives M_safe M_mined M_used M_partOf M_placeOf M_partSize M_ways M_with M_masks M_rests M_bits M_reach M_more M_reason M_big M_region) := by
      intro h
      replace h := hJ_9 h
      refine wa_aload_n C 0 rfl dX12_chord_73 rfl ?_
      refine wa_iconst C (z := 3) dX12_chord_74 rfl ?_
      refine wa_callVi C (k := 0) (As := [.int (iI 3)]) (rest := []) (c_X12_fail l K ad 3 (inR_k 3 rfl) _ h) gw_1365 gw_1362 mW_0 rfl gw_1364 gs_52 gw_12 q_X12_fail rfl rfl rfl ⟨by decide, by decide⟩ rfl (Nat.le_of_ble_eq_true rfl) dX12_chord_75 (fun c_11 u9 rc_11 hp => ?_)
      obtain ⟨M_thrown_12, rfl, h⟩ := hp
      replace h := h rc_11
      exact ret dX12_chord_78 rc_11 ⟨_, _, _, _, _, _, rfl, h⟩
    refine wa_icmp_ne C (tgt := 73) rv_8 (inR_k 1 rfl) dX12_chord_32 (by decide) (fun c_13 => ?_) (fun c_13 => ?_)
    · replace h := h.1 c_13
      refine wa_sub C [1] rfl ?_
      exact k_10 h
    · replace h := h.2 c_13
      refine wa_aload_n C 1 rfl dX12_chord_35 rfl ?_
      refine wa_getI C 0 11 mW_0 rfl rfl (by decide) okX12 gw_1243 dX12_chord_36 (fun r_14 => ?_)
      refine wa_iconst C (z := 1) dX12_chord_39 rfl ?_
      refine wa_icmp_lt C (tgt := 73) r_14 (inR_k 1 rfl) dX12_chord_40 (by decide) (fun c_15 => ?_) (fun c_15 => ?_)
      · replace h := h.1 c_15
        refine wa_sub C [1] rfl ?_
        exact k_10 h
      · replace h := h.2 c_15
        refine wa_aload_n C 1 rfl dX12_chord_43 rfl ?_
        refine wa_iload_n C 0 rfl dX12_chord_44 rfl ?_
        refine wa_callVi C (k := 0) (As := [.int (iI x3_6)]) (rest := []) (c_X12_numberOf l K ad x3_6 rx3_6 _ h) gw_1407 gw_1404 mW_0 rfl gw_1406 gs_62 gw_12 q_X12_numberOf rfl rfl rfl ⟨by decide, by decide⟩ rfl (Nat.le_of_ble_eq_true rfl) dX12_chord_45 (fun c_16 u9 rc_16 hp => ?_)
        obtain ⟨rfl, h⟩ := hp
        replace h := h rc_16
        refine wa_aload_n C 1 rfl dX12_chord_48 rfl ?_
        refine wa_iload_n C 0 rfl dX12_chord_49 rfl ?_
        refine wa_iconst C (z := 2) dX12_chord_50 rfl ?_
        refine wa_callVi C (k := 0) (As := [.int (iI x3_6), .int (iI 2)]) (rest := [.int (iI c_16)]) (c_X12_around l K ad x3_6 2 rx3_6 (inR_k 2 rfl) _ h) gw_1435 gw_1432 mW_0 rfl gw_1434 gs_69 gw_12 q_X12_around rfl rfl rfl ⟨by decide, by decide⟩ rfl (Nat.le_of_ble_eq_true rfl) dX12_chord_51 (fun c_17 u9 rc_17 hp => ?_)
        obtain ⟨rfl, h⟩ := hp
        replace h := h rc_17
        refine wa_aload_n C 1 rfl dX12_chord_54 rfl ?_
        refine wa_iload_n C 0 rfl dX12_chord_55 rfl ?_
        refine wa_iconst C (z := 3) dX12_chord_56 rfl ?_
        refine wa_callVi C (k := 0) (As := [.int (iI x3_6), .int (iI 3)]) (rest := [.int (iI c_17), .int (iI c_16)]) (c_X12_around l K ad x3_6 3 rx3_6 (inR_k 3 rfl) _ h) gw_1435 gw_1432 mW_0 rfl gw_1434 gs_69 gw_12 q_X12_around rfl rfl rfl ⟨by decide, by decide⟩ rfl (Nat.le_of_ble_eq_true rfl) dX12_chord_57 (fun c_18 u9 rc_18 hp => ?_)
        obtain ⟨rfl, h⟩ := hp
        replace h := h rc_18
        refine wa_iadd C dX12_chord_60 ?_
        obtain ⟨r_19, h⟩ := h
        refine wa_icmp_ne C (tgt := 73) rc_16 r_19 dX12_chord_61 (by decide) (fun c_20 => ?_) (fun c_20 => ?_)
        · replace h := h.1 c_20
          refine wa_sub C [1] rfl ?_
          exact k_10 h
        · replace h := h.2 c_20
          refine wa_aload_n C 1 rfl dX12_chord_64 rfl ?_
          refine wa_iload_n C 0 rfl dX12_chord_65 rfl ?_
          refine wa_iconst C (z := 0) dX12_chord_66 rfl ?_
          refine wa_callVi C (k := 0) (As := [.int (iI x3_6), .int (iI 0)]) (rest := []) (c_X12_around l K ad x3_6 0 rx3_6 (inR_k 0 rfl) _ h) gw_1435 gw_1432 mW_0 rfl gw_1434 gs_69 gw_12 q_X12_around rfl rfl rfl ⟨by decide, by decide⟩ rfl (Nat.le_of_ble_eq_true rfl) dX12_chord_67 (fun c_21 u9 rc_21 hp => ?_)
          obtain ⟨rfl, h⟩ := hp
          replace h := h rc_21
          refine wa_if_ne C (tgt := 79) rc_21 dX12_chord_70 (by decide) (fun c_22 => ?_) (fun c_22 => ?_)
          · replace h := h.1 c_22
            refine wa_aload_n C 1 rfl dX12_chord_79 rfl ?_
            refine wa_callVv C (k := 0) (As := []) (rest := []) (c_X12_keep l K ad  _ h) gw_1551 gw_1548 mW_0 rfl gw_1550 gs_95 gw_12 q_X12_keep rfl rfl rfl ⟨by decide, by decide⟩ rfl (Nat.le_of_ble_eq_true rfl) dX12_chord_80 (fun u9 hp => ?_)
            obtain ⟨M_moves_23, M_history_24, M_oldLives_25, rfl, h⟩ := hp
            refine wa_aload_n C 1 rfl dX12_chord_83 rfl ?_
            refine wa_iconst C (z := 0) dX12_chord_84 rfl ?_
            refine wa_callVi C (k := 0) (As := [.int (iI 0)]) (rest := []) (c_X12_many l K ad 0 (inR_k 0 rfl) _ h) gw_1507 gw_1504 mW_0 rfl gw_1506 gs_87 gw_12 q_X12_many rfl rfl rfl ⟨by decide, by decide⟩ rfl (Nat.le_of_ble_eq_true rfl) dX12_chord_85 (fun c_26 u9 rc_26 hp => ?_)
            obtain ⟨rfl, h⟩ := hp
            replace h := h rc_26
            refine wa_aload_n C 1 rfl dX12_chord_88 rfl ?_
            refine wa_iconst C (z := 2) dX12_chord_89 rfl ?_
            refine wa_callVi C (k := 0) (As := [.int (iI 2)]) (rest := [.int (iI c_26)]) (c_X12_many l K ad 2 (inR_k 2 rfl) _ h) gw_1507 gw_1504 mW_0 rfl gw_1506 gs_87 gw_12 q_X12_many rfl rfl rfl ⟨by decide, by decide⟩ rfl (Nat.le_of_ble_eq_true rfl) dX12_chord_90 (fun c_27 u9 rc_27 hp => ?_)
            obtain ⟨rfl, h⟩ := hp
            replace h := h rc_27
            refine wa_iadd C dX12_chord_93 ?_
            obtain ⟨r_28, h⟩ := h
            refine wa_nmi (fun x4_29 ex4_29 => ?_)
            replace h := h x4_29 ex4_29
            have rx4_29 : inR x4_29 := by rw [ex4_29]; exact r_28
            refine wa_istore C dX12_chord_94 (by decide) rfl ?_
            refine wa_iconst C (z := 0) dX12_chord_96 rfl ?_
            refine wa_istore C dX12_chord_97 (by decide) rfl ?_
            obtain ⟨Inv_30, ⟨n_31, h0Inv_30⟩, hInv_30⟩ := h
            have k_34 : ∀ (n_32 : Nat) (x5_35 : Int) (M_lives_36 : Int) (M_state_37 : Int → Int), inR x5_35 → Inv_30 n_32 x5_35 M_lives_36 M_state_37 → WA p l e ({ frames := 5, cells := 0, slots := 0, locals := 300 } : Room) s m args below meth c 0 0 Q K ad 6 A 99 [(0, .ref (ad 0)), (3, .int (iI x3_6)), (4, .int (iI x4_29)), (5, .int (iI x5_35))] [] (mW M_thrown_2 M_w M_h M_cells M_shape M_isBoard M_isBlank M_lives_36 M_moves_23 M_parts M_numbers M_grade M_reasons M_total M_near M_degree M_mine M_state_37 M_history_24 M_oldLives_25 M_safe M_mined M_used M_partOf M_placeOf M_partSize M_ways M_with M_masks M_rests M_bits M_reach M_more M_reason M_big M_region) := by
              intro n_32
              induction n_32 using Nat.strongRecOn with
              | ind n_32 ih_33 =>
                intro x5_35 M_lives_36 M_state_37 rx5_35 h
                replace h := hInv_30 n_32 x5_35 M_lives_36 M_state_37 rx5_35 h
                refine wa_iload C 3 rfl dX12_chord_99 ?_
                refine wa_aload_n C 0 rfl dX12_chord_101 rfl ?_
                refine wa_getI C 0 3 mW_0 rfl rfl (by decide) okX12 gw_1235 dX12_chord_102 (fun r_38 => ?_)
                refine wa_icmp_ge C (tgt := 140) rx5_35 r_38 dX12_chord_105 (by decide) (fun c_39 => ?_) (fun c_39 => ?_)
                · replace h := h.1 c_39
                  refine wa_iload C 2 rfl dX12_chord_140 ?_
                  refine wa_aload_n C 0 rfl dX12_chord_142 rfl ?_
                  refine wa_iconst C (z := 0) dX12_chord_143 rfl ?_
                  refine wa_callVi C (k := 0) (As := [.int (iI 0)]) (rest := [.int (iI x4_29)]) (c_X12_many l K ad 0 (inR_k 0 rfl) _ h) gw_1507 gw_1504 mW_0 rfl gw_1506 gs_87 gw_12 q_X12_many rfl rfl rfl ⟨by decide, by decide⟩ rfl (Nat.le_of_ble_eq_true rfl) dX12_chord_144 (fun c_40 u9 rc_40 hp => ?_)
                  obtain ⟨rfl, h⟩ := hp
                  replace h := h rc_40
                  refine wa_isub C dX12_chord_147 ?_
                  refine wa_aload_n C 0 rfl dX12_chord_148 rfl ?_
                  refine wa_iconst C (z := 2) dX12_chord_149 rfl ?_
                  refine wa_callVi C (k := 0) (As := [.int (iI 2)]) (rest := [.int (iI (x4_29 - c_40))]) (c_X12_many l K ad 2 (inR_k 2 rfl) _ h) gw_1507 gw_1504 mW_0 rfl gw_1506 gs_87 gw_12 q_X12_many rfl rfl rfl ⟨by decide, by decide⟩ rfl (Nat.le_of_ble_eq_true rfl) dX12_chord_150 (fun c_41 u9 rc_41 hp => ?_)
                  obtain ⟨rfl, h⟩ := hp
                  replace h := h rc_41
                  refine wa_isub C dX12_chord_153 ?_
                  obtain ⟨r_42, h⟩ := h
                  exact ret dX12_chord_154 r_42 ⟨_, _, _, _, _, _, rfl, h⟩
                · replace h := h.2 c_39
                  refine wa_aload_n C 0 rfl dX12_chord_108 rfl ?_
                  refine wa_iload_n C 1 rfl dX12_chord_109 rfl ?_
                  refine wa_iload C 3 rfl dX12_chord_110 ?_
                  refine wa_callVi C (k := 0) (As := [.int (iI x3_6), .int (iI x5_35)]) (rest := []) (c_X12_areNear l K ad x3_6 x5_35 rx3_6 rx5_35 _ h) gw_1373 gw_1370 mW_0 rfl gw_1372 gs_54 gw_12 q_X12_areNear rfl rfl rfl ⟨by decide, by decide⟩ rfl (Nat.le_of_ble_eq_true rfl) dX12_chord_112 (fun c_43 u9 rc_43 hp => ?_)
                  obtain ⟨bc_43, rfl, h⟩ := hp
                  replace h := h bc_43
                  obtain ⟨J_44, h, hJ_44⟩ := h
                  have k_45 : ∀ (M_lives_46 : Int) (M_state_47 : Int → Int), J_44 M_lives_46 M_state_47 → WA p l e ({ frames := 5, cells := 0, slots := 0, locals := 300 } : Room) s m args below meth c 0 0 Q K ad 6 A 134 [(0, .ref (ad 0)), (3, .int (iI x3_6)), (4, .int (iI x4_29)), (5, .int (iI x5_35))] [] (mW M_thrown_2 M_w M_h M_cells M_shape M_isBoard M_isBlank M_lives_46 M_moves_23 M_parts M_numbers M_grade M_reasons M_total M_near M_degree M_mine M_state_47 M_history_24 M_oldLives_25 M_safe M_mined M_used M_partOf M_placeOf M_partSize M_ways M_with M_masks M_rests M_bits M_reach M_more M_reason M_big M_region) := by
                    intro M_lives_46 M_state_47 h
                    replace h := hJ_44 M_lives_46 M_state_47 h
                    obtain ⟨r_48, h⟩ := h
                    refine wa_iinc C (lv' := fun w9 => [(5, .int (iI w9)), (0, .ref (ad 0)), (3, .int (iI x3_6)), (4, .int (iI x4_29))]) 3 rfl dX12_chord_134 (by decide) (fun _ => rfl) (fun x5_49 ex5_49 => ?_)
                    replace h := h x5_49 ex5_49
                    have rx5_49 : inR x5_49 := by rw [ex5_49]; exact r_48
                    refine wa_goto C (tgt := 99) dX12_chord_137 (by decide) ?_
                    obtain ⟨n_50, ln_50, h⟩ := h
                    refine wa_sub C [1, 2, 3, 0] rfl ?_
                    exact ih_33 n_50 ln_50 x5_49 M_lives_46 M_state_47 rx5_49 h
                  refine wa_if_eq C (tgt := 134) (inR_b bc_43) dX12_chord_115 (by decide) (fun c_51 => ?_) (fun c_51 => ?_)
                  · replace h := h.1 c_51
                    refine wa_sub C [0, 1, 2, 3] rfl ?_
                    exact k_45 M_lives_36 M_state_37 h
                  · replace h := h.2 c_51
                    refine wa_aload_n C 0 rfl dX12_chord_118 rfl ?_
                    refine wa_getR C 0 10 mW_0 rfl rfl (by decide) okX12 gw_1242 dX12_chord_119 ?_
                    refine wa_iload C 3 rfl dX12_chord_122 ?_
                    obtain ⟨t_52, h⟩ := h
                    refine wa_iald C 4 mW_4 dX12_chord_124 t_52.1 t_52.2 (fun v_53 ev_53 rv_53 => ?_)
                    replace h := h v_53 ev_53 rv_53
                    refine wa_if_ne C (tgt := 134) rv_53 dX12_chord_125 (by decide) (fun c_54 => ?_) (fun c_54 => ?_)
                    · replace h := h.1 c_54
                      refine wa_sub C [0, 1, 2, 3] rfl ?_
                      exact k_45 M_lives_36 M_state_37 h
                    · replace h := h.2 c_54
                      refine wa_aload_n C 0 rfl dX12_chord_128 rfl ?_
                      refine wa_iload C 3 rfl dX12_chord_129 ?_
                      refine wa_callVv C (k := 0) (As := [.int (iI x5_35)]) (rest := []) (c_X12_uncover l K ad x5_35 rx5_35 _ h) gw_1403 gw_1400 mW_0 rfl gw_1402 gs_61 gw_12 q_X12_uncover rfl rfl rfl ⟨by decide, by decide⟩ rfl (Nat.le_of_ble_eq_true rfl) dX12_chord_131 (fun u9 hp => ?_)
                      obtain ⟨M_lives_55, M_state_56, rfl, h⟩ := hp
                      refine wa_sub C [0, 1, 2, 3] rfl ?_
                      exact k_45 M_lives_55 M_state_56 h
            refine wa_sub C [3, 2, 1, 0] rfl ?_
            exact k_34 n_31 0 M_lives M_state (inR_k 0 rfl) h0Inv_30
          · replace h := h.2 c_22
            refine wa_sub C [1] rfl ?_
            exact k_10 h
  · replace h := h.2 c_3
    refine wa_iconst C (z := 0) dX12_chord_14 rfl ?_
    exact ret dX12_chord_15 (inR_k 0 rfl) ⟨_, _, _, _, _, _, rfl, h⟩
def P_X12_undo (post : Int → (Int) → (Int) → (Int) → (Int → Int) → Prop) (M_thrown : Int) (M_cells : Int) (M_isBoard : Int) (M_lives : Int) (M_moves : Int) (M_state : Int → Int) (M_history : Int → Int64) (M_oldLives : Int → Int) : Prop :=
  (¬ M_isBoard = 0 → ((¬ M_moves = 0 → (inR (M_moves - 1) ∧ (∀ M_moves_7 : Int, M_moves_7 = (M_moves - 1) → (∃ Inv_8 : Nat → (Int) → (Int → Int) → Prop, (∃ n_9 : Nat, Inv_8 n_9 0 M_state) ∧ ∀ (n_10 : Nat) (x1_13 : Int) (M_state_14 : Int → Int), inR x1_13 → Inv_8 n_10 x1_13 M_state_14 → ((M_cells ≤ x1_13 → ((0 ≤ M_moves_7 ∧ M_moves_7 < 1040) ∧ (∀ v_19 : Int, v_19 = M_oldLives M_moves_7 → inR v_19 → (post M_moves_7 0 v_19 M_moves_7 M_state_14)))) ∧ (¬ M_cells ≤ x1_13 → ((0 ≤ ((5 * M_moves_7) + (x1_13.tdiv 32)) ∧ ((5 * M_moves_7) + (x1_13.tdiv 32)) < 5200) ∧ (∀ v_23 : Int64, v_23 = M_history ((5 * M_moves_7) + (x1_13.tdiv 32)) → ((0 ≤ x1_13 ∧ x1_13 < 144) ∧ (∀ M_state_25 : Int → Int, M_state_25 = upZ M_state_14 x1_13 (l2I ((shrL v_23 (2 * (x1_13.tmod 32))) &&& (3 : Int64))) → (inR (x1_13 + 1) ∧ (∀ x1_27 : Int, x1_27 = (x1_13 + 1) → (∃ n_28 : Nat, n_28 < n_10 ∧ Inv_8 n_28 x1_27 M_state_25))))))))))))) ∧ (M_moves = 0 → (P_X12_fail (fun (c_29 : Int) (M_thrown_30 : Int) => inR c_29 → (post c_29 M_thrown_30 M_lives M_moves M_state)) 0 2)))) ∧ (M_isBoard = 0 → (P_X12_fail (fun (c_31 : Int) (M_thrown_32 : Int) => inR c_31 → (post c_31 M_thrown_32 M_lives M_moves M_state)) 0 1))
set_option maxRecDepth 100000 in
set_option maxHeartbeats 4000000 in
theorem c_X12_undo (l : Launch) (K : wK) (ad : Nat → Nat) {M_thrown : Int} {M_w : Int} {M_h : Int} {M_cells : Int} {M_shape : Int} {M_isBoard : Int} {M_isBlank : Int} {M_lives : Int} {M_moves : Int} {M_parts : Int} {M_numbers : Int} {M_grade : Int} {M_reasons : Int} {M_total : Int} {M_near : Int → Int} {M_degree : Int → Int} {M_mine : Int → Int} {M_state : Int → Int} {M_history : Int → Int64} {M_oldLives : Int → Int} {M_safe : Int → Int} {M_mined : Int → Int} {M_used : Int → Int} {M_partOf : Int → Int} {M_placeOf : Int → Int} {M_partSize : Int → Int} {M_ways : Int → Int} {M_with : Int → Int} {M_masks : Int → Int} {M_rests : Int → Int} {M_bits : Int → Int} {M_reach : Int → Int} {M_more : Int → Int} {M_reason : Int → Int} {M_big : Int → Int64} {M_region : Int → Int}   (post : Int → (Int) → (Int) → (Int) → (Int → Int) → Prop) (h : P_X12_undo post M_thrown M_cells M_isBoard M_lives M_moves M_state M_history M_oldLives) : mI l yX12_undo (Cond.code yX12_undo cX12_undo 2 (some .int) :: GT) ({ frames := 3, cells := 0, slots := 0, locals := 180 } : Room) [.ref (ad 0)] K ad (mW M_thrown M_w M_h M_cells M_shape M_isBoard M_isBlank M_lives M_moves M_parts M_numbers M_grade M_reasons M_total M_near M_degree M_mine M_state M_history M_oldLives M_safe M_mined M_used M_partOf M_placeOf M_partSize M_ways M_with M_masks M_rests M_bits M_reach M_more M_reason M_big M_region) (fun z9 u9 => ∃ M_thrown9 M_lives9 M_moves9 M_state9, u9 = (mW M_thrown9 M_w M_h M_cells M_shape M_isBoard M_isBlank M_lives9 M_moves9 M_parts M_numbers M_grade M_reasons M_total M_near M_degree M_mine M_state9 M_history M_oldLives M_safe M_mined M_used M_partOf M_placeOf M_partSize M_ways M_with M_masks M_rests M_bits M_reach M_more M_reason M_big M_region) ∧ post z9 M_thrown9 M_lives9 M_moves9 M_state9) := by
  refine mI_of (lv0 := [(0, .ref (ad 0))]) (by decide) (Nat.le_of_ble_eq_true rfl) rfl ?_
  intro p e s m args below meth c Q A C ret
  replace C : Cx p ({ frames := 3, cells := 0, slots := 0, locals := 180 } : Room) m c 0 0 cX12_undo 2 s args RX12 K A := C
  unfold P_X12_undo at h
  refine wa_aload_n C 0 rfl dX12_undo_0 rfl ?_
  refine wa_iconst C (z := 0) dX12_undo_1 rfl ?_
  refine wa_putI C (ws' := (mW 0 M_w M_h M_cells M_shape M_isBoard M_isBlank M_lives M_moves M_parts M_numbers M_grade M_reasons M_total M_near M_degree M_mine M_state M_history M_oldLives M_safe M_mined M_used M_partOf M_placeOf M_partSize M_ways M_with M_masks M_rests M_bits M_reach M_more M_reason M_big M_region)) 0 0 mW_0 rfl (by decide) okX12 gw_1232 rfl rfl (Nat.le_of_ble_eq_true rfl) (inR_k 0 rfl) (mWp_0_0 _) dX12_undo_2 ?_
  refine wa_aload_n C 0 rfl dX12_undo_5 rfl ?_
  refine wa_getZ C 0 5 mW_0 rfl rfl (by decide) okX12 gw_1237 dX12_undo_6 (fun r_1 => ?_)
  refine wa_if_ne C (tgt := 18) (inR_b r_1) dX12_undo_9 (by decide) (fun c_2 => ?_) (fun c_2 => ?_)
  · replace h := h.1 c_2
    refine wa_aload_n C 0 rfl dX12_undo_18 rfl ?_
    refine wa_getI C 0 12 mW_0 rfl rfl (by decide) okX12 gw_1244 dX12_undo_19 (fun r_3 => ?_)
    refine wa_if_ne C (tgt := 31) r_3 dX12_undo_22 (by decide) (fun c_4 => ?_) (fun c_4 => ?_)
    · replace h := h.1 c_4
      refine wa_aload_n C 0 rfl dX12_undo_31 rfl ?_
      refine wa_dup C dX12_undo_32 rfl ?_
      refine wa_getI C 0 12 mW_0 rfl rfl (by decide) okX12 gw_1244 dX12_undo_33 (fun r_5 => ?_)
      refine wa_iconst C (z := 1) dX12_undo_36 rfl ?_
      refine wa_isub C dX12_undo_37 ?_
      obtain ⟨r_6, h⟩ := h
      refine wa_nmi (fun M_moves_7 eM_moves_7 => ?_)
      replace h := h M_moves_7 eM_moves_7
      have rM_moves_7 : inR M_moves_7 := by rw [eM_moves_7]; exact r_6
      refine wa_putI C (ws' := (mW 0 M_w M_h M_cells M_shape M_isBoard M_isBlank M_lives M_moves_7 M_parts M_numbers M_grade M_reasons M_total M_near M_degree M_mine M_state M_history M_oldLives M_safe M_mined M_used M_partOf M_placeOf M_partSize M_ways M_with M_masks M_rests M_bits M_reach M_more M_reason M_big M_region)) 0 12 mW_0 rfl (by decide) okX12 gw_1244 rfl rfl (Nat.le_of_ble_eq_true rfl) rM_moves_7 (mWp_0_12 _) dX12_undo_38 ?_
      refine wa_iconst C (z := 0) dX12_undo_41 rfl ?_
      refine wa_istore_n C dX12_undo_42 rfl (by decide) rfl ?_
      obtain ⟨Inv_8, ⟨n_9, h0Inv_8⟩, hInv_8⟩ := h
      have k_12 : ∀ (n_10 : Nat) (x1_13 : Int) (M_state_14 : Int → Int), inR x1_13 → Inv_8 n_10 x1_13 M_state_14 → WA p l e ({ frames := 3, cells := 0, slots := 0, locals := 180 } : Room) s m args below meth c 0 0 Q K ad 2 A 43 [(0, .ref (ad 0)), (1, .int (iI x1_13))] [] (mW 0 M_w M_h M_cells M_shape M_isBoard M_isBlank M_lives M_moves_7 M_parts M_numbers M_grade M_reasons M_total M_near M_degree M_mine M_state_14 M_history M_oldLives M_safe M_mined M_used M_partOf M_placeOf M_partSize M_ways M_with M_masks M_rests M_bits M_reach M_more M_reason M_big M_region) := by
        intro n_10
        induction n_10 using Nat.strongRecOn with
        | ind n_10 ih_11 =>
          intro x1_13 M_state_14 rx1_13 h
          replace h := hInv_8 n_10 x1_13 M_state_14 rx1_13 h
          refine wa_iload_n C 1 rfl dX12_undo_43 rfl ?_
          refine wa_aload_n C 0 rfl dX12_undo_44 rfl ?_
          refine wa_getI C 0 3 mW_0 rfl rfl (by decide) okX12 gw_1235 dX12_undo_45 (fun r_15 => ?_)
          refine wa_icmp_ge C (tgt := 91) rx1_13 r_15 dX12_undo_48 (by decide) (fun c_16 => ?_) (fun c_16 => ?_)
          · replace h := h.1 c_16
            refine wa_aload_n C 0 rfl dX12_undo_91 rfl ?_
            refine wa_aload_n C 0 rfl dX12_undo_92 rfl ?_
            refine wa_getR C 0 14 mW_0 rfl rfl (by decide) okX12 gw_1246 dX12_undo_93 ?_
            refine wa_aload_n C 0 rfl dX12_undo_96 rfl ?_
            refine wa_getI C 0 12 mW_0 rfl rfl (by decide) okX12 gw_1244 dX12_undo_97 (fun r_17 => ?_)
            obtain ⟨t_18, h⟩ := h
            refine wa_iald C 6 mW_6 dX12_undo_100 t_18.1 t_18.2 (fun v_19 ev_19 rv_19 => ?_)
            replace h := h v_19 ev_19 rv_19
            refine wa_putI C (ws' := (mW 0 M_w M_h M_cells M_shape M_isBoard M_isBlank v_19 M_moves_7 M_parts M_numbers M_grade M_reasons M_total M_near M_degree M_mine M_state_14 M_history M_oldLives M_safe M_mined M_used M_partOf M_placeOf M_partSize M_ways M_with M_masks M_rests M_bits M_reach M_more M_reason M_big M_region)) 0 11 mW_0 rfl (by decide) okX12 gw_1243 rfl rfl (Nat.le_of_ble_eq_true rfl) rv_19 (mWp_0_11 _) dX12_undo_101 ?_
            refine wa_aload_n C 0 rfl dX12_undo_104 rfl ?_
            refine wa_getI C 0 12 mW_0 rfl rfl (by decide) okX12 gw_1244 dX12_undo_105 (fun r_20 => ?_)
            exact ret dX12_undo_108 rM_moves_7 ⟨_, _, _, _, rfl, h⟩
          · replace h := h.2 c_16
            refine wa_aload_n C 0 rfl dX12_undo_51 rfl ?_
            refine wa_getR C 0 10 mW_0 rfl rfl (by decide) okX12 gw_1242 dX12_undo_52 ?_
            refine wa_iload_n C 1 rfl dX12_undo_55 rfl ?_
            refine wa_aload_n C 0 rfl dX12_undo_56 rfl ?_
            refine wa_getR C 0 13 mW_0 rfl rfl (by decide) okX12 gw_1245 dX12_undo_57 ?_
            refine wa_iconst C (z := 5) dX12_undo_60 rfl ?_
            refine wa_aload_n C 0 rfl dX12_undo_61 rfl ?_
            refine wa_getI C 0 12 mW_0 rfl rfl (by decide) okX12 gw_1244 dX12_undo_62 (fun r_21 => ?_)
            refine wa_imul C dX12_undo_65 ?_
            refine wa_iload_n C 1 rfl dX12_undo_66 rfl ?_
            refine wa_bipush C (z := 32) dX12_undo_67 (by decide) ?_
            refine wa_idiv C dX12_undo_69 rx1_13 (inR_k 32 rfl) (by decide) ?_
            refine wa_iadd C dX12_undo_70 ?_
            obtain ⟨t_22, h⟩ := h
            refine wa_lald C 5 mW_5 dX12_undo_71 t_22.1 t_22.2 (fun v_23 ev_23 => ?_)
            replace h := h v_23 ev_23
            refine wa_iconst C (z := 2) dX12_undo_72 rfl ?_
            refine wa_iload_n C 1 rfl dX12_undo_73 rfl ?_
            refine wa_bipush C (z := 32) dX12_undo_74 (by decide) ?_
            refine wa_irem C dX12_undo_76 rx1_13 (inR_k 32 rfl) (by decide) ?_
            refine wa_imul C dX12_undo_77 ?_
            refine wa_lshr C dX12_undo_78 ?_
            refine wa_ldc2 C gw_1564 dX12_undo_79 ?_
            refine wa_land C dX12_undo_82 ?_
            refine wa_l2i C dX12_undo_83 ?_
            obtain ⟨t_24, h⟩ := h
            refine wa_iast C (ws' := fun w9 => (mW 0 M_w M_h M_cells M_shape M_isBoard M_isBlank M_lives M_moves_7 M_parts M_numbers M_grade M_reasons M_total M_near M_degree M_mine w9 M_history M_oldLives M_safe M_mined M_used M_partOf M_placeOf M_partSize M_ways M_with M_masks M_rests M_bits M_reach M_more M_reason M_big M_region)) 4 mW_4 dX12_undo_84 t_24.1 t_24.2 (l2I_r _) mWs_4 (fun M_state_25 eM_state_25 => ?_)
            replace h := h M_state_25 eM_state_25
            obtain ⟨r_26, h⟩ := h
            refine wa_iinc C (lv' := fun w9 => [(1, .int (iI w9)), (0, .ref (ad 0))]) 1 rfl dX12_undo_85 (by decide) (fun _ => rfl) (fun x1_27 ex1_27 => ?_)
            replace h := h x1_27 ex1_27
            have rx1_27 : inR x1_27 := by rw [ex1_27]; exact r_26
            refine wa_goto C (tgt := 43) dX12_undo_88 (by decide) ?_
            obtain ⟨n_28, ln_28, h⟩ := h
            refine wa_sub C [1, 0] rfl ?_
            exact ih_11 n_28 ln_28 x1_27 M_state_25 rx1_27 h
      refine wa_sub C [1, 0] rfl ?_
      exact k_12 n_9 0 M_state (inR_k 0 rfl) h0Inv_8
    · replace h := h.2 c_4
      refine wa_aload_n C 0 rfl dX12_undo_25 rfl ?_
      refine wa_iconst C (z := 2) dX12_undo_26 rfl ?_
      refine wa_callVi C (k := 0) (As := [.int (iI 2)]) (rest := []) (c_X12_fail l K ad 2 (inR_k 2 rfl) _ h) gw_1365 gw_1362 mW_0 rfl gw_1364 gs_52 gw_12 q_X12_fail rfl rfl rfl ⟨by decide, by decide⟩ rfl (Nat.le_of_ble_eq_true rfl) dX12_undo_27 (fun c_29 u9 rc_29 hp => ?_)
      obtain ⟨M_thrown_30, rfl, h⟩ := hp
      replace h := h rc_29
      exact ret dX12_undo_30 rc_29 ⟨_, _, _, _, rfl, h⟩
  · replace h := h.2 c_2
    refine wa_aload_n C 0 rfl dX12_undo_12 rfl ?_
    refine wa_iconst C (z := 1) dX12_undo_13 rfl ?_
    refine wa_callVi C (k := 0) (As := [.int (iI 1)]) (rest := []) (c_X12_fail l K ad 1 (inR_k 1 rfl) _ h) gw_1365 gw_1362 mW_0 rfl gw_1364 gs_52 gw_12 q_X12_fail rfl rfl rfl ⟨by decide, by decide⟩ rfl (Nat.le_of_ble_eq_true rfl) dX12_undo_14 (fun c_31 u9 rc_31 hp => ?_)
    obtain ⟨M_thrown_32, rfl, h⟩ := hp
    replace h := h rc_31
    exact ret dX12_undo_17 rc_31 ⟨_, _, _, _, rfl, h⟩
def P_X12_shown (post : Int → (Int) → Prop) (M_thrown : Int) (M_w : Int) (M_h : Int) (M_isBoard : Int) (M_near : Int → Int) (M_degree : Int → Int) (M_mine : Int → Int) (M_state : Int → Int) (x1 : Int) (x2 : Int) : Prop :=
  P_X12_has (fun (c_1 : Int) (M_thrown_2 : Int) => (c_1 = 0 ∨ c_1 = 1) → ((¬ c_1 = 0 → (inR ((M_w * x1) + x2) ∧ (∀ x3_6 : Int, x3_6 = ((M_w * x1) + x2) → ((0 ≤ x3_6 ∧ x3_6 < 144) ∧ (∀ v_8 : Int, v_8 = M_state x3_6 → inR v_8 → (∃ J_9 : (Int) → Prop, ((¬ v_8 = 1 → ((0 ≤ x3_6 ∧ x3_6 < 144) ∧ (∀ v_14 : Int, v_14 = M_state x3_6 → inR v_14 → ((¬ v_14 = 0 → ((0 ≤ x3_6 ∧ x3_6 < 144) ∧ (∀ v_17 : Int, v_17 = M_state x3_6 → inR v_17 → ((¬ v_17 = 2 → (J_9 12)) ∧ (v_17 = 2 → (J_9 11)))))) ∧ (v_14 = 0 → (J_9 10)))))) ∧ (v_8 = 1 → (P_X12_numberOf (fun (c_19 : Int) => inR c_19 → (J_9 c_19)) M_near M_degree M_mine x3_6))) ∧ (∀ (z_11 : Int), inR z_11 → J_9 z_11 → (post z_11 M_thrown_2)))))))) ∧ (c_1 = 0 → (post 0 M_thrown_2)))) 0 M_w M_h M_isBoard x1 x2
set_option maxRecDepth 100000 in
set_option maxHeartbeats 4000000 in
theorem c_X12_shown (l : Launch) (K : wK) (ad : Nat → Nat) {M_thrown : Int} {M_w : Int} {M_h : Int} {M_cells : Int} {M_shape : Int} {M_isBoard : Int} {M_isBlank : Int} {M_lives : Int} {M_moves : Int} {M_parts : Int} {M_numbers : Int} {M_grade : Int} {M_reasons : Int} {M_total : Int} {M_near : Int → Int} {M_degree : Int → Int} {M_mine : Int → Int} {M_state : Int → Int} {M_history : Int → Int64} {M_oldLives : Int → Int} {M_safe : Int → Int} {M_mined : Int → Int} {M_used : Int → Int} {M_partOf : Int → Int} {M_placeOf : Int → Int} {M_partSize : Int → Int} {M_ways : Int → Int} {M_with : Int → Int} {M_masks : Int → Int} {M_rests : Int → Int} {M_bits : Int → Int} {M_reach : Int → Int} {M_more : Int → Int} {M_reason : Int → Int} {M_big : Int → Int64} {M_region : Int → Int} (x1 : Int) (x2 : Int) (rx1 : inR x1) (rx2 : inR x2) (post : Int → (Int) → Prop) (h : P_X12_shown post M_thrown M_w M_h M_isBoard M_near M_degree M_mine M_state x1 x2) : mI l yX12_shown (Cond.code yX12_shown cX12_shown 4 (some .int) :: GT) ({ frames := 5, cells := 0, slots := 0, locals := 300 } : Room) [.ref (ad 0), .int (iI x1), .int (iI x2)] K ad (mW M_thrown M_w M_h M_cells M_shape M_isBoard M_isBlank M_lives M_moves M_parts M_numbers M_grade M_reasons M_total M_near M_degree M_mine M_state M_history M_oldLives M_safe M_mined M_used M_partOf M_placeOf M_partSize M_ways M_with M_masks M_rests M_bits M_reach M_more M_reason M_big M_region) (fun z9 u9 => ∃ M_thrown9, u9 = (mW M_thrown9 M_w M_h M_cells M_shape M_isBoard M_isBlank M_lives M_moves M_parts M_numbers M_grade M_reasons M_total M_near M_degree M_mine M_state M_history M_oldLives M_safe M_mined M_used M_partOf M_placeOf M_partSize M_ways M_with M_masks M_rests M_bits M_reach M_more M_reason M_big M_region) ∧ post z9 M_thrown9) := by
  refine mI_of (lv0 := [(0, .ref (ad 0)), (1, .int (iI x1)), (2, .int (iI x2))]) (by decide) (Nat.le_of_ble_eq_true rfl) rfl ?_
  intro p e s m args below meth c Q A C ret
  replace C : Cx p ({ frames := 5, cells := 0, slots := 0, locals := 300 } : Room) m c 0 0 cX12_shown 4 s args RX12 K A := C
  unfold P_X12_shown at h
  refine wa_aload_n C 0 rfl dX12_shown_0 rfl ?_
  refine wa_iconst C (z := 0) dX12_shown_1 rfl ?_
  refine wa_putI C (ws' := (mW 0 M_w M_h M_cells M_shape M_isBoard M_isBlank M_lives M_moves M_parts M_numbers M_grade M_reasons M_total M_near M_degree M_mine M_state M_history M_oldLives M_safe M_mined M_used M_partOf M_placeOf M_partSize M_ways M_with M_masks M_rests M_bits M_reach M_more M_reason M_big M_region)) 0 0 mW_0 rfl (by decide) okX12 gw_1232 rfl rfl (Nat.le_of_ble_eq_true rfl) (inR_k 0 rfl) (mWp_0_0 _) dX12_shown_2 ?_
  refine wa_aload_n C 0 rfl dX12_shown_5 rfl ?_
  refine wa_iload_n C 1 rfl dX12_shown_6 rfl ?_
  refine wa_iload_n C 2 rfl dX12_shown_7 rfl ?_
  refine wa_callVi C (k := 0) (As := [.int (iI x1), .int (iI x2)]) (rest := []) (c_X12_has l K ad x1 x2 rx1 rx2 _ h) gw_1539 gw_1536 mW_0 rfl gw_1538 gs_93 gw_12 q_X12_has rfl rfl rfl ⟨by decide, by decide⟩ rfl (Nat.le_of_ble_eq_true rfl) dX12_shown_8 (fun c_1 u9 rc_1 hp => ?_)
  obtain ⟨bc_1, M_thrown_2, rfl, h⟩ := hp
  replace h := h bc_1
  refine wa_if_ne C (tgt := 16) (inR_b bc_1) dX12_shown_11 (by decide) (fun c_3 => ?_) (fun c_3 => ?_)
  · replace h := h.1 c_3
    refine wa_aload_n C 0 rfl dX12_shown_16 rfl ?_
    refine wa_getI C 0 1 mW_0 rfl rfl (by decide) okX12 gw_1233 dX12_shown_17 (fun r_4 => ?_)
    refine wa_iload_n C 1 rfl dX12_shown_20 rfl ?_
    refine wa_imul C dX12_shown_21 ?_
    refine wa_iload_n C 2 rfl dX12_shown_22 rfl ?_
    refine wa_iadd C dX12_shown_23 ?_
    obtain ⟨r_5, h⟩ := h
    refine wa_nmi (fun x3_6 ex3_6 => ?_)
    replace h := h x3_6 ex3_6
    have rx3_6 : inR x3_6 := by rw [ex3_6]; exact r_5
    refine wa_istore_n C dX12_shown_24 rfl (by decide) rfl ?_
    refine wa_aload_n C 1 rfl dX12_shown_25 rfl ?_
    refine wa_getR C 0 10 mW_0 rfl rfl (by decide) okX12 gw_1242 dX12_shown_26 ?_
    refine wa_iload_n C 0 rfl dX12_shown_29 rfl ?_
    obtain ⟨t_7, h⟩ := h
    refine wa_iald C 4 mW_4 dX12_shown_30 t_7.1 t_7.2 (fun v_8 ev_8 rv_8 => ?_)
    replace h := h v_8 ev_8 rv_8
    refine wa_iconst C (z := 1) dX12_shown_31 rfl ?_
    obtain ⟨J_9, h, hJ_9⟩ := h
    have k_10 : ∀ (z_11 : Int), inR z_11 → J_9 z_11 → WA p l e ({ frames := 5, cells := 0, slots := 0, locals := 300 } : Room) s m args below meth c 0 0 Q K ad 4 A 74 [] [.int (iI z_11)] (mW M_thrown_2 M_w M_h M_cells M_shape M_isBoard M_isBlank M_lives M_moves M_parts M_numbers M_grade M_reasons M_total M_near M_degree M_mine M_state M_history M_oldLives M_safe M_mined M_used M_partOf M_placeOf M_partSize M_ways M_with M_masks M_rests M_bits M_reach M_more M_reason M_big M_region) := by
      intro z_11 rz_11 h
      replace h := hJ_9 z_11 rz_11 h
      exact ret dX12_shown_74 rz_11 ⟨_, rfl, h⟩
    refine wa_icmp_ne C (tgt := 43) rv_8 (inR_k 1 rfl) dX12_shown_32 (by decide) (fun c_12 => ?_) (fun c_12 => ?_)
    · replace h := h.1 c_12
      refine wa_aload_n C 1 rfl dX12_shown_43 rfl ?_
      refine wa_getR C 0 10 mW_0 rfl rfl (by decide) okX12 gw_1242 dX12_shown_44 ?_
      refine wa_iload_n C 0 rfl dX12_shown_47 rfl ?_
      obtain ⟨t_13, h⟩ := h
      refine wa_iald C 4 mW_4 dX12_shown_48 t_13.1 t_13.2 (fun v_14 ev_14 rv_14 => ?_)
      replace h := h v_14 ev_14 rv_14
      refine wa_if_ne C (tgt := 57) rv_14 dX12_shown_49 (by decide) (fun c_15 => ?_) (fun c_15 => ?_)
      · replace h := h.1 c_15
        refine wa_aload_n C 1 rfl dX12_shown_57 rfl ?_
        refine wa_getR C 0 10 mW_0 rfl rfl (by decide) okX12 gw_1242 dX12_shown_58 ?_
        refine wa_iload_n C 0 rfl dX12_shown_61 rfl ?_
        obtain ⟨t_16, h⟩ := h
        refine wa_iald C 4 mW_4 dX12_shown_62 t_16.1 t_16.2 (fun v_17 ev_17 rv_17 => ?_)
        replace h := h v_17 ev_17 rv_17
        refine wa_iconst C (z := 2) dX12_shown_63 rfl ?_
        refine wa_icmp_ne C (tgt := 72) rv_17 (inR_k 2 rfl) dX12_shown_64 (by decide) (fun c_18 => ?_) (fun c_18 => ?_)
        · replace h := h.1 c_18
          refine wa_bipush C (z := 12) dX12_shown_72 (by decide) ?_
          refine wa_sub C [] rfl ?_
          exact k_10 12 (inR_k 12 rfl) h
        · replace h := h.2 c_18
          refine wa_bipush C (z := 11) dX12_shown_67 (by decide) ?_
          refine wa_goto C (tgt := 74) dX12_shown_69 (by decide) ?_
          refine wa_sub C [] rfl ?_
          exact k_10 11 (inR_k 11 rfl) h
      · replace h := h.2 c_15
        refine wa_bipush C (z := 10) dX12_shown_52 (by decide) ?_
        refine wa_goto C (tgt := 74) dX12_shown_54 (by decide) ?_
        refine wa_sub C [] rfl ?_
        exact k_10 10 (inR_k 10 rfl) h
    · replace h := h.2 c_12
      refine wa_aload_n C 1 rfl dX12_shown_35 rfl ?_
      refine wa_iload_n C 0 rfl dX12_shown_36 rfl ?_
      refine wa_callVi C (k := 0) (As := [.int (iI x3_6)]) (rest := []) (c_X12_numberOf l K ad x3_6 rx3_6 _ h) gw_1407 gw_1404 mW_0 rfl gw_1406 gs_62 gw_12 q_X12_numberOf rfl rfl rfl ⟨by decide, by decide⟩ rfl (Nat.le_of_ble_eq_true rfl) dX12_shown_37 (fun c_19 u9 rc_19 hp => ?_)
      obtain ⟨rfl, h⟩ := hp
      replace h := h rc_19
      refine wa_goto C (tgt := 74) dX12_shown_40 (by decide) ?_
      refine wa_sub C [] rfl ?_
      exact k_10 c_19 rc_19 h
  · replace h := h.2 c_3
    refine wa_iconst C (z := 0) dX12_shown_14 rfl ?_
    exact ret dX12_shown_15 (inR_k 0 rfl) ⟨_, rfl, h⟩
