theorem dX0_forget_0 : decode cX0_forget 0 = .ok (.aload_n 0, 1) := by decide +kernel
theorem dX0_forget_1 : decode cX0_forget 1 = .ok (.iconst 0, 1) := by decide +kernel
theorem dX0_forget_2 : decode cX0_forget 2 = .ok (.putfield 37, 3) := by decide +kernel
theorem dX0_forget_5 : decode cX0_forget 5 = .ok (.aload_n 0, 1) := by decide +kernel
theorem dX0_forget_6 : decode cX0_forget 6 = .ok (.iconst (-1), 1) := by decide +kernel
theorem dX0_forget_7 : decode cX0_forget 7 = .ok (.putfield 41, 3) := by decide +kernel
theorem dX0_forget_10 : decode cX0_forget 10 = .ok (.aload_n 0, 1) := by decide +kernel
theorem dX0_forget_11 : decode cX0_forget 11 = .ok (.iconst 0, 1) := by decide +kernel
theorem dX0_forget_12 : decode cX0_forget 12 = .ok (.putfield 44, 3) := by decide +kernel
theorem dX0_forget_15 : decode cX0_forget 15 = .ok (.aload_n 0, 1) := by decide +kernel
theorem dX0_forget_16 : decode cX0_forget 16 = .ok (.iconst 0, 1) := by decide +kernel
theorem dX0_forget_17 : decode cX0_forget 17 = .ok (.putfield 48, 3) := by decide +kernel
theorem dX0_forget_20 : decode cX0_forget 20 = .ok (.aload_n 0, 1) := by decide +kernel
theorem dX0_forget_21 : decode cX0_forget 21 = .ok (.iconst 0, 1) := by decide +kernel
theorem dX0_forget_22 : decode cX0_forget 22 = .ok (.putfield 51, 3) := by decide +kernel
theorem dX0_forget_25 : decode cX0_forget 25 = .ok (.return_, 1) := by decide +kernel
theorem dX0_firstToTell_0 : decode cX0_firstToTell 0 = .ok (.iconst 0, 1) := by decide +kernel
theorem dX0_firstToTell_1 : decode cX0_firstToTell 1 = .ok (.istore_n 1, 1) := by decide +kernel
theorem dX0_firstToTell_2 : decode cX0_firstToTell 2 = .ok (.iload_n 1, 1) := by decide +kernel
theorem dX0_firstToTell_3 : decode cX0_firstToTell 3 = .ok (.aload_n 0, 1) := by decide +kernel
theorem dX0_firstToTell_4 : decode cX0_firstToTell 4 = .ok (.getfield 29, 3) := by decide +kernel
theorem dX0_firstToTell_7 : decode cX0_firstToTell 7 = .ok (.getfield 90, 3) := by decide +kernel
theorem dX0_firstToTell_10 : decode cX0_firstToTell 10 = .ok (.getfield 96, 3) := by decide +kernel
theorem dX0_firstToTell_13 : decode cX0_firstToTell 13 = .ok (.if_icmp .ge 44, 3) := by decide +kernel
theorem dX0_firstToTell_16 : decode cX0_firstToTell 16 = .ok (.aload_n 0, 1) := by decide +kernel
theorem dX0_firstToTell_17 : decode cX0_firstToTell 17 = .ok (.getfield 15, 3) := by decide +kernel
theorem dX0_firstToTell_20 : decode cX0_firstToTell 20 = .ok (.getfield 65, 3) := by decide +kernel
theorem dX0_firstToTell_23 : decode cX0_firstToTell 23 = .ok (.iload_n 1, 1) := by decide +kernel
theorem dX0_firstToTell_24 : decode cX0_firstToTell 24 = .ok (.iaload, 1) := by decide +kernel
theorem dX0_firstToTell_25 : decode cX0_firstToTell 25 = .ok (.istore_n 2, 1) := by decide +kernel
theorem dX0_firstToTell_26 : decode cX0_firstToTell 26 = .ok (.iload_n 2, 1) := by decide +kernel
theorem dX0_firstToTell_27 : decode cX0_firstToTell 27 = .ok (.iconst 1, 1) := by decide +kernel
theorem dX0_firstToTell_28 : decode cX0_firstToTell 28 = .ok (.if_icmp .eq 21, 3) := by decide +kernel
theorem dX0_firstToTell_31 : decode cX0_firstToTell 31 = .ok (.iload_n 2, 1) := by decide +kernel
theorem dX0_firstToTell_32 : decode cX0_firstToTell 32 = .ok (.iconst 2, 1) := by decide +kernel
theorem dX0_firstToTell_33 : decode cX0_firstToTell 33 = .ok (.if_icmp .ne 18, 3) := by decide +kernel
theorem dX0_firstToTell_36 : decode cX0_firstToTell 36 = .ok (.aload_n 0, 1) := by decide +kernel
theorem dX0_firstToTell_37 : decode cX0_firstToTell 37 = .ok (.getfield 29, 3) := by decide +kernel
theorem dX0_firstToTell_40 : decode cX0_firstToTell 40 = .ok (.getfield 115, 3) := by decide +kernel
theorem dX0_firstToTell_43 : decode cX0_firstToTell 43 = .ok (.iload_n 1, 1) := by decide +kernel
theorem dX0_firstToTell_44 : decode cX0_firstToTell 44 = .ok (.iaload, 1) := by decide +kernel
theorem dX0_firstToTell_45 : decode cX0_firstToTell 45 = .ok (.iconst 1, 1) := by decide +kernel
theorem dX0_firstToTell_46 : decode cX0_firstToTell 46 = .ok (.if_icmp .eq 5, 3) := by decide +kernel
theorem dX0_firstToTell_49 : decode cX0_firstToTell 49 = .ok (.iload_n 1, 1) := by decide +kernel
theorem dX0_firstToTell_50 : decode cX0_firstToTell 50 = .ok (.ireturn, 1) := by decide +kernel
theorem dX0_firstToTell_51 : decode cX0_firstToTell 51 = .ok (.iinc 1 1, 3) := by decide +kernel
theorem dX0_firstToTell_54 : decode cX0_firstToTell 54 = .ok (.goto (-52), 3) := by decide +kernel
theorem dX0_firstToTell_57 : decode cX0_firstToTell 57 = .ok (.iconst (-1), 1) := by decide +kernel
theorem dX0_firstToTell_58 : decode cX0_firstToTell 58 = .ok (.ireturn, 1) := by decide +kernel
theorem dX0_seek_0 : decode cX0_seek 0 = .ok (.aload_n 0, 1) := by decide +kernel
theorem dX0_seek_1 : decode cX0_seek 1 = .ok (.invokevirtual 54, 3) := by decide +kernel
theorem dX0_seek_4 : decode cX0_seek 4 = .ok (.iconst 1, 1) := by decide +kernel
theorem dX0_seek_5 : decode cX0_seek 5 = .ok (.istore_n 1, 1) := by decide +kernel
theorem dX0_seek_6 : decode cX0_seek 6 = .ok (.iload_n 1, 1) := by decide +kernel
theorem dX0_seek_7 : decode cX0_seek 7 = .ok (.iconst 3, 1) := by decide +kernel
theorem dX0_seek_8 : decode cX0_seek 8 = .ok (.if_icmp .gt 50, 3) := by decide +kernel
theorem dX0_seek_11 : decode cX0_seek 11 = .ok (.aload_n 0, 1) := by decide +kernel
theorem dX0_seek_12 : decode cX0_seek 12 = .ok (.getfield 41, 3) := by decide +kernel
theorem dX0_seek_15 : decode cX0_seek 15 = .ok (.iconst (-1), 1) := by decide +kernel
theorem dX0_seek_16 : decode cX0_seek 16 = .ok (.if_icmp .ne 42, 3) := by decide +kernel
theorem dX0_seek_19 : decode cX0_seek 19 = .ok (.aload_n 0, 1) := by decide +kernel
theorem dX0_seek_20 : decode cX0_seek 20 = .ok (.getfield 15, 3) := by decide +kernel
theorem dX0_seek_23 : decode cX0_seek 23 = .ok (.iload_n 1, 1) := by decide +kernel
theorem dX0_seek_24 : decode cX0_seek 24 = .ok (.invokevirtual 57, 3) := by decide +kernel
theorem dX0_seek_27 : decode cX0_seek 27 = .ok (.aload_n 0, 1) := by decide +kernel
theorem dX0_seek_28 : decode cX0_seek 28 = .ok (.aload_n 0, 1) := by decide +kernel
theorem dX0_seek_29 : decode cX0_seek 29 = .ok (.invokevirtual 61, 3) := by decide +kernel
theorem dX0_seek_32 : decode cX0_seek 32 = .ok (.putfield 41, 3) := by decide +kernel
theorem dX0_seek_35 : decode cX0_seek 35 = .ok (.aload_n 0, 1) := by decide +kernel
theorem dX0_seek_36 : decode cX0_seek 36 = .ok (.aload_n 0, 1) := by decide +kernel
theorem dX0_seek_37 : decode cX0_seek 37 = .ok (.getfield 41, 3) := by decide +kernel
theorem dX0_seek_40 : decode cX0_seek 40 = .ok (.iconst (-1), 1) := by decide +kernel
theorem dX0_seek_41 : decode cX0_seek 41 = .ok (.if_icmp .ne 7, 3) := by decide +kernel
theorem dX0_seek_44 : decode cX0_seek 44 = .ok (.iconst 0, 1) := by decide +kernel
theorem dX0_seek_45 : decode cX0_seek 45 = .ok (.goto 4, 3) := by decide +kernel
theorem dX0_seek_48 : decode cX0_seek 48 = .ok (.iload_n 1, 1) := by decide +kernel
theorem dX0_seek_49 : decode cX0_seek 49 = .ok (.putfield 37, 3) := by decide +kernel
theorem dX0_seek_52 : decode cX0_seek 52 = .ok (.iinc 1 1, 3) := by decide +kernel
theorem dX0_seek_55 : decode cX0_seek 55 = .ok (.goto (-49), 3) := by decide +kernel
theorem dX0_seek_58 : decode cX0_seek 58 = .ok (.aload_n 0, 1) := by decide +kernel
theorem dX0_seek_59 : decode cX0_seek 59 = .ok (.aload_n 0, 1) := by decide +kernel
theorem dX0_seek_60 : decode cX0_seek 60 = .ok (.getfield 41, 3) := by decide +kernel
theorem dX0_seek_63 : decode cX0_seek 63 = .ok (.iconst (-1), 1) := by decide +kernel
theorem dX0_seek_64 : decode cX0_seek 64 = .ok (.if_icmp .eq 23, 3) := by decide +kernel
theorem dX0_seek_67 : decode cX0_seek 67 = .ok (.aload_n 0, 1) := by decide +kernel
theorem dX0_seek_68 : decode cX0_seek 68 = .ok (.getfield 15, 3) := by decide +kernel
theorem dX0_seek_71 : decode cX0_seek 71 = .ok (.getfield 65, 3) := by decide +kernel
theorem dX0_seek_74 : decode cX0_seek 74 = .ok (.aload_n 0, 1) := by decide +kernel
theorem dX0_seek_75 : decode cX0_seek 75 = .ok (.getfield 41, 3) := by decide +kernel
theorem dX0_seek_78 : decode cX0_seek 78 = .ok (.iaload, 1) := by decide +kernel
theorem dX0_seek_79 : decode cX0_seek 79 = .ok (.iconst 2, 1) := by decide +kernel
theorem dX0_seek_80 : decode cX0_seek 80 = .ok (.if_icmp .ne 7, 3) := by decide +kernel
theorem dX0_seek_83 : decode cX0_seek 83 = .ok (.iconst 1, 1) := by decide +kernel
theorem dX0_seek_84 : decode cX0_seek 84 = .ok (.goto 4, 3) := by decide +kernel
theorem dX0_seek_87 : decode cX0_seek 87 = .ok (.iconst 0, 1) := by decide +kernel
theorem dX0_seek_88 : decode cX0_seek 88 = .ok (.putfield 44, 3) := by decide +kernel
theorem dX0_seek_91 : decode cX0_seek 91 = .ok (.return_, 1) := by decide +kernel
theorem dX0_keepChosen_0 : decode cX0_keepChosen 0 = .ok (.iconst 0, 1) := by decide +kernel
theorem dX0_keepChosen_1 : decode cX0_keepChosen 1 = .ok (.istore_n 1, 1) := by decide +kernel
theorem dX0_keepChosen_2 : decode cX0_keepChosen 2 = .ok (.iload_n 1, 1) := by decide +kernel
theorem dX0_keepChosen_3 : decode cX0_keepChosen 3 = .ok (.aload_n 0, 1) := by decide +kernel
theorem dX0_keepChosen_4 : decode cX0_keepChosen 4 = .ok (.getfield 29, 3) := by decide +kernel
theorem dX0_keepChosen_7 : decode cX0_keepChosen 7 = .ok (.getfield 90, 3) := by decide +kernel
theorem dX0_keepChosen_10 : decode cX0_keepChosen 10 = .ok (.getfield 96, 3) := by decide +kernel
theorem dX0_keepChosen_13 : decode cX0_keepChosen 13 = .ok (.if_icmp .ge 41, 3) := by decide +kernel
theorem dX0_keepChosen_16 : decode cX0_keepChosen 16 = .ok (.aload_n 0, 1) := by decide +kernel
theorem dX0_keepChosen_17 : decode cX0_keepChosen 17 = .ok (.getfield 36, 3) := by decide +kernel
theorem dX0_keepChosen_20 : decode cX0_keepChosen 20 = .ok (.getfield 101, 3) := by decide +kernel
theorem dX0_keepChosen_23 : decode cX0_keepChosen 23 = .ok (.iload_n 1, 1) := by decide +kernel
theorem dX0_keepChosen_24 : decode cX0_keepChosen 24 = .ok (.baload, 1) := by decide +kernel
theorem dX0_keepChosen_25 : decode cX0_keepChosen 25 = .ok (.ifCond .eq 23, 3) := by decide +kernel
theorem dX0_keepChosen_28 : decode cX0_keepChosen 28 = .ok (.aload_n 0, 1) := by decide +kernel
theorem dX0_keepChosen_29 : decode cX0_keepChosen 29 = .ok (.getfield 9, 3) := by decide +kernel
theorem dX0_keepChosen_32 : decode cX0_keepChosen 32 = .ok (.aload_n 0, 1) := by decide +kernel
theorem dX0_keepChosen_33 : decode cX0_keepChosen 33 = .ok (.getfield 51, 3) := by decide +kernel
theorem dX0_keepChosen_36 : decode cX0_keepChosen 36 = .ok (.iload_n 1, 1) := by decide +kernel
theorem dX0_keepChosen_37 : decode cX0_keepChosen 37 = .ok (.iastore, 1) := by decide +kernel
theorem dX0_keepChosen_38 : decode cX0_keepChosen 38 = .ok (.aload_n 0, 1) := by decide +kernel
theorem dX0_keepChosen_39 : decode cX0_keepChosen 39 = .ok (.dup, 1) := by decide +kernel
theorem dX0_keepChosen_40 : decode cX0_keepChosen 40 = .ok (.getfield 51, 3) := by decide +kernel
theorem dX0_keepChosen_43 : decode cX0_keepChosen 43 = .ok (.iconst 1, 1) := by decide +kernel
theorem dX0_keepChosen_44 : decode cX0_keepChosen 44 = .ok (.iadd, 1) := by decide +kernel
theorem dX0_keepChosen_45 : decode cX0_keepChosen 45 = .ok (.putfield 51, 3) := by decide +kernel
theorem dX0_keepChosen_48 : decode cX0_keepChosen 48 = .ok (.iinc 1 1, 3) := by decide +kernel
theorem dX0_keepChosen_51 : decode cX0_keepChosen 51 = .ok (.goto (-49), 3) := by decide +kernel
theorem dX0_keepChosen_54 : decode cX0_keepChosen 54 = .ok (.return_, 1) := by decide +kernel
theorem dX0_explain_0 : decode cX0_explain 0 = .ok (.aload_n 0, 1) := by decide +kernel
theorem dX0_explain_1 : decode cX0_explain 1 = .ok (.getfield 36, 3) := by decide +kernel
theorem dX0_explain_4 : decode cX0_explain 4 = .ok (.invokevirtual 68, 3) := by decide +kernel
theorem dX0_explain_7 : decode cX0_explain 7 = .ok (.aload_n 0, 1) := by decide +kernel
theorem dX0_explain_8 : decode cX0_explain 8 = .ok (.getfield 36, 3) := by decide +kernel
theorem dX0_explain_11 : decode cX0_explain 11 = .ok (.invokevirtual 73, 3) := by decide +kernel
theorem dX0_explain_14 : decode cX0_explain 14 = .ok (.aload_n 0, 1) := by decide +kernel
theorem dX0_explain_15 : decode cX0_explain 15 = .ok (.getfield 36, 3) := by decide +kernel
theorem dX0_explain_18 : decode cX0_explain 18 = .ok (.invokevirtual 76, 3) := by decide +kernel
theorem dX0_explain_21 : decode cX0_explain 21 = .ok (.ifCond .ne 7, 3) := by decide +kernel
theorem dX0_explain_24 : decode cX0_explain 24 = .ok (.iconst 1, 1) := by decide +kernel
theorem dX0_explain_25 : decode cX0_explain 25 = .ok (.goto 4, 3) := by decide +kernel
theorem dX0_explain_28 : decode cX0_explain 28 = .ok (.iconst 0, 1) := by decide +kernel
theorem dX0_explain_29 : decode cX0_explain 29 = .ok (.istore_n 1, 1) := by decide +kernel
theorem dX0_explain_30 : decode cX0_explain 30 = .ok (.aload_n 0, 1) := by decide +kernel
theorem dX0_explain_31 : decode cX0_explain 31 = .ok (.iload_n 1, 1) := by decide +kernel
theorem dX0_explain_32 : decode cX0_explain 32 = .ok (.ifCond .eq 26, 3) := by decide +kernel
theorem dX0_explain_35 : decode cX0_explain 35 = .ok (.aload_n 0, 1) := by decide +kernel
theorem dX0_explain_36 : decode cX0_explain 36 = .ok (.getfield 19, 3) := by decide +kernel
theorem dX0_explain_39 : decode cX0_explain 39 = .ok (.aload_n 0, 1) := by decide +kernel
theorem dX0_explain_40 : decode cX0_explain 40 = .ok (.getfield 41, 3) := by decide +kernel
theorem dX0_explain_43 : decode cX0_explain 43 = .ok (.aload_n 0, 1) := by decide +kernel
theorem dX0_explain_44 : decode cX0_explain 44 = .ok (.getfield 44, 3) := by decide +kernel
theorem dX0_explain_47 : decode cX0_explain 47 = .ok (.iconst 0, 1) := by decide +kernel
theorem dX0_explain_48 : decode cX0_explain 48 = .ok (.invokevirtual 80, 3) := by decide +kernel
theorem dX0_explain_51 : decode cX0_explain 51 = .ok (.ifCond .ne 7, 3) := by decide +kernel
theorem dX0_explain_54 : decode cX0_explain 54 = .ok (.iconst 1, 1) := by decide +kernel
theorem dX0_explain_55 : decode cX0_explain 55 = .ok (.goto 4, 3) := by decide +kernel
theorem dX0_explain_58 : decode cX0_explain 58 = .ok (.iconst 0, 1) := by decide +kernel
theorem dX0_explain_59 : decode cX0_explain 59 = .ok (.putfield 48, 3) := by decide +kernel
theorem dX0_explain_62 : decode cX0_explain 62 = .ok (.aload_n 0, 1) := by decide +kernel
theorem dX0_explain_63 : decode cX0_explain 63 = .ok (.getfield 48, 3) := by decide +kernel
theorem dX0_explain_66 : decode cX0_explain 66 = .ok (.ifCond .ne 22, 3) := by decide +kernel
theorem dX0_explain_69 : decode cX0_explain 69 = .ok (.aload_n 0, 1) := by decide +kernel
theorem dX0_explain_70 : decode cX0_explain 70 = .ok (.getfield 36, 3) := by decide +kernel
theorem dX0_explain_73 : decode cX0_explain 73 = .ok (.aload_n 0, 1) := by decide +kernel
theorem dX0_explain_74 : decode cX0_explain 74 = .ok (.getfield 36, 3) := by decide +kernel
theorem dX0_explain_77 : decode cX0_explain 77 = .ok (.getfield 84, 3) := by decide +kernel
theorem dX0_explain_80 : decode cX0_explain 80 = .ok (.aload_n 0, 1) := by decide +kernel
theorem dX0_explain_81 : decode cX0_explain 81 = .ok (.getfield 41, 3) := by decide +kernel
theorem dX0_explain_84 : decode cX0_explain 84 = .ok (.iaload, 1) := by decide +kernel
theorem dX0_explain_85 : decode cX0_explain 85 = .ok (.invokevirtual 87, 3) := by decide +kernel
theorem dX0_explain_88 : decode cX0_explain 88 = .ok (.aload_n 0, 1) := by decide +kernel
theorem dX0_explain_89 : decode cX0_explain 89 = .ok (.getfield 29, 3) := by decide +kernel
theorem dX0_explain_92 : decode cX0_explain 92 = .ok (.getfield 90, 3) := by decide +kernel
theorem dX0_explain_95 : decode cX0_explain 95 = .ok (.getfield 96, 3) := by decide +kernel
theorem dX0_explain_98 : decode cX0_explain 98 = .ok (.iconst 1, 1) := by decide +kernel
theorem dX0_explain_99 : decode cX0_explain 99 = .ok (.isub, 1) := by decide +kernel
theorem dX0_explain_100 : decode cX0_explain 100 = .ok (.istore_n 2, 1) := by decide +kernel
theorem dX0_explain_101 : decode cX0_explain 101 = .ok (.iload_n 2, 1) := by decide +kernel
theorem dX0_explain_102 : decode cX0_explain 102 = .ok (.ifCond .lt 78, 3) := by decide +kernel
theorem dX0_explain_105 : decode cX0_explain 105 = .ok (.iload_n 1, 1) := by decide +kernel
theorem dX0_explain_106 : decode cX0_explain 106 = .ok (.ifCond .eq 74, 3) := by decide +kernel
theorem dX0_explain_109 : decode cX0_explain 109 = .ok (.aload_n 0, 1) := by decide +kernel
theorem dX0_explain_110 : decode cX0_explain 110 = .ok (.getfield 36, 3) := by decide +kernel
theorem dX0_explain_113 : decode cX0_explain 113 = .ok (.getfield 101, 3) := by decide +kernel
theorem dX0_explain_116 : decode cX0_explain 116 = .ok (.iload_n 2, 1) := by decide +kernel
theorem dX0_explain_117 : decode cX0_explain 117 = .ok (.baload, 1) := by decide +kernel
theorem dX0_explain_118 : decode cX0_explain 118 = .ok (.ifCond .eq 56, 3) := by decide +kernel
theorem dX0_explain_121 : decode cX0_explain 121 = .ok (.aload_n 0, 1) := by decide +kernel
theorem dX0_explain_122 : decode cX0_explain 122 = .ok (.getfield 36, 3) := by decide +kernel
theorem dX0_explain_125 : decode cX0_explain 125 = .ok (.getfield 101, 3) := by decide +kernel
theorem dX0_explain_128 : decode cX0_explain 128 = .ok (.iload_n 2, 1) := by decide +kernel
theorem dX0_explain_129 : decode cX0_explain 129 = .ok (.iconst 0, 1) := by decide +kernel
theorem dX0_explain_130 : decode cX0_explain 130 = .ok (.bastore, 1) := by decide +kernel
theorem dX0_explain_131 : decode cX0_explain 131 = .ok (.aload_n 0, 1) := by decide +kernel
theorem dX0_explain_132 : decode cX0_explain 132 = .ok (.getfield 36, 3) := by decide +kernel
theorem dX0_explain_135 : decode cX0_explain 135 = .ok (.invokevirtual 73, 3) := by decide +kernel
theorem dX0_explain_138 : decode cX0_explain 138 = .ok (.aload_n 0, 1) := by decide +kernel
theorem dX0_explain_139 : decode cX0_explain 139 = .ok (.getfield 36, 3) := by decide +kernel
theorem dX0_explain_142 : decode cX0_explain 142 = .ok (.getfield 101, 3) := by decide +kernel
theorem dX0_explain_145 : decode cX0_explain 145 = .ok (.iload_n 2, 1) := by decide +kernel
theorem dX0_explain_146 : decode cX0_explain 146 = .ok (.aload_n 0, 1) := by decide +kernel
theorem dX0_explain_147 : decode cX0_explain 147 = .ok (.getfield 19, 3) := by decide +kernel
theorem dX0_explain_150 : decode cX0_explain 150 = .ok (.aload_n 0, 1) := by decide +kernel
theorem dX0_explain_151 : decode cX0_explain 151 = .ok (.getfield 41, 3) := by decide +kernel
theorem dX0_explain_154 : decode cX0_explain 154 = .ok (.aload_n 0, 1) := by decide +kernel
theorem dX0_explain_155 : decode cX0_explain 155 = .ok (.getfield 44, 3) := by decide +kernel
theorem dX0_explain_158 : decode cX0_explain 158 = .ok (.aload_n 0, 1) := by decide +kernel
theorem dX0_explain_159 : decode cX0_explain 159 = .ok (.getfield 48, 3) := by decide +kernel
theorem dX0_explain_162 : decode cX0_explain 162 = .ok (.invokevirtual 80, 3) := by decide +kernel
theorem dX0_explain_165 : decode cX0_explain 165 = .ok (.ifCond .ne 7, 3) := by decide +kernel
theorem dX0_explain_168 : decode cX0_explain 168 = .ok (.iconst 1, 1) := by decide +kernel
theorem dX0_explain_169 : decode cX0_explain 169 = .ok (.goto 4, 3) := by decide +kernel
theorem dX0_explain_172 : decode cX0_explain 172 = .ok (.iconst 0, 1) := by decide +kernel
theorem dX0_explain_173 : decode cX0_explain 173 = .ok (.bastore, 1) := by decide +kernel
theorem dX0_explain_174 : decode cX0_explain 174 = .ok (.iinc 2 (-1), 3) := by decide +kernel
theorem dX0_explain_177 : decode cX0_explain 177 = .ok (.goto (-76), 3) := by decide +kernel
theorem dX0_explain_180 : decode cX0_explain 180 = .ok (.aload_n 0, 1) := by decide +kernel
theorem dX0_explain_181 : decode cX0_explain 181 = .ok (.invokevirtual 105, 3) := by decide +kernel
theorem dX0_explain_184 : decode cX0_explain 184 = .ok (.return_, 1) := by decide +kernel
theorem dX0_chooseNumbers_0 : decode cX0_chooseNumbers 0 = .ok (.aload_n 0, 1) := by decide +kernel
theorem dX0_chooseNumbers_1 : decode cX0_chooseNumbers 1 = .ok (.getfield 36, 3) := by decide +kernel
theorem dX0_chooseNumbers_4 : decode cX0_chooseNumbers 4 = .ok (.invokevirtual 108, 3) := by decide +kernel
theorem dX0_chooseNumbers_7 : decode cX0_chooseNumbers 7 = .ok (.iconst 0, 1) := by decide +kernel
theorem dX0_chooseNumbers_8 : decode cX0_chooseNumbers 8 = .ok (.istore_n 1, 1) := by decide +kernel
theorem dX0_chooseNumbers_9 : decode cX0_chooseNumbers 9 = .ok (.iload_n 1, 1) := by decide +kernel
theorem dX0_chooseNumbers_10 : decode cX0_chooseNumbers 10 = .ok (.aload_n 0, 1) := by decide +kernel
theorem dX0_chooseNumbers_11 : decode cX0_chooseNumbers 11 = .ok (.getfield 51, 3) := by decide +kernel
theorem dX0_chooseNumbers_14 : decode cX0_chooseNumbers 14 = .ok (.if_icmp .ge 36, 3) := by decide +kernel
theorem dX0_chooseNumbers_17 : decode cX0_chooseNumbers 17 = .ok (.aload_n 0, 1) := by decide +kernel
theorem dX0_chooseNumbers_18 : decode cX0_chooseNumbers 18 = .ok (.getfield 36, 3) := by decide +kernel
theorem dX0_chooseNumbers_21 : decode cX0_chooseNumbers 21 = .ok (.getfield 101, 3) := by decide +kernel
theorem dX0_chooseNumbers_24 : decode cX0_chooseNumbers 24 = .ok (.aload_n 0, 1) := by decide +kernel
theorem dX0_chooseNumbers_25 : decode cX0_chooseNumbers 25 = .ok (.getfield 9, 3) := by decide +kernel
theorem dX0_chooseNumbers_28 : decode cX0_chooseNumbers 28 = .ok (.iload_n 1, 1) := by decide +kernel
theorem dX0_chooseNumbers_29 : decode cX0_chooseNumbers 29 = .ok (.iaload, 1) := by decide +kernel
theorem dX0_chooseNumbers_30 : decode cX0_chooseNumbers 30 = .ok (.aload_n 0, 1) := by decide +kernel
theorem dX0_chooseNumbers_31 : decode cX0_chooseNumbers 31 = .ok (.getfield 36, 3) := by decide +kernel
theorem dX0_chooseNumbers_34 : decode cX0_chooseNumbers 34 = .ok (.aload_n 0, 1) := by decide +kernel
theorem dX0_chooseNumbers_35 : decode cX0_chooseNumbers 35 = .ok (.getfield 9, 3) := by decide +kernel
theorem dX0_chooseNumbers_38 : decode cX0_chooseNumbers 38 = .ok (.iload_n 1, 1) := by decide +kernel
theorem dX0_chooseNumbers_39 : decode cX0_chooseNumbers 39 = .ok (.iaload, 1) := by decide +kernel
theorem dX0_chooseNumbers_40 : decode cX0_chooseNumbers 40 = .ok (.invokevirtual 111, 3) := by decide +kernel
theorem dX0_chooseNumbers_43 : decode cX0_chooseNumbers 43 = .ok (.bastore, 1) := by decide +kernel
theorem dX0_chooseNumbers_44 : decode cX0_chooseNumbers 44 = .ok (.iinc 1 1, 3) := by decide +kernel
theorem dX0_chooseNumbers_47 : decode cX0_chooseNumbers 47 = .ok (.goto (-38), 3) := by decide +kernel
theorem dX0_chooseNumbers_50 : decode cX0_chooseNumbers 50 = .ok (.return_, 1) := by decide +kernel
theorem q_X0_forget : yX0_forget.cls = RX0 ∧ yX0_forget.cls ≠ "java/lang/invoke/MethodHandle" ∧ yX0_forget.cls ≠ "java/lang/invoke/VarHandle" ∧ (parseMethodDescriptor yX0_forget.desc).map (fun d => d.parameters.length) = some 0 := ⟨rfl, by decide, by decide, by decide +kernel⟩
theorem q_X0_firstToTell : yX0_firstToTell.cls = RX0 ∧ yX0_firstToTell.cls ≠ "java/lang/invoke/MethodHandle" ∧ yX0_firstToTell.cls ≠ "java/lang/invoke/VarHandle" ∧ (parseMethodDescriptor yX0_firstToTell.desc).map (fun d => d.parameters.length) = some 0 := ⟨rfl, by decide, by decide, by decide +kernel⟩
theorem q_X0_seek : yX0_seek.cls = RX0 ∧ yX0_seek.cls ≠ "java/lang/invoke/MethodHandle" ∧ yX0_seek.cls ≠ "java/lang/invoke/VarHandle" ∧ (parseMethodDescriptor yX0_seek.desc).map (fun d => d.parameters.length) = some 0 := ⟨rfl, by decide, by decide, by decide +kernel⟩
theorem q_X0_keepChosen : yX0_keepChosen.cls = RX0 ∧ yX0_keepChosen.cls ≠ "java/lang/invoke/MethodHandle" ∧ yX0_keepChosen.cls ≠ "java/lang/invoke/VarHandle" ∧ (parseMethodDescriptor yX0_keepChosen.desc).map (fun d => d.parameters.length) = some 0 := ⟨rfl, by decide, by decide, by decide +kernel⟩
theorem q_X0_explain : yX0_explain.cls = RX0 ∧ yX0_explain.cls ≠ "java/lang/invoke/MethodHandle" ∧ yX0_explain.cls ≠ "java/lang/invoke/VarHandle" ∧ (parseMethodDescriptor yX0_explain.desc).map (fun d => d.parameters.length) = some 0 := ⟨rfl, by decide, by decide, by decide +kernel⟩
theorem q_X0_chooseNumbers : yX0_chooseNumbers.cls = RX0 ∧ yX0_chooseNumbers.cls ≠ "java/lang/invoke/MethodHandle" ∧ yX0_chooseNumbers.cls ≠ "java/lang/invoke/VarHandle" ∧ (parseMethodDescriptor yX0_chooseNumbers.desc).map (fun d => d.parameters.length) = some 0 := ⟨rfl, by decide, by decide, by decide +kernel⟩
def P_X0_forget (post : (Int) → (Int) → (Int) → (Int) → (Int) → Prop) (A_grade : Int) (A_cell : Int) (A_mined : Int) (A_withTotal : Int) (A_numbers : Int) : Prop :=
  post 0 (-1) 0 0 0
set_option maxRecDepth 100000 in
set_option maxHeartbeats 4000000 in
theorem c_X0_forget (l : Launch) (K : wK) (ad : Nat → Nat) {D_hasBoard : Int} {D_beganBlank : Int} {F_mines : Int} {F_moves : Int} {F_changes : Int} {G_width : Int} {G_height : Int} {G_size : Int} {B_parts : Int} {B_longest : Int} {S_groups : Int} {S_askedGroup : Int} {S_taken : Int} {R_waitingCount : Int} {R_metCount : Int} {A_grade : Int} {A_cell : Int} {A_mined : Int} {A_withTotal : Int} {A_numbers : Int} {X_low : Int} {X_high : Int} {Y_low : Int} {Y_high : Int} {F_mined : Int → Int} {F_number : Int → Int} {F_state : Int → Int} {F_cellsIn : Int → Int} {F_unknownNear : Int → Int} {F_hitNear : Int → Int} {F_moveStart : Int → Int} {F_changed : Int → Int} {F_waiting : Int → Int} {F_seen : Int → Int} {G_near : Int → Int} {G_nearEnd : Int → Int} {B_chosen : Int → Int} {B_partOf : Int → Int} {B_rest : Int → Int} {B_unknowns : Int → Int} {B_partStart : Int → Int} {B_cells : Int → Int} {S_minedSet : Int → Int} {S_safeSet : Int → Int} {S_partSet : Int → Int} {S_tally : Int → Int} {S_askedTally : Int → Int} {S_groupOf : Int → Int} {S_groupSize : Int → Int} {S_links : Int → Int} {S_linkEnd : Int → Int} {S_pick : Int → Int} {S_groupMinedSet : Int → Int} {S_groupSafeSet : Int → Int} {O_sums : Int → Int64} {O_nextSums : Int → Int64} {R_found : Int → Int} {R_openEnds : Int → Int} {R_need : Int → Int} {R_waiting : Int → Int} {R_waits : Int → Int} {R_common : Int → Int} {R_met : Int → Int} {A_number : Int → Int} {Q_mined : Int → Int64} {Q_all : Int → Int64} {Q_choices : Int → Int64} {Q_term : Int → Int64} {Q_divisor : Int → Int64} {Q_spare : Int → Int64} {X_limbs : Int → Int64} {X_sum : Int → Int64} {Y_limbs : Int → Int64} {Y_sum : Int → Int64}   (post : (Int) → (Int) → (Int) → (Int) → (Int) → Prop) (h : P_X0_forget post A_grade A_cell A_mined A_withTotal A_numbers) : mV l yX0_forget (Cond.code yX0_forget cX0_forget 1 none :: GT) ({ frames := 2, cells := 0, slots := 0, locals := 120 } : Room) [.ref (ad 7)] K ad (dW D_hasBoard D_beganBlank F_mines F_moves F_changes G_width G_height G_size B_parts B_longest S_groups S_askedGroup S_taken R_waitingCount R_metCount A_grade A_cell A_mined A_withTotal A_numbers X_low X_high Y_low Y_high F_mined F_number F_state F_cellsIn F_unknownNear F_hitNear F_moveStart F_changed F_waiting F_seen G_near G_nearEnd B_chosen B_partOf B_rest B_unknowns B_partStart B_cells S_minedSet S_safeSet S_partSet S_tally S_askedTally S_groupOf S_groupSize S_links S_linkEnd S_pick S_groupMinedSet S_groupSafeSet O_sums O_nextSums R_found R_openEnds R_need R_waiting R_waits R_common R_met A_number Q_mined Q_all Q_choices Q_term Q_divisor Q_spare X_limbs X_sum Y_limbs Y_sum) (fun u9 => ∃ A_grade9 A_cell9 A_mined9 A_withTotal9 A_numbers9, u9 = (dW D_hasBoard D_beganBlank F_mines F_moves F_changes G_width G_height G_size B_parts B_longest S_groups S_askedGroup S_taken R_waitingCount R_metCount A_grade9 A_cell9 A_mined9 A_withTotal9 A_numbers9 X_low X_high Y_low Y_high F_mined F_number F_state F_cellsIn F_unknownNear F_hitNear F_moveStart F_changed F_waiting F_seen G_near G_nearEnd B_chosen B_partOf B_rest B_unknowns B_partStart B_cells S_minedSet S_safeSet S_partSet S_tally S_askedTally S_groupOf S_groupSize S_links S_linkEnd S_pick S_groupMinedSet S_groupSafeSet O_sums O_nextSums R_found R_openEnds R_need R_waiting R_waits R_common R_met A_number Q_mined Q_all Q_choices Q_term Q_divisor Q_spare X_limbs X_sum Y_limbs Y_sum) ∧ post A_grade9 A_cell9 A_mined9 A_withTotal9 A_numbers9) := by
  refine mV_of (lv0 := [(0, .ref (ad 7))]) (by decide) (Nat.le_of_ble_eq_true rfl) rfl ?_
  intro p e s m args below meth c Q A C ret
  replace C : Cx p ({ frames := 2, cells := 0, slots := 0, locals := 120 } : Room) m c 0 0 cX0_forget 1 s args RX0 K A := C
  unfold P_X0_forget at h
  refine wa_aload_n C 0 rfl dX0_forget_0 rfl ?_
  refine wa_iconst C (z := 0) dX0_forget_1 rfl ?_
  refine wa_putI C (ws' := (dW D_hasBoard D_beganBlank F_mines F_moves F_changes G_width G_height G_size B_parts B_longest S_groups S_askedGroup S_taken R_waitingCount R_metCount 0 A_cell A_mined A_withTotal A_numbers X_low X_high Y_low Y_high F_mined F_number F_state F_cellsIn F_unknownNear F_hitNear F_moveStart F_changed F_waiting F_seen G_near G_nearEnd B_chosen B_partOf B_rest B_unknowns B_partStart B_cells S_minedSet S_safeSet S_partSet S_tally S_askedTally S_groupOf S_groupSize S_links S_linkEnd S_pick S_groupMinedSet S_groupSafeSet O_sums O_nextSums R_found R_openEnds R_need R_waiting R_waits R_common R_met A_number Q_mined Q_all Q_choices Q_term Q_divisor Q_spare X_limbs X_sum Y_limbs Y_sum)) 7 0 dW_7 rfl (by decide) okX0 gw_341 rfl rfl (Nat.le_of_ble_eq_true rfl) (inR_k 0 rfl) (dWp_7_0 _) dX0_forget_2 ?_
  refine wa_aload_n C 0 rfl dX0_forget_5 rfl ?_
  refine wa_iconst C (z := -1) dX0_forget_6 rfl ?_
  refine wa_putI C (ws' := (dW D_hasBoard D_beganBlank F_mines F_moves F_changes G_width G_height G_size B_parts B_longest S_groups S_askedGroup S_taken R_waitingCount R_metCount 0 (-1) A_mined A_withTotal A_numbers X_low X_high Y_low Y_high F_mined F_number F_state F_cellsIn F_unknownNear F_hitNear F_moveStart F_changed F_waiting F_seen G_near G_nearEnd B_chosen B_partOf B_rest B_unknowns B_partStart B_cells S_minedSet S_safeSet S_partSet S_tally S_askedTally S_groupOf S_groupSize S_links S_linkEnd S_pick S_groupMinedSet S_groupSafeSet O_sums O_nextSums R_found R_openEnds R_need R_waiting R_waits R_common R_met A_number Q_mined Q_all Q_choices Q_term Q_divisor Q_spare X_limbs X_sum Y_limbs Y_sum)) 7 1 dW_7 rfl (by decide) okX0 gw_343 rfl rfl (Nat.le_of_ble_eq_true rfl) (inR_k (-1) rfl) (dWp_7_1 _) dX0_forget_7 ?_
  refine wa_aload_n C 0 rfl dX0_forget_10 rfl ?_
  refine wa_iconst C (z := 0) dX0_forget_11 rfl ?_
  refine wa_putZ C (ws' := (dW D_hasBoard D_beganBlank F_mines F_moves F_changes G_width G_height G_size B_parts B_longest S_groups S_askedGroup S_taken R_waitingCount R_metCount 0 (-1) 0 A_withTotal A_numbers X_low X_high Y_low Y_high F_mined F_number F_state F_cellsIn F_unknownNear F_hitNear F_moveStart F_changed F_waiting F_seen G_near G_nearEnd B_chosen B_partOf B_rest B_unknowns B_partStart B_cells S_minedSet S_safeSet S_partSet S_tally S_askedTally S_groupOf S_groupSize S_links S_linkEnd S_pick S_groupMinedSet S_groupSafeSet O_sums O_nextSums R_found R_openEnds R_need R_waiting R_waits R_common R_met A_number Q_mined Q_all Q_choices Q_term Q_divisor Q_spare X_limbs X_sum Y_limbs Y_sum)) 7 2 dW_7 rfl (by decide) okX0 gw_345 rfl rfl (Nat.le_of_ble_eq_true rfl) (Or.inl rfl) (dWp_7_2 _) dX0_forget_12 ?_
  refine wa_aload_n C 0 rfl dX0_forget_15 rfl ?_
  refine wa_iconst C (z := 0) dX0_forget_16 rfl ?_
  refine wa_putZ C (ws' := (dW D_hasBoard D_beganBlank F_mines F_moves F_changes G_width G_height G_size B_parts B_longest S_groups S_askedGroup S_taken R_waitingCount R_metCount 0 (-1) 0 0 A_numbers X_low X_high Y_low Y_high F_mined F_number F_state F_cellsIn F_unknownNear F_hitNear F_moveStart F_changed F_waiting F_seen G_near G_nearEnd B_chosen B_partOf B_rest B_unknowns B_partStart B_cells S_minedSet S_safeSet S_partSet S_tally S_askedTally S_groupOf S_groupSize S_links S_linkEnd S_pick S_groupMinedSet S_groupSafeSet O_sums O_nextSums R_found R_openEnds R_need R_waiting R_waits R_common R_met A_number Q_mined Q_all Q_choices Q_term Q_divisor Q_spare X_limbs X_sum Y_limbs Y_sum)) 7 3 dW_7 rfl (by decide) okX0 gw_347 rfl rfl (Nat.le_of_ble_eq_true rfl) (Or.inl rfl) (dWp_7_3 _) dX0_forget_17 ?_
  refine wa_aload_n C 0 rfl dX0_forget_20 rfl ?_
  refine wa_iconst C (z := 0) dX0_forget_21 rfl ?_
  refine wa_putI C (ws' := (dW D_hasBoard D_beganBlank F_mines F_moves F_changes G_width G_height G_size B_parts B_longest S_groups S_askedGroup S_taken R_waitingCount R_metCount 0 (-1) 0 0 0 X_low X_high Y_low Y_high F_mined F_number F_state F_cellsIn F_unknownNear F_hitNear F_moveStart F_changed F_waiting F_seen G_near G_nearEnd B_chosen B_partOf B_rest B_unknowns B_partStart B_cells S_minedSet S_safeSet S_partSet S_tally S_askedTally S_groupOf S_groupSize S_links S_linkEnd S_pick S_groupMinedSet S_groupSafeSet O_sums O_nextSums R_found R_openEnds R_need R_waiting R_waits R_common R_met A_number Q_mined Q_all Q_choices Q_term Q_divisor Q_spare X_limbs X_sum Y_limbs Y_sum)) 7 5 dW_7 rfl (by decide) okX0 gw_351 rfl rfl (Nat.le_of_ble_eq_true rfl) (inR_k 0 rfl) (dWp_7_5 _) dX0_forget_22 ?_
  exact ret dX0_forget_25 ⟨_, _, _, _, _, rfl, h⟩
def P_X0_firstToTell (post : Int → Prop) (G_size : Int) (F_state : Int → Int) (R_found : Int → Int) : Prop :=
  ∃ Inv_1 : Nat → (Int) → Prop, (∃ n_2 : Nat, Inv_1 n_2 0) ∧ ∀ (n_3 : Nat) (x1_6 : Int), inR x1_6 → Inv_1 n_3 x1_6 → ((G_size ≤ x1_6 → (post (-1))) ∧ (¬ G_size ≤ x1_6 → ((0 ≤ x1_6 ∧ x1_6 < 144) ∧ (∀ v_10 : Int, v_10 = R_found x1_6 → inR v_10 → ((v_10 = 1 → (post x1_6)) ∧ (¬ v_10 = 1 → (∃ J_12 : Prop, ((¬ v_10 = 2 → (J_12)) ∧ (v_10 = 2 → ((0 ≤ x1_6 ∧ x1_6 < 144) ∧ (∀ v_19 : Int, v_19 = F_state x1_6 → inR v_19 → ((v_19 = 1 → (J_12)) ∧ (¬ v_19 = 1 → (post x1_6))))))) ∧ (J_12 → (inR (x1_6 + 1) ∧ (∀ x1_15 : Int, x1_15 = (x1_6 + 1) → (∃ n_16 : Nat, n_16 < n_3 ∧ Inv_1 n_16 x1_15)))))))))))
set_option maxRecDepth 100000 in
set_option maxHeartbeats 4000000 in
theorem c_X0_firstToTell (l : Launch) (K : wK) (ad : Nat → Nat) {D_hasBoard : Int} {D_beganBlank : Int} {F_mines : Int} {F_moves : Int} {F_changes : Int} {G_width : Int} {G_height : Int} {G_size : Int} {B_parts : Int} {B_longest : Int} {S_groups : Int} {S_askedGroup : Int} {S_taken : Int} {R_waitingCount : Int} {R_metCount : Int} {A_grade : Int} {A_cell : Int} {A_mined : Int} {A_withTotal : Int} {A_numbers : Int} {X_low : Int} {X_high : Int} {Y_low : Int} {Y_high : Int} {F_mined : Int → Int} {F_number : Int → Int} {F_state : Int → Int} {F_cellsIn : Int → Int} {F_unknownNear : Int → Int} {F_hitNear : Int → Int} {F_moveStart : Int → Int} {F_changed : Int → Int} {F_waiting : Int → Int} {F_seen : Int → Int} {G_near : Int → Int} {G_nearEnd : Int → Int} {B_chosen : Int → Int} {B_partOf : Int → Int} {B_rest : Int → Int} {B_unknowns : Int → Int} {B_partStart : Int → Int} {B_cells : Int → Int} {S_minedSet : Int → Int} {S_safeSet : Int → Int} {S_partSet : Int → Int} {S_tally : Int → Int} {S_askedTally : Int → Int} {S_groupOf : Int → Int} {S_groupSize : Int → Int} {S_links : Int → Int} {S_linkEnd : Int → Int} {S_pick : Int → Int} {S_groupMinedSet : Int → Int} {S_groupSafeSet : Int → Int} {O_sums : Int → Int64} {O_nextSums : Int → Int64} {R_found : Int → Int} {R_openEnds : Int → Int} {R_need : Int → Int} {R_waiting : Int → Int} {R_waits : Int → Int} {R_common : Int → Int} {R_met : Int → Int} {A_number : Int → Int} {Q_mined : Int → Int64} {Q_all : Int → Int64} {Q_choices : Int → Int64} {Q_term : Int → Int64} {Q_divisor : Int → Int64} {Q_spare : Int → Int64} {X_limbs : Int → Int64} {X_sum : Int → Int64} {Y_limbs : Int → Int64} {Y_sum : Int → Int64}   (post : Int → Prop) (h : P_X0_firstToTell post G_size F_state R_found) : mI l yX0_firstToTell (Cond.code yX0_firstToTell cX0_firstToTell 3 (some .int) :: GT) ({ frames := 2, cells := 0, slots := 0, locals := 120 } : Room) [.ref (ad 7)] K ad (dW D_hasBoard D_beganBlank F_mines F_moves F_changes G_width G_height G_size B_parts B_longest S_groups S_askedGroup S_taken R_waitingCount R_metCount A_grade A_cell A_mined A_withTotal A_numbers X_low X_high Y_low Y_high F_mined F_number F_state F_cellsIn F_unknownNear F_hitNear F_moveStart F_changed F_waiting F_seen G_near G_nearEnd B_chosen B_partOf B_rest B_unknowns B_partStart B_cells S_minedSet S_safeSet S_partSet S_tally S_askedTally S_groupOf S_groupSize S_links S_linkEnd S_pick S_groupMinedSet S_groupSafeSet O_sums O_nextSums R_found R_openEnds R_need R_waiting R_waits R_common R_met A_number Q_mined Q_all Q_choices Q_term Q_divisor Q_spare X_limbs X_sum Y_limbs Y_sum) (fun z9 u9 => u9 = (dW D_hasBoard D_beganBlank F_mines F_moves F_changes G_width G_height G_size B_parts B_longest S_groups S_askedGroup S_taken R_waitingCount R_metCount A_grade A_cell A_mined A_withTotal A_numbers X_low X_high Y_low Y_high F_mined F_number F_state F_cellsIn F_unknownNear F_hitNear F_moveStart F_changed F_waiting F_seen G_near G_nearEnd B_chosen B_partOf B_rest B_unknowns B_partStart B_cells S_minedSet S_safeSet S_partSet S_tally S_askedTally S_groupOf S_groupSize S_links S_linkEnd S_pick S_groupMinedSet S_groupSafeSet O_sums O_nextSums R_found R_openEnds R_need R_waiting R_waits R_common R_met A_number Q_mined Q_all Q_choices Q_term Q_divisor Q_spare X_limbs X_sum Y_limbs Y_sum) ∧ post z9) := by
  refine mI_of (lv0 := [(0, .ref (ad 7))]) (by decide) (Nat.le_of_ble_eq_true rfl) rfl ?_
  intro p e s m args below meth c Q A C ret
  replace C : Cx p ({ frames := 2, cells := 0, slots := 0, locals := 120 } : Room) m c 0 0 cX0_firstToTell 3 s args RX0 K A := C
  unfold P_X0_firstToTell at h
  refine wa_iconst C (z := 0) dX0_firstToTell_0 rfl ?_
  refine wa_istore_n C dX0_firstToTell_1 rfl (by decide) rfl ?_
  obtain ⟨Inv_1, ⟨n_2, h0Inv_1⟩, hInv_1⟩ := h
  have k_5 : ∀ (n_3 : Nat) (x1_6 : Int), inR x1_6 → Inv_1 n_3 x1_6 → WA p l e ({ frames := 2, cells := 0, slots := 0, locals := 120 } : Room) s m args below meth c 0 0 Q K ad 3 A 2 [(0, .ref (ad 7)), (1, .int (iI x1_6))] [] (dW D_hasBoard D_beganBlank F_mines F_moves F_changes G_width G_height G_size B_parts B_longest S_groups S_askedGroup S_taken R_waitingCount R_metCount A_grade A_cell A_mined A_withTotal A_numbers X_low X_high Y_low Y_high F_mined F_number F_state F_cellsIn F_unknownNear F_hitNear F_moveStart F_changed F_waiting F_seen G_near G_nearEnd B_chosen B_partOf B_rest B_unknowns B_partStart B_cells S_minedSet S_safeSet S_partSet S_tally S_askedTally S_groupOf S_groupSize S_links S_linkEnd S_pick S_groupMinedSet S_groupSafeSet O_sums O_nextSums R_found R_openEnds R_need R_waiting R_waits R_common R_met A_number Q_mined Q_all Q_choices Q_term Q_divisor Q_spare X_limbs X_sum Y_limbs Y_sum) := by
    intro n_3
    induction n_3 using Nat.strongRecOn with
    | ind n_3 ih_4 =>
      intro x1_6 rx1_6 h
      replace h := hInv_1 n_3 x1_6 rx1_6 h
      refine wa_iload_n C 1 rfl dX0_firstToTell_2 rfl ?_
      refine wa_aload_n C 0 rfl dX0_firstToTell_3 rfl ?_
      refine wa_getR C 7 8 dW_7 rfl rfl (by decide) okX0 gw_355 dX0_firstToTell_4 ?_
      refine wa_getR C 1 0 dW_1 rfl rfl (by decide) okX2 gw_87 dX0_firstToTell_7 ?_
      refine wa_getI C 2 2 dW_2 rfl rfl (by decide) okX3 gw_57 dX0_firstToTell_10 (fun r_7 => ?_)
      refine wa_icmp_ge C (tgt := 57) rx1_6 r_7 dX0_firstToTell_13 (by decide) (fun c_8 => ?_) (fun c_8 => ?_)
      · replace h := h.1 c_8
        refine wa_iconst C (z := -1) dX0_firstToTell_57 rfl ?_
        exact ret dX0_firstToTell_58 (inR_k (-1) rfl) ⟨rfl, h⟩
      · replace h := h.2 c_8
        refine wa_aload_n C 0 rfl dX0_firstToTell_16 rfl ?_
        refine wa_getR C 7 6 dW_7 rfl rfl (by decide) okX0 gw_353 dX0_firstToTell_17 ?_
        refine wa_getR C 6 0 dW_6 rfl rfl (by decide) okX7 gw_296 dX0_firstToTell_20 ?_
        refine wa_iload_n C 1 rfl dX0_firstToTell_23 rfl ?_
        obtain ⟨t_9, h⟩ := h
        refine wa_iald C 44 dW_44 dX0_firstToTell_24 t_9.1 t_9.2 (fun v_10 ev_10 rv_10 => ?_)
        replace h := h v_10 ev_10 rv_10
        refine wa_istore_n C dX0_firstToTell_25 rfl (by decide) rfl ?_
        refine wa_iload_n C 0 rfl dX0_firstToTell_26 rfl ?_
        refine wa_iconst C (z := 1) dX0_firstToTell_27 rfl ?_
        refine wa_icmp_eq C (tgt := 49) rv_10 (inR_k 1 rfl) dX0_firstToTell_28 (by decide) (fun c_11 => ?_) (fun c_11 => ?_)
        · replace h := h.1 c_11
          refine wa_iload_n C 2 rfl dX0_firstToTell_49 rfl ?_
          exact ret dX0_firstToTell_50 rx1_6 ⟨rfl, h⟩
        · replace h := h.2 c_11
          refine wa_iload_n C 0 rfl dX0_firstToTell_31 rfl ?_
          refine wa_iconst C (z := 2) dX0_firstToTell_32 rfl ?_
          obtain ⟨J_12, h, hJ_12⟩ := h
          have k_13 : J_12 → WA p l e ({ frames := 2, cells := 0, slots := 0, locals := 120 } : Room) s m args below meth c 0 0 Q K ad 3 A 51 [(0, .ref (ad 7)), (1, .int (iI x1_6))] [] (dW D_hasBoard D_beganBlank F_mines F_moves F_changes G_width G_height G_size B_parts B_longest S_groups S_askedGroup S_taken R_waitingCount R_metCount A_grade A_cell A_mined A_withTotal A_numbers X_low X_high Y_low Y_high F_mined F_number F_state F_cellsIn F_unknownNear F_hitNear F_moveStart F_changed F_waiting F_seen G_near G_nearEnd B_chosen B_partOf B_rest B_unknowns B_partStart B_cells S_minedSet S_safeSet S_partSet S_tally S_askedTally S_groupOf S_groupSize S_links S_linkEnd S_pick S_groupMinedSet S_groupSafeSet O_sums O_nextSums R_found R_openEnds R_need R_waiting R_waits R_common R_met A_number Q_mined Q_all Q_choices Q_term Q_divisor Q_spare X_limbs X_sum Y_limbs Y_sum) := by
            intro h
            replace h := hJ_12 h
            obtain ⟨r_14, h⟩ := h
            refine wa_iinc C (lv' := fun w9 => [(1, .int (iI w9)), (0, .ref (ad 7))]) 1 rfl dX0_firstToTell_51 (by decide) (fun _ => rfl) (fun x1_15 ex1_15 => ?_)
            replace h := h x1_15 ex1_15
            have rx1_15 : inR x1_15 := by rw [ex1_15]; exact r_14
            refine wa_goto C (tgt := 2) dX0_firstToTell_54 (by decide) ?_
            obtain ⟨n_16, ln_16, h⟩ := h
            refine wa_sub C [1, 0] rfl ?_
            exact ih_4 n_16 ln_16 x1_15 rx1_15 h
          refine wa_icmp_ne C (tgt := 51) rv_10 (inR_k 2 rfl) dX0_firstToTell_33 (by decide) (fun c_17 => ?_) (fun c_17 => ?_)
          · replace h := h.1 c_17
            refine wa_sub C [1, 2] rfl ?_
            exact k_13 h
          · replace h := h.2 c_17
            refine wa_aload_n C 1 rfl dX0_firstToTell_36 rfl ?_
            refine wa_getR C 7 8 dW_7 rfl rfl (by decide) okX0 gw_355 dX0_firstToTell_37 ?_
            refine wa_getR C 1 3 dW_1 rfl rfl (by decide) okX2 gw_100 dX0_firstToTell_40 ?_
            refine wa_iload_n C 2 rfl dX0_firstToTell_43 rfl ?_
            obtain ⟨t_18, h⟩ := h
            refine wa_iald C 14 dW_14 dX0_firstToTell_44 t_18.1 t_18.2 (fun v_19 ev_19 rv_19 => ?_)
            replace h := h v_19 ev_19 rv_19
            refine wa_iconst C (z := 1) dX0_firstToTell_45 rfl ?_
            refine wa_icmp_eq C (tgt := 51) rv_19 (inR_k 1 rfl) dX0_firstToTell_46 (by decide) (fun c_20 => ?_) (fun c_20 => ?_)
            · replace h := h.1 c_20
              refine wa_sub C [1, 2] rfl ?_
              exact k_13 h
            · replace h := h.2 c_20
              refine wa_iload_n C 2 rfl dX0_firstToTell_49 rfl ?_
              exact ret dX0_firstToTell_50 rx1_6 ⟨rfl, h⟩
  refine wa_sub C [1, 0] rfl ?_
  exact k_5 n_2 0 (inR_k 0 rfl) h0Inv_1
def P_X0_seek (post : (Int) → (Int) → (Int) → (Int) → (Int) → (Int) → (Int) → (Int) → (Int) → (Int) → (Int) → (Int) → (Int → Int) → (Int → Int) → (Int → Int) → (Int → Int) → (Int → Int) → (Int → Int) → (Int → Int) → (Int → Int) → (Int → Int) → (Int → Int) → (Int → Int) → (Int → Int) → (Int → Int) → (Int → Int) → (Int → Int) → (Int → Int) → (Int → Int) → (Int → Int) → (Int → Int64) → (Int → Int64) → (Int → Int) → (Int → Int) → (Int → Int) → (Int → Int) → (Int → Int) → (Int → Int) → (Int → Int) → Prop) (F_mines : Int) (G_size : Int) (B_parts : Int) (B_longest : Int) (S_groups : Int) (S_askedGroup : Int) (S_taken : Int) (R_waitingCount : Int) (R_metCount : Int) (A_grade : Int) (A_cell : Int) (A_mined : Int) (A_withTotal : Int) (A_numbers : Int) (F_number : Int → Int) (F_state : Int → Int) (F_cellsIn : Int → Int) (F_unknownNear : Int → Int) (F_hitNear : Int → Int) (G_near : Int → Int) (G_nearEnd : Int → Int) (B_chosen : Int → Int) (B_partOf : Int → Int) (B_rest : Int → Int) (B_unknowns : Int → Int) (B_partStart : Int → Int) (B_cells : Int → Int) (S_minedSet : Int → Int) (S_safeSet : Int → Int) (S_partSet : Int → Int) (S_tally : Int → Int) (S_askedTally : Int → Int) (S_groupOf : Int → Int) (S_groupSize : Int → Int) (S_links : Int → Int) (S_linkEnd : Int → Int) (S_pick : Int → Int) (S_groupMinedSet : Int → Int) (S_groupSafeSet : Int → Int) (O_sums : Int → Int64) (O_nextSums : Int → Int64) (R_found : Int → Int) (R_openEnds : Int → Int) (R_need : Int → Int) (R_waiting : Int → Int) (R_waits : Int → Int) (R_common : Int → Int) (R_met : Int → Int) : Prop :=
  P_X0_forget (fun (A_grade_1 : Int) (A_cell_2 : Int) (A_mined_3 : Int) (A_withTotal_4 : Int) (A_numbers_5 : Int) => (∃ Inv_6 : Nat → (Int) → (Int) → (Int) → (Int) → (Int) → (Int) → (Int) → (Int) → (Int) → (Int) → (Int → Int) → (Int → Int) → (Int → Int) → (Int → Int) → (Int → Int) → (Int → Int) → (Int → Int) → (Int → Int) → (Int → Int) → (Int → Int) → (Int → Int) → (Int → Int) → (Int → Int) → (Int → Int) → (Int → Int) → (Int → Int) → (Int → Int) → (Int → Int) → (Int → Int64) → (Int → Int64) → (Int → Int) → (Int → Int) → (Int → Int) → (Int → Int) → (Int → Int) → (Int → Int) → (Int → Int) → Prop, (∃ n_7 : Nat, Inv_6 n_7 1 B_parts B_longest S_groups S_askedGroup S_taken R_waitingCount R_metCount A_grade_1 A_cell_2 B_chosen B_partOf B_rest B_unknowns B_partStart B_cells S_minedSet S_safeSet S_partSet S_tally S_askedTally S_groupOf S_groupSize S_links S_linkEnd S_pick S_groupMinedSet S_groupSafeSet O_sums O_nextSums R_found R_openEnds R_need R_waiting R_waits R_common R_met) ∧ ∀ (n_8 : Nat) (x1_11 : Int) (B_parts_12 : Int) (B_longest_13 : Int) (S_groups_14 : Int) (S_askedGroup_15 : Int) (S_taken_16 : Int) (R_waitingCount_17 : Int) (R_metCount_18 : Int) (A_grade_19 : Int) (A_cell_20 : Int) (B_chosen_21 : Int → Int) (B_partOf_22 : Int → Int) (B_rest_23 : Int → Int) (B_unknowns_24 : Int → Int) (B_partStart_25 : Int → Int) (B_cells_26 : Int → Int) (S_minedSet_27 : Int → Int) (S_safeSet_28 : Int → Int) (S_partSet_29 : Int → Int) (S_tally_30 : Int → Int) (S_askedTally_31 : Int → Int) (S_groupOf_32 : Int → Int) (S_groupSize_33 : Int → Int) (S_links_34 : Int → Int) (S_linkEnd_35 : Int → Int) (S_pick_36 : Int → Int) (S_groupMinedSet_37 : Int → Int) (S_groupSafeSet_38 : Int → Int) (O_sums_39 : Int → Int64) (O_nextSums_40 : Int → Int64) (R_found_41 : Int → Int) (R_openEnds_42 : Int → Int) (R_need_43 : Int → Int) (R_waiting_44 : Int → Int) (R_waits_45 : Int → Int) (R_common_46 : Int → Int) (R_met_47 : Int → Int), inR x1_11 → Inv_6 n_8 x1_11 B_parts_12 B_longest_13 S_groups_14 S_askedGroup_15 S_taken_16 R_waitingCount_17 R_metCount_18 A_grade_19 A_cell_20 B_chosen_21 B_partOf_22 B_rest_23 B_unknowns_24 B_partStart_25 B_cells_26 S_minedSet_27 S_safeSet_28 S_partSet_29 S_tally_30 S_askedTally_31 S_groupOf_32 S_groupSize_33 S_links_34 S_linkEnd_35 S_pick_36 S_groupMinedSet_37 S_groupSafeSet_38 O_sums_39 O_nextSums_40 R_found_41 R_openEnds_42 R_need_43 R_waiting_44 R_waits_45 R_common_46 R_met_47 → (∃ J_48 : Prop, ((3 < x1_11 → (J_48)) ∧ (¬ 3 < x1_11 → ((¬ A_cell_20 = (-1) → (J_48)) ∧ (A_cell_20 = (-1) → (P_X7_raise (fun (B_parts_65 : Int) (B_longest_66 : Int) (S_groups_67 : Int) (S_askedGroup_68 : Int) (S_taken_69 : Int) (R_waitingCount_70 : Int) (R_metCount_71 : Int) (B_chosen_72 : Int → Int) (B_partOf_73 : Int → Int) (B_rest_74 : Int → Int) (B_unknowns_75 : Int → Int) (B_partStart_76 : Int → Int) (B_cells_77 : Int → Int) (S_minedSet_78 : Int → Int) (S_safeSet_79 : Int → Int) (S_partSet_80 : Int → Int) (S_tally_81 : Int → Int) (S_askedTally_82 : Int → Int) (S_groupOf_83 : Int → Int) (S_groupSize_84 : Int → Int) (S_links_85 : Int → Int) (S_linkEnd_86 : Int → Int) (S_pick_87 : Int → Int) (S_groupMinedSet_88 : Int → Int) (S_groupSafeSet_89 : Int → Int) (O_sums_90 : Int → Int64) (O_nextSums_91 : Int → Int64) (R_found_92 : Int → Int) (R_openEnds_93 : Int → Int) (R_need_94 : Int → Int) (R_waiting_95 : Int → Int) (R_waits_96 : Int → Int) (R_common_97 : Int → Int) (R_met_98 : Int → Int) => (P_X0_firstToTell (fun (c_99 : Int) => inR c_99 → (∃ J_101 : (Int) → Prop, ((¬ c_99 = (-1) → (J_101 x1_11)) ∧ (c_99 = (-1) → (J_101 0))) ∧ (∀ (z_103 : Int), inR z_103 → J_101 z_103 → (inR (x1_11 + 1) ∧ (∀ x1_105 : Int, x1_105 = (x1_11 + 1) → (∃ n_106 : Nat, n_106 < n_8 ∧ Inv_6 n_106 x1_105 B_parts_65 B_longest_66 S_groups_67 S_askedGroup_68 S_taken_69 R_waitingCount_70 R_metCount_71 z_103 c_99 B_chosen_72 B_partOf_73 B_rest_74 B_unknowns_75 B_partStart_76 B_cells_77 S_minedSet_78 S_safeSet_79 S_partSet_80 S_tally_81 S_askedTally_82 S_groupOf_83 S_groupSize_84 S_links_85 S_linkEnd_86 S_pick_87 S_groupMinedSet_88 S_groupSafeSet_89 O_sums_90 O_nextSums_91 R_found_92 R_openEnds_93 R_need_94 R_waiting_95 R_waits_96 R_common_97 R_met_98)))))) G_size F_state R_found_92 )) F_mines G_size B_parts_12 B_longest_13 S_groups_14 S_askedGroup_15 S_taken_16 R_waitingCount_17 R_metCount_18 F_number F_state F_cellsIn F_unknownNear F_hitNear G_near G_nearEnd B_chosen_21 B_partOf_22 B_rest_23 B_unknowns_24 B_partStart_25 B_cells_26 S_minedSet_27 S_safeSet_28 S_partSet_29 S_tally_30 S_askedTally_31 S_groupOf_32 S_groupSize_33 S_links_34 S_linkEnd_35 S_pick_36 S_groupMinedSet_37 S_groupSafeSet_38 O_sums_39 O_nextSums_40 R_found_41 R_openEnds_42 R_need_43 R_waiting_44 R_waits_45 R_common_46 R_met_47 x1_11))))) ∧ (J_48 → (∃ J_51 : (Int) → Prop, (∃ J_55 : Prop, ((A_cell_20 = (-1) → (J_55)) ∧ (¬ A_cell_20 = (-1) → ((0 ≤ A_cell_20 ∧ A_cell_20 < 144) ∧ (∀ v_60 : Int, v_60 = R_found_41 A_cell_20 → inR v_60 → ((¬ v_60 = 2 → (J_55)) ∧ (v_60 = 2 → (J_51 1))))))) ∧ (J_55 → (J_51 0))) ∧ (∀ (z_53 : Int), inR z_53 → J_51 z_53 → ((z_53 = 0 ∨ z_53 = 1) ∧ (post B_parts_12 B_longest_13 S_groups_14 S_askedGroup_15 S_taken_16 R_waitingCount_17 R_metCount_18 A_grade_19 A_cell_20 z_53 A_withTotal_4 A_numbers_5 B_chosen_21 B_partOf_22 B_rest_23 B_unknowns_24 B_partStart_25 B_cells_26 S_minedSet_27 S_safeSet_28 S_partSet_29 S_tally_30 S_askedTally_31 S_groupOf_32 S_groupSize_33 S_links_34 S_linkEnd_35 S_pick_36 S_groupMinedSet_37 S_groupSafeSet_38 O_sums_39 O_nextSums_40 R_found_41 R_openEnds_42 R_need_43 R_waiting_44 R_waits_45 R_common_46 R_met_47)))))))) A_grade A_cell A_mined A_withTotal A_numbers 
set_option maxRecDepth 100000 in
set_option maxHeartbeats 4000000 in
theorem c_X0_seek (l : Launch) (K : wK) (ad : Nat → Nat) {D_hasBoard : Int} {D_beganBlank : Int} {F_mines : Int} {F_moves : Int} {F_changes : Int} {G_width : Int} {G_height : Int} {G_size : Int} {B_parts : Int} {B_longest : Int} {S_groups : Int} {S_askedGroup : Int} {S_taken : Int} {R_waitingCount : Int} {R_metCount : Int} {A_grade : Int} {A_cell : Int} {A_mined : Int} {A_withTotal : Int} {A_numbers : Int} {X_low : Int} {X_high : Int} {Y_low : Int} {Y_high : Int} {F_mined : Int → Int} {F_number : Int → Int} {F_state : Int → Int} {F_cellsIn : Int → Int} {F_unknownNear : Int → Int} {F_hitNear : Int → Int} {F_moveStart : Int → Int} {F_changed : Int → Int} {F_waiting : Int → Int} {F_seen : Int → Int} {G_near : Int → Int} {G_nearEnd : Int → Int} {B_chosen : Int → Int} {B_partOf : Int → Int} {B_rest : Int → Int} {B_unknowns : Int → Int} {B_partStart : Int → Int} {B_cells : Int → Int} {S_minedSet : Int → Int} {S_safeSet : Int → Int} {S_partSet : Int → Int} {S_tally : Int → Int} {S_askedTally : Int → Int} {S_groupOf : Int → Int} {S_groupSize : Int → Int} {S_links : Int → Int} {S_linkEnd : Int → Int} {S_pick : Int → Int} {S_groupMinedSet : Int → Int} {S_groupSafeSet : Int → Int} {O_sums : Int → Int64} {O_nextSums : Int → Int64} {R_found : Int → Int} {R_openEnds : Int → Int} {R_need : Int → Int} {R_waiting : Int → Int} {R_waits : Int → Int} {R_common : Int → Int} {R_met : Int → Int} {A_number : Int → Int} {Q_mined : Int → Int64} {Q_all : Int → Int64} {Q_choices : Int → Int64} {Q_term : Int → Int64} {Q_divisor : Int → Int64} {Q_spare : Int → Int64} {X_limbs : Int → Int64} {X_sum : Int → Int64} {Y_limbs : Int → Int64} {Y_sum : Int → Int64}   (post : (Int) → (Int) → (Int) → (Int) → (Int) → (Int) → (Int) → (Int) → (Int) → (Int) → (Int) → (Int) → (Int → Int) → (Int → Int) → (Int → Int) → (Int → Int) → (Int → Int) → (Int → Int) → (Int → Int) → (Int → Int) → (Int → Int) → (Int → Int) → (Int → Int) → (Int → Int) → (Int → Int) → (Int → Int) → (Int → Int) → (Int → Int) → (Int → Int) → (Int → Int) → (Int → Int64) → (Int → Int64) → (Int → Int) → (Int → Int) → (Int → Int) → (Int → Int) → (Int → Int) → (Int → Int) → (Int → Int) → Prop) (h : P_X0_seek post F_mines G_size B_parts B_longest S_groups S_askedGroup S_taken R_waitingCount R_metCount A_grade A_cell A_mined A_withTotal A_numbers F_number F_state F_cellsIn F_unknownNear F_hitNear G_near G_nearEnd B_chosen B_partOf B_rest B_unknowns B_partStart B_cells S_minedSet S_safeSet S_partSet S_tally S_askedTally S_groupOf S_groupSize S_links S_linkEnd S_pick S_groupMinedSet S_groupSafeSet O_sums O_nextSums R_found R_openEnds R_need R_waiting R_waits R_common R_met) : mV l yX0_seek (Cond.code yX0_seek cX0_seek 2 none :: GT) ({ frames := 26, cells := 0, slots := 0, locals := 1560 } : Room) [.ref (ad 7)] K ad (dW D_hasBoard D_beganBlank F_mines F_moves F_changes G_width G_height G_size B_parts B_longest S_groups S_askedGroup S_taken R_waitingCount R_metCount A_grade A_cell A_mined A_withTotal A_numbers X_low X_high Y_low Y_high F_mined F_number F_state F_cellsIn F_unknownNear F_hitNear F_moveStart F_changed F_waiting F_seen G_near G_nearEnd B_chosen B_partOf B_rest B_unknowns B_partStart B_cells S_minedSet S_safeSet S_partSet S_tally S_askedTally S_groupOf S_groupSize S_links S_linkEnd S_pick S_groupMinedSet S_groupSafeSet O_sums O_nextSums R_found R_openEnds R_need R_waiting R_waits R_common R_met A_number Q_mined Q_all Q_choices Q_term Q_divisor Q_spare X_limbs X_sum Y_limbs Y_sum) (fun u9 => ∃ B_parts9 B_longest9 S_groups9 S_askedGroup9 S_taken9 R_waitingCount9 R_metCount9 A_grade9 A_cell9 A_mined9 A_withTotal9 A_numbers9 B_chosen9 B_partOf9 B_rest9 B_unknowns9 B_partStart9 B_cells9 S_minedSet9 S_safeSet9 S_partSet9 S_tally9 S_askedTally9 S_groupOf9 S_groupSize9 S_links9 S_linkEnd9 S_pick9 S_groupMinedSet9 S_groupSafeSet9 O_sums9 O_nextSums9 R_found9 R_openEnds9 R_need9 R_waiting9 R_waits9 R_common9 R_met9, u9 = (dW D_hasBoard D_beganBlank F_mines F_moves F_changes G_width G_height G_size B_parts9 B_longest9 S_groups9 S_askedGroup9 S_taken9 R_waitingCount9 R_metCount9 A_grade9 A_cell9 A_mined9 A_withTotal9 A_numbers9 X_low X_high Y_low Y_high F_mined F_number F_state F_cellsIn F_unknownNear F_hitNear F_moveStart F_changed F_waiting F_seen G_near G_nearEnd B_chosen9 B_partOf9 B_rest9 B_unknowns9 B_partStart9 B_cells9 S_minedSet9 S_safeSet9 S_partSet9 S_tally9 S_askedTally9 S_groupOf9 S_groupSize9 S_links9 S_linkEnd9 S_pick9 S_groupMinedSet9 S_groupSafeSet9 O_sums9 O_nextSums9 R_found9 R_openEnds9 R_need9 R_waiting9 R_waits9 R_common9 R_met9 A_number Q_mined Q_all Q_choices Q_term Q_divisor Q_spare X_limbs X_sum Y_limbs Y_sum) ∧ post B_parts9 B_longest9 S_groups9 S_askedGroup9 S_taken9 R_waitingCount9 R_metCount9 A_grade9 A_cell9 A_mined9 A_withTotal9 A_numbers9 B_chosen9 B_partOf9 B_rest9 B_unknowns9 B_partStart9 B_cells9 S_minedSet9 S_safeSet9 S_partSet9 S_tally9 S_askedTally9 S_groupOf9 S_groupSize9 S_links9 S_linkEnd9 S_pick9 S_groupMinedSet9 S_groupSafeSet9 O_sums9 O_nextSums9 R_found9 R_openEnds9 R_need9 R_waiting9 R_waits9 R_common9 R_met9) := by
  refine mV_of (lv0 := [(0, .ref (ad 7))]) (by decide) (Nat.le_of_ble_eq_true rfl) rfl ?_
  intro p e s m args below meth c Q A C ret
  replace C : Cx p ({ frames := 26, cells := 0, slots := 0, locals := 1560 } : Room) m c 0 0 cX0_seek 2 s args RX0 K A := C
  unfold P_X0_seek at h
  refine wa_aload_n C 0 rfl dX0_seek_0 rfl ?_
  refine wa_callVv C (k := 7) (As := []) (rest := []) (c_X0_forget l K ad  _ h) gw_605 gw_1008 dW_7 rfl gw_603 gw_604 gw_8 q_X0_forget rfl rfl rfl ⟨by decide, by decide⟩ rfl (Nat.le_of_ble_eq_true rfl) dX0_seek_1 (fun u9 hp => ?_)
  obtain ⟨A_grade_1, A_cell_2, A_mined_3, A_withTotal_4, A_numbers_5, rfl, h⟩ := hp
  refine wa_iconst C (z := 1) dX0_seek_4 rfl ?_
  refine wa_istore_n C dX0_seek_5 rfl (by decide) rfl ?_
  obtain ⟨Inv_6, ⟨n_7, h0Inv_6⟩, hInv_6⟩ := h
  have k_10 : ∀ (n_8 : Nat) (x1_11 : Int) (B_parts_12 : Int) (B_longest_13 : Int) (S_groups_14 : Int) (S_askedGroup_15 : Int) (S_taken_16 : Int) (R_waitingCount_17 : Int) (R_metCount_18 : Int) (A_grade_19 : Int) (A_cell_20 : Int) (B_chosen_21 : Int → Int) (B_partOf_22 : Int → Int) (B_rest_23 : Int → Int) (B_unknowns_24 : Int → Int) (B_partStart_25 : Int → Int) (B_cells_26 : Int → Int) (S_minedSet_27 : Int → Int) (S_safeSet_28 : Int → Int) (S_partSet_29 : Int → Int) (S_tally_30 : Int → Int) (S_askedTally_31 : Int → Int) (S_groupOf_32 : Int → Int) (S_groupSize_33 : Int → Int) (S_links_34 : Int → Int) (S_linkEnd_35 : Int → Int) (S_pick_36 : Int → Int) (S_groupMinedSet_37 : Int → Int) (S_groupSafeSet_38 : Int → Int) (O_sums_39 : Int → Int64) (O_nextSums_40 : Int → Int64) (R_found_41 : Int → Int) (R_openEnds_42 : Int → Int) (R_need_43 : Int → Int) (R_waiting_44 : Int → Int) (R_waits_45 : Int → Int) (R_common_46 : Int → Int) (R_met_47 : Int → Int), inR x1_11 → Inv_6 n_8 x1_11 B_parts_12 B_longest_13 S_groups_14 S_askedGroup_15 S_taken_16 R_waitingCount_17 R_metCount_18 A_grade_19 A_cell_20 B_chosen_21 B_partOf_22 B_rest_23 B_unknowns_24 B_partStart_25 B_cells_26 S_minedSet_27 S_safeSet_28 S_partSet_29 S_tally_30 S_askedTally_31 S_groupOf_32 S_groupSize_33 S_links_34 S_linkEnd_35 S_pick_36 S_groupMinedSet_37 S_groupSafeSet_38 O_sums_39 O_nextSums_40 R_found_41 R_openEnds_42 R_need_43 R_waiting_44 R_waits_45 R_common_46 R_met_47 → WA p l e ({ frames := 26, cells := 0, slots := 0, locals := 1560 } : Room) s m args below meth c 0 0 Q K ad 2 A 6 [(0, .ref (ad 7)), (1, .int (iI x1_11))] [] (dW D_hasBoard D_beganBlank F_mines F_moves F_changes G_width G_height G_size B_parts_12 B_longest_13 S_groups_14 S_askedGroup_15 S_taken_16 R_waitingCount_17 R_metCount_18 A_grade_19 A_cell_20 A_mined_3 A_withTotal_4 A_numbers_5 X_low X_high Y_low Y_high F_mined F_number F_state F_cellsIn F_unknownNear F_hitNear F_moveStart F_changed F_waiting F_seen G_near G_nearEnd B_chosen_21 B_partOf_22 B_rest_23 B_unknowns_24 B_partStart_25 B_cells_26 S_minedSet_27 S_safeSet_28 S_partSet_29 S_tally_30 S_askedTally_31 S_groupOf_32 S_groupSize_33 S_links_34 S_linkEnd_35 S_pick_36 S_groupMinedSet_37 S_groupSafeSet_38 O_sums_39 O_nextSums_40 R_found_41 R_openEnds_42 R_need_43 R_waiting_44 R_waits_45 R_common_46 R_met_47 A_number Q_mined Q_all Q_choices Q_term Q_divisor Q_spare X_limbs X_sum Y_limbs Y_sum) := by
    intro n_8
    induction n_8 using Nat.strongRecOn with
    | ind n_8 ih_9 =>
      intro x1_11 B_parts_12 B_longest_13 S_groups_14 S_askedGroup_15 S_taken_16 R_waitingCount_17 R_metCount_18 A_grade_19 A_cell_20 B_chosen_21 B_partOf_22 B_rest_23 B_unknowns_24 B_partStart_25 B_cells_26 S_minedSet_27 S_safeSet_28 S_partSet_29 S_tally_30 S_askedTally_31 S_groupOf_32 S_groupSize_33 S_links_34 S_linkEnd_35 S_pick_36 S_groupMinedSet_37 S_groupSafeSet_38 O_sums_39 O_nextSums_40 R_found_41 R_openEnds_42 R_need_43 R_waiting_44 R_waits_45 R_common_46 R_met_47 rx1_11 h
      replace h := hInv_6 n_8 x1_11 B_parts_12 B_longest_13 S_groups_14 S_askedGroup_15 S_taken_16 R_waitingCount_17 R_metCount_18 A_grade_19 A_cell_20 B_chosen_21 B_partOf_22 B_rest_23 B_unknowns_24 B_partStart_25 B_cells_26 S_minedSet_27 S_safeSet_28 S_partSet_29 S_tally_30 S_askedTally_31 S_groupOf_32 S_groupSize_33 S_links_34 S_linkEnd_35 S_pick_36 S_groupMinedSet_37 S_groupSafeSet_38 O_sums_39 O_nextSums_40 R_found_41 R_openEnds_42 R_need_43 R_waiting_44 R_waits_45 R_common_46 R_met_47 rx1_11 h
      refine wa_iload_n C 1 rfl dX0_seek_6 rfl ?_
      refine wa_iconst C (z := 3) dX0_seek_7 rfl ?_
      obtain ⟨J_48, h, hJ_48⟩ := h
      have k_49 : J_48 → WA p l e ({ frames := 26, cells := 0, slots := 0, locals := 1560 } : Room) s m args below meth c 0 0 Q K ad 2 A 58 [(0, .ref (ad 7))] [] (dW D_hasBoard D_beganBlank F_mines F_moves F_changes G_width G_height G_size B_parts_12 B_longest_13 S_groups_14 S_askedGroup_15 S_taken_16 R_waitingCount_17 R_metCount_18 A_grade_19 A_cell_20 A_mined_3 A_withTotal_4 A_numbers_5 X_low X_high Y_low Y_high F_mined F_number F_state F_cellsIn F_unknownNear F_hitNear F_moveStart F_changed F_waiting F_seen G_near G_nearEnd B_chosen_21 B_partOf_22 B_rest_23 B_unknowns_24 B_partStart_25 B_cells_26 S_minedSet_27 S_safeSet_28 S_partSet_29 S_tally_30 S_askedTally_31 S_groupOf_32 S_groupSize_33 S_links_34 S_linkEnd_35 S_pick_36 S_groupMinedSet_37 S_groupSafeSet_38 O_sums_39 O_nextSums_40 R_found_41 R_openEnds_42 R_need_43 R_waiting_44 R_waits_45 R_common_46 R_met_47 A_number Q_mined Q_all Q_choices Q_term Q_divisor Q_spare X_limbs X_sum Y_limbs Y_sum) := by
        intro h
        replace h := hJ_48 h
        refine wa_aload_n C 0 rfl dX0_seek_58 rfl ?_
        refine wa_aload_n C 0 rfl dX0_seek_59 rfl ?_
        refine wa_getI C 7 1 dW_7 rfl rfl (by decide) okX0 gw_343 dX0_seek_60 (fun r_50 => ?_)
        refine wa_iconst C (z := -1) dX0_seek_63 rfl ?_
        obtain ⟨J_51, h, hJ_51⟩ := h
        have k_52 : ∀ (z_53 : Int), inR z_53 → J_51 z_53 → WA p l e ({ frames := 26, cells := 0, slots := 0, locals := 1560 } : Room) s m args below meth c 0 0 Q K ad 2 A 88 [] [.int (iI z_53), .ref (ad 7)] (dW D_hasBoard D_beganBlank F_mines F_moves F_changes G_width G_height G_size B_parts_12 B_longest_13 S_groups_14 S_askedGroup_15 S_taken_16 R_waitingCount_17 R_metCount_18 A_grade_19 A_cell_20 A_mined_3 A_withTotal_4 A_numbers_5 X_low X_high Y_low Y_high F_mined F_number F_state F_cellsIn F_unknownNear F_hitNear F_moveStart F_changed F_waiting F_seen G_near G_nearEnd B_chosen_21 B_partOf_22 B_rest_23 B_unknowns_24 B_partStart_25 B_cells_26 S_minedSet_27 S_safeSet_28 S_partSet_29 S_tally_30 S_askedTally_31 S_groupOf_32 S_groupSize_33 S_links_34 S_linkEnd_35 S_pick_36 S_groupMinedSet_37 S_groupSafeSet_38 O_sums_39 O_nextSums_40 R_found_41 R_openEnds_42 R_need_43 R_waiting_44 R_waits_45 R_common_46 R_met_47 A_number Q_mined Q_all Q_choices Q_term Q_divisor Q_spare X_limbs X_sum Y_limbs Y_sum) := by
          intro z_53 rz_53 h
          replace h := hJ_51 z_53 rz_53 h
          obtain ⟨b_54, h⟩ := h
          refine wa_putZ C (ws' := (dW D_hasBoard D_beganBlank F_mines F_moves F_changes G_width G_height G_size B_parts_12 B_longest_13 S_groups_14 S_askedGroup_15 S_taken_16 R_waitingCount_17 R_metCount_18 A_grade_19 A_cell_20 z_53 A_withTotal_4 A_numbers_5 X_low X_high Y_low Y_high F_mined F_number F_state F_cellsIn F_unknownNear F_hitNear F_moveStart F_changed F_waiting F_seen G_near G_nearEnd B_chosen_21 B_partOf_22 B_rest_23 B_unknowns_24 B_partStart_25 B_cells_26 S_minedSet_27 S_safeSet_28 S_partSet_29 S_tally_30 S_askedTally_31 S_groupOf_32 S_groupSize_33 S_links_34 S_linkEnd_35 S_pick_36 S_groupMinedSet_37 S_groupSafeSet_38 O_sums_39 O_nextSums_40 R_found_41 R_openEnds_42 R_need_43 R_waiting_44 R_waits_45 R_common_46 R_met_47 A_number Q_mined Q_all Q_choices Q_term Q_divisor Q_spare X_limbs X_sum Y_limbs Y_sum)) 7 2 dW_7 rfl (by decide) okX0 gw_345 rfl rfl (Nat.le_of_ble_eq_true rfl) b_54 (dWp_7_2 _) dX0_seek_88 ?_
          exact ret dX0_seek_91 ⟨_, _, _, _, _, _, _, _, _, _, _, _, _, _, _, _, _, _, _, _, _, _, _, _, _, _, _, _, _, _, _, _, _, _, _, _, _, _, _, rfl, h⟩
        obtain ⟨J_55, h, hJ_55⟩ := h
        have k_56 : J_55 → WA p l e ({ frames := 26, cells := 0, slots := 0, locals := 1560 } : Room) s m args below meth c 0 0 Q K ad 2 A 87 [] [.ref (ad 7)] (dW D_hasBoard D_beganBlank F_mines F_moves F_changes G_width G_height G_size B_parts_12 B_longest_13 S_groups_14 S_askedGroup_15 S_taken_16 R_waitingCount_17 R_metCount_18 A_grade_19 A_cell_20 A_mined_3 A_withTotal_4 A_numbers_5 X_low X_high Y_low Y_high F_mined F_number F_state F_cellsIn F_unknownNear F_hitNear F_moveStart F_changed F_waiting F_seen G_near G_nearEnd B_chosen_21 B_partOf_22 B_rest_23 B_unknowns_24 B_partStart_25 B_cells_26 S_minedSet_27 S_safeSet_28 S_partSet_29 S_tally_30 S_askedTally_31 S_groupOf_32 S_groupSize_33 S_links_34 S_linkEnd_35 S_pick_36 S_groupMinedSet_37 S_groupSafeSet_38 O_sums_39 O_nextSums_40 R_found_41 R_openEnds_42 R_need_43 R_waiting_44 R_waits_45 R_common_46 R_met_47 A_number Q_mined Q_all Q_choices Q_term Q_divisor Q_spare X_limbs X_sum Y_limbs Y_sum) := by
          intro h
          replace h := hJ_55 h
          refine wa_iconst C (z := 0) dX0_seek_87 rfl ?_
          refine wa_sub C [] rfl ?_
          exact k_52 0 (inR_k 0 rfl) h
        refine wa_icmp_eq C (tgt := 87) r_50 (inR_k (-1) rfl) dX0_seek_64 (by decide) (fun c_57 => ?_) (fun c_57 => ?_)
        · replace h := h.1 c_57
          refine wa_sub C [] rfl ?_
          exact k_56 h
        · replace h := h.2 c_57
          refine wa_aload_n C 0 rfl dX0_seek_67 rfl ?_
          refine wa_getR C 7 6 dW_7 rfl rfl (by decide) okX0 gw_353 dX0_seek_68 ?_
          refine wa_getR C 6 0 dW_6 rfl rfl (by decide) okX7 gw_296 dX0_seek_71 ?_
          refine wa_aload_n C 0 rfl dX0_seek_74 rfl ?_
          refine wa_getI C 7 1 dW_7 rfl rfl (by decide) okX0 gw_343 dX0_seek_75 (fun r_58 => ?_)
          obtain ⟨t_59, h⟩ := h
          refine wa_iald C 44 dW_44 dX0_seek_78 t_59.1 t_59.2 (fun v_60 ev_60 rv_60 => ?_)
          replace h := h v_60 ev_60 rv_60
          refine wa_iconst C (z := 2) dX0_seek_79 rfl ?_
          refine wa_icmp_ne C (tgt := 87) rv_60 (inR_k 2 rfl) dX0_seek_80 (by decide) (fun c_61 => ?_) (fun c_61 => ?_)
          · replace h := h.1 c_61
            refine wa_sub C [] rfl ?_
            exact k_56 h
          · replace h := h.2 c_61
            refine wa_iconst C (z := 1) dX0_seek_83 rfl ?_
            refine wa_goto C (tgt := 88) dX0_seek_84 (by decide) ?_
            refine wa_sub C [] rfl ?_
            exact k_52 1 (inR_k 1 rfl) h
      refine wa_icmp_gt C (tgt := 58) rx1_11 (inR_k 3 rfl) dX0_seek_8 (by decide) (fun c_62 => ?_) (fun c_62 => ?_)
      · replace h := h.1 c_62
        refine wa_sub C [0] rfl ?_
        exact k_49 h
      · replace h := h.2 c_62
        refine wa_aload_n C 0 rfl dX0_seek_11 rfl ?_
        refine wa_getI C 7 1 dW_7 rfl rfl (by decide) okX0 gw_343 dX0_seek_12 (fun r_63 => ?_)
        refine wa_iconst C (z := -1) dX0_seek_15 rfl ?_
        refine wa_icmp_ne C (tgt := 58) r_63 (inR_k (-1) rfl) dX0_seek_16 (by decide) (fun c_64 => ?_) (fun c_64 => ?_)
        · replace h := h.1 c_64
          refine wa_sub C [0] rfl ?_
          exact k_49 h
        · replace h := h.2 c_64
          refine wa_aload_n C 0 rfl dX0_seek_19 rfl ?_
          refine wa_getR C 7 6 dW_7 rfl rfl (by decide) okX0 gw_353 dX0_seek_20 ?_
          refine wa_iload_n C 1 rfl dX0_seek_23 rfl ?_
          refine wa_callVv C (k := 6) (As := [.int (iI x1_11)]) (rest := []) (c_X7_raise l K ad x1_11 rx1_11 _ h) gw_674 gw_1009 dW_6 rfl gw_672 gw_673 gw_7 q_X7_raise rfl rfl rfl ⟨by decide, by decide⟩ rfl (Nat.le_of_ble_eq_true rfl) dX0_seek_24 (fun u9 hp => ?_)
          obtain ⟨B_parts_65, B_longest_66, S_groups_67, S_askedGroup_68, S_taken_69, R_waitingCount_70, R_metCount_71, B_chosen_72, B_partOf_73, B_rest_74, B_unknowns_75, B_partStart_76, B_cells_77, S_minedSet_78, S_safeSet_79, S_partSet_80, S_tally_81, S_askedTally_82, S_groupOf_83, S_groupSize_84, S_links_85, S_linkEnd_86, S_pick_87, S_groupMinedSet_88, S_groupSafeSet_89, O_sums_90, O_nextSums_91, R_found_92, R_openEnds_93, R_need_94, R_waiting_95, R_waits_96, R_common_97, R_met_98, rfl, h⟩ := hp
          refine wa_aload_n C 0 rfl dX0_seek_27 rfl ?_
          refine wa_aload_n C 0 rfl dX0_seek_28 rfl ?_
          refine wa_callVi C (k := 7) (As := []) (rest := [.ref (ad 7)]) (c_X0_firstToTell l K ad  _ h) gw_1013 gw_1010 dW_7 rfl gw_1012 gs_40 gw_8 q_X0_firstToTell rfl rfl rfl ⟨by decide, by decide⟩ rfl (Nat.le_of_ble_eq_true rfl) dX0_seek_29 (fun c_99 u9 rc_99 hp => ?_)
          obtain ⟨rfl, h⟩ := hp
          replace h := h rc_99
          refine wa_putI C (ws' := (dW D_hasBoard D_beganBlank F_mines F_moves F_changes G_width G_height G_size B_parts_65 B_longest_66 S_groups_67 S_askedGroup_68 S_taken_69 R_waitingCount_70 R_metCount_71 A_grade_19 c_99 A_mined_3 A_withTotal_4 A_numbers_5 X_low X_high Y_low Y_high F_mined F_number F_state F_cellsIn F_unknownNear F_hitNear F_moveStart F_changed F_waiting F_seen G_near G_nearEnd B_chosen_72 B_partOf_73 B_rest_74 B_unknowns_75 B_partStart_76 B_cells_77 S_minedSet_78 S_safeSet_79 S_partSet_80 S_tally_81 S_askedTally_82 S_groupOf_83 S_groupSize_84 S_links_85 S_linkEnd_86 S_pick_87 S_groupMinedSet_88 S_groupSafeSet_89 O_sums_90 O_nextSums_91 R_found_92 R_openEnds_93 R_need_94 R_waiting_95 R_waits_96 R_common_97 R_met_98 A_number Q_mined Q_all Q_choices Q_term Q_divisor Q_spare X_limbs X_sum Y_limbs Y_sum)) 7 1 dW_7 rfl (by decide) okX0 gw_343 rfl rfl (Nat.le_of_ble_eq_true rfl) rc_99 (dWp_7_1 _) dX0_seek_32 ?_
          refine wa_aload_n C 0 rfl dX0_seek_35 rfl ?_
          refine wa_aload_n C 0 rfl dX0_seek_36 rfl ?_
          refine wa_getI C 7 1 dW_7 rfl rfl (by decide) okX0 gw_343 dX0_seek_37 (fun r_100 => ?_)
          refine wa_iconst C (z := -1) dX0_seek_40 rfl ?_
          obtain ⟨J_101, h, hJ_101⟩ := h
          have k_102 : ∀ (z_103 : Int), inR z_103 → J_101 z_103 → WA p l e ({ frames := 26, cells := 0, slots := 0, locals := 1560 } : Room) s m args below meth c 0 0 Q K ad 2 A 49 [(0, .ref (ad 7)), (1, .int (iI x1_11))] [.int (iI z_103), .ref (ad 7)] (dW D_hasBoard D_beganBlank F_mines F_moves F_changes G_width G_height G_size B_parts_65 B_longest_66 S_groups_67 S_askedGroup_68 S_taken_69 R_waitingCount_70 R_metCount_71 A_grade_19 c_99 A_mined_3 A_withTotal_4 A_numbers_5 X_low X_high Y_low Y_high F_mined F_number F_state F_cellsIn F_unknownNear F_hitNear F_moveStart F_changed F_waiting F_seen G_near G_nearEnd B_chosen_72 B_partOf_73 B_rest_74 B_unknowns_75 B_partStart_76 B_cells_77 S_minedSet_78 S_safeSet_79 S_partSet_80 S_tally_81 S_askedTally_82 S_groupOf_83 S_groupSize_84 S_links_85 S_linkEnd_86 S_pick_87 S_groupMinedSet_88 S_groupSafeSet_89 O_sums_90 O_nextSums_91 R_found_92 R_openEnds_93 R_need_94 R_waiting_95 R_waits_96 R_common_97 R_met_98 A_number Q_mined Q_all Q_choices Q_term Q_divisor Q_spare X_limbs X_sum Y_limbs Y_sum) := by
            intro z_103 rz_103 h
            replace h := hJ_101 z_103 rz_103 h
            refine wa_putI C (ws' := (dW D_hasBoard D_beganBlank F_mines F_moves F_changes G_width G_height G_size B_parts_65 B_longest_66 S_groups_67 S_askedGroup_68 S_taken_69 R_waitingCount_70 R_metCount_71 z_103 c_99 A_mined_3 A_withTotal_4 A_numbers_5 X_low X_high Y_low Y_high F_mined F_number F_state F_cellsIn F_unknownNear F_hitNear F_moveStart F_changed F_waiting F_seen G_near G_nearEnd B_chosen_72 B_partOf_73 B_rest_74 B_unknowns_75 B_partStart_76 B_cells_77 S_minedSet_78 S_safeSet_79 S_partSet_80 S_tally_81 S_askedTally_82 S_groupOf_83 S_groupSize_84 S_links_85 S_linkEnd_86 S_pick_87 S_groupMinedSet_88 S_groupSafeSet_89 O_sums_90 O_nextSums_91 R_found_92 R_openEnds_93 R_need_94 R_waiting_95 R_waits_96 R_common_97 R_met_98 A_number Q_mined Q_all Q_choices Q_term Q_divisor Q_spare X_limbs X_sum Y_limbs Y_sum)) 7 0 dW_7 rfl (by decide) okX0 gw_341 rfl rfl (Nat.le_of_ble_eq_true rfl) rz_103 (dWp_7_0 _) dX0_seek_49 ?_
            obtain ⟨r_104, h⟩ := h
            refine wa_iinc C (lv' := fun w9 => [(1, .int (iI w9)), (0, .ref (ad 7))]) 1 rfl dX0_seek_52 (by decide) (fun _ => rfl) (fun x1_105 ex1_105 => ?_)
            replace h := h x1_105 ex1_105
            have rx1_105 : inR x1_105 := by rw [ex1_105]; exact r_104
            refine wa_goto C (tgt := 6) dX0_seek_55 (by decide) ?_
            obtain ⟨n_106, ln_106, h⟩ := h
            refine wa_sub C [1, 0] rfl ?_
            exact ih_9 n_106 ln_106 x1_105 B_parts_65 B_longest_66 S_groups_67 S_askedGroup_68 S_taken_69 R_waitingCount_70 R_metCount_71 z_103 c_99 B_chosen_72 B_partOf_73 B_rest_74 B_unknowns_75 B_partStart_76 B_cells_77 S_minedSet_78 S_safeSet_79 S_partSet_80 S_tally_81 S_askedTally_82 S_groupOf_83 S_groupSize_84 S_links_85 S_linkEnd_86 S_pick_87 S_groupMinedSet_88 S_groupSafeSet_89 O_sums_90 O_nextSums_91 R_found_92 R_openEnds_93 R_need_94 R_waiting_95 R_waits_96 R_common_97 R_met_98 rx1_105 h
          refine wa_icmp_ne C (tgt := 48) rc_99 (inR_k (-1) rfl) dX0_seek_41 (by decide) (fun c_107 => ?_) (fun c_107 => ?_)
          · replace h := h.1 c_107
            refine wa_iload_n C 1 rfl dX0_seek_48 rfl ?_
            refine wa_sub C [0, 1] rfl ?_
            exact k_102 x1_11 rx1_11 h
          · replace h := h.2 c_107
            refine wa_iconst C (z := 0) dX0_seek_44 rfl ?_
            refine wa_goto C (tgt := 49) dX0_seek_45 (by decide) ?_
            refine wa_sub C [0, 1] rfl ?_
            exact k_102 0 (inR_k 0 rfl) h
  refine wa_sub C [1, 0] rfl ?_
  exact k_10 n_7 1 B_parts B_longest S_groups S_askedGroup S_taken R_waitingCount R_metCount A_grade_1 A_cell_2 B_chosen B_partOf B_rest B_unknowns B_partStart B_cells S_minedSet S_safeSet S_partSet S_tally S_askedTally S_groupOf S_groupSize S_links S_linkEnd S_pick S_groupMinedSet S_groupSafeSet O_sums O_nextSums R_found R_openEnds R_need R_waiting R_waits R_common R_met (inR_k 1 rfl) h0Inv_6
def P_X0_keepChosen (post : (Int) → (Int → Int) → Prop) (G_size : Int) (A_numbers : Int) (B_chosen : Int → Int) (A_number : Int → Int) : Prop :=
  ∃ Inv_1 : Nat → (Int) → (Int) → (Int → Int) → Prop, (∃ n_2 : Nat, Inv_1 n_2 0 A_numbers A_number) ∧ ∀ (n_3 : Nat) (x1_6 : Int) (A_numbers_7 : Int) (A_number_8 : Int → Int), inR x1_6 → Inv_1 n_3 x1_6 A_numbers_7 A_number_8 → ((G_size ≤ x1_6 → (post A_numbers_7 A_number_8)) ∧ (¬ G_size ≤ x1_6 → ((0 ≤ x1_6 ∧ x1_6 < 144) ∧ (∀ v_12 : Int, v_12 = B_chosen x1_6 → (v_12 = 0 ∨ v_12 = 1) → (∃ J_13 : (Int) → (Int → Int) → Prop, ((v_12 = 0 → (J_13 A_numbers_7 A_number_8)) ∧ (¬ v_12 = 0 → ((0 ≤ A_numbers_7 ∧ A_numbers_7 < 144) ∧ (∀ A_number_23 : Int → Int, A_number_23 = upZ A_number_8 A_numbers_7 x1_6 → (inR (A_numbers_7 + 1) ∧ (∀ A_numbers_26 : Int, A_numbers_26 = (A_numbers_7 + 1) → (J_13 A_numbers_26 A_number_23))))))) ∧ (∀ (A_numbers_15 : Int) (A_number_16 : Int → Int), J_13 A_numbers_15 A_number_16 → (inR (x1_6 + 1) ∧ (∀ x1_18 : Int, x1_18 = (x1_6 + 1) → (∃ n_19 : Nat, n_19 < n_3 ∧ Inv_1 n_19 x1_18 A_numbers_15 A_number_16)))))))))
set_option maxRecDepth 100000 in
set_option maxHeartbeats 4000000 in
theorem c_X0_keepChosen (l : Launch) (K : wK) (ad : Nat → Nat) {D_hasBoard : Int} {D_beganBlank : Int} {F_mines : Int} {F_moves : Int} {F_changes : Int} {G_width : Int} {G_height : Int} {G_size : Int} {B_parts : Int} {B_longest : Int} {S_groups : Int} {S_askedGroup : Int} {S_taken : Int} {R_waitingCount : Int} {R_metCount : Int} {A_grade : Int} {A_cell : Int} {A_mined : Int} {A_withTotal : Int} {A_numbers : Int} {X_low : Int} {X_high : Int} {Y_low : Int} {Y_high : Int} {F_mined : Int → Int} {F_number : Int → Int} {F_state : Int → Int} {F_cellsIn : Int → Int} {F_unknownNear : Int → Int} {F_hitNear : Int → Int} {F_moveStart : Int → Int} {F_changed : Int → Int} {F_waiting : Int → Int} {F_seen : Int → Int} {G_near : Int → Int} {G_nearEnd : Int → Int} {B_chosen : Int → Int} {B_partOf : Int → Int} {B_rest : Int → Int} {B_unknowns : Int → Int} {B_partStart : Int → Int} {B_cells : Int → Int} {S_minedSet : Int → Int} {S_safeSet : Int → Int} {S_partSet : Int → Int} {S_tally : Int → Int} {S_askedTally : Int → Int} {S_groupOf : Int → Int} {S_groupSize : Int → Int} {S_links : Int → Int} {S_linkEnd : Int → Int} {S_pick : Int → Int} {S_groupMinedSet : Int → Int} {S_groupSafeSet : Int → Int} {O_sums : Int → Int64} {O_nextSums : Int → Int64} {R_found : Int → Int} {R_openEnds : Int → Int} {R_need : Int → Int} {R_waiting : Int → Int} {R_waits : Int → Int} {R_common : Int → Int} {R_met : Int → Int} {A_number : Int → Int} {Q_mined : Int → Int64} {Q_all : Int → Int64} {Q_choices : Int → Int64} {Q_term : Int → Int64} {Q_divisor : Int → Int64} {Q_spare : Int → Int64} {X_limbs : Int → Int64} {X_sum : Int → Int64} {Y_limbs : Int → Int64} {Y_sum : Int → Int64}   (post : (Int) → (Int → Int) → Prop) (h : P_X0_keepChosen post G_size A_numbers B_chosen A_number) : mV l yX0_keepChosen (Cond.code yX0_keepChosen cX0_keepChosen 2 none :: GT) ({ frames := 2, cells := 0, slots := 0, locals := 120 } : Room) [.ref (ad 7)] K ad (dW D_hasBoard D_beganBlank F_mines F_moves F_changes G_width G_height G_size B_parts B_longest S_groups S_askedGroup S_taken R_waitingCount R_metCount A_grade A_cell A_mined A_withTotal A_numbers X_low X_high Y_low Y_high F_mined F_number F_state F_cellsIn F_unknownNear F_hitNear F_moveStart F_changed F_waiting F_seen G_near G_nearEnd B_chosen B_partOf B_rest B_unknowns B_partStart B_cells S_minedSet S_safeSet S_partSet S_tally S_askedTally S_groupOf S_groupSize S_links S_linkEnd S_pick S_groupMinedSet S_groupSafeSet O_sums O_nextSums R_found R_openEnds R_need R_waiting R_waits R_common R_met A_number Q_mined Q_all Q_choices Q_term Q_divisor Q_spare X_limbs X_sum Y_limbs Y_sum) (fun u9 => ∃ A_numbers9 A_number9, u9 = (dW D_hasBoard D_beganBlank F_mines F_moves F_changes G_width G_height G_size B_parts B_longest S_groups S_askedGroup S_taken R_waitingCount R_metCount A_grade A_cell A_mined A_withTotal A_numbers9 X_low X_high Y_low Y_high F_mined F_number F_state F_cellsIn F_unknownNear F_hitNear F_moveStart F_changed F_waiting F_seen G_near G_nearEnd B_chosen B_partOf B_rest B_unknowns B_partStart B_cells S_minedSet S_safeSet S_partSet S_tally S_askedTally S_groupOf S_groupSize S_links S_linkEnd S_pick S_groupMinedSet S_groupSafeSet O_sums O_nextSums R_found R_openEnds R_need R_waiting R_waits R_common R_met A_number9 Q_mined Q_all Q_choices Q_term Q_divisor Q_spare X_limbs X_sum Y_limbs Y_sum) ∧ post A_numbers9 A_number9) := by
  refine mV_of (lv0 := [(0, .ref (ad 7))]) (by decide) (Nat.le_of_ble_eq_true rfl) rfl ?_
  intro p e s m args below meth c Q A C ret
  replace C : Cx p ({ frames := 2, cells := 0, slots := 0, locals := 120 } : Room) m c 0 0 cX0_keepChosen 2 s args RX0 K A := C
  unfold P_X0_keepChosen at h
  refine wa_iconst C (z := 0) dX0_keepChosen_0 rfl ?_
  refine wa_istore_n C dX0_keepChosen_1 rfl (by decide) rfl ?_
  obtain ⟨Inv_1, ⟨n_2, h0Inv_1⟩, hInv_1⟩ := h
  have k_5 : ∀ (n_3 : Nat) (x1_6 : Int) (A_numbers_7 : Int) (A_number_8 : Int → Int), inR x1_6 → Inv_1 n_3 x1_6 A_numbers_7 A_number_8 → WA p l e ({ frames := 2, cells := 0, slots := 0, locals := 120 } : Room) s m args below meth c 0 0 Q K ad 2 A 2 [(0, .ref (ad 7)), (1, .int (iI x1_6))] [] (dW D_hasBoard D_beganBlank F_mines F_moves F_changes G_width G_height G_size B_parts B_longest S_groups S_askedGroup S_taken R_waitingCount R_metCount A_grade A_cell A_mined A_withTotal A_numbers_7 X_low X_high Y_low Y_high F_mined F_number F_state F_cellsIn F_unknownNear F_hitNear F_moveStart F_changed F_waiting F_seen G_near G_nearEnd B_chosen B_partOf B_rest B_unknowns B_partStart B_cells S_minedSet S_safeSet S_partSet S_tally S_askedTally S_groupOf S_groupSize S_links S_linkEnd S_pick S_groupMinedSet S_groupSafeSet O_sums O_nextSums R_found R_openEnds R_need R_waiting R_waits R_common R_met A_number_8 Q_mined Q_all Q_choices Q_term Q_divisor Q_spare X_limbs X_sum Y_limbs Y_sum) := by
    intro n_3
    induction n_3 using Nat.strongRecOn with
    | ind n_3 ih_4 =>
      intro x1_6 A_numbers_7 A_number_8 rx1_6 h
      replace h := hInv_1 n_3 x1_6 A_numbers_7 A_number_8 rx1_6 h
      refine wa_iload_n C 1 rfl dX0_keepChosen_2 rfl ?_
      refine wa_aload_n C 0 rfl dX0_keepChosen_3 rfl ?_
      refine wa_getR C 7 8 dW_7 rfl rfl (by decide) okX0 gw_355 dX0_keepChosen_4 ?_
      refine wa_getR C 1 0 dW_1 rfl rfl (by decide) okX2 gw_87 dX0_keepChosen_7 ?_
      refine wa_getI C 2 2 dW_2 rfl rfl (by decide) okX3 gw_57 dX0_keepChosen_10 (fun r_9 => ?_)
      refine wa_icmp_ge C (tgt := 54) rx1_6 r_9 dX0_keepChosen_13 (by decide) (fun c_10 => ?_) (fun c_10 => ?_)
      · replace h := h.1 c_10
        exact ret dX0_keepChosen_54 ⟨_, _, rfl, h⟩
      · replace h := h.2 c_10
        refine wa_aload_n C 0 rfl dX0_keepChosen_16 rfl ?_
        refine wa_getR C 7 9 dW_7 rfl rfl (by decide) okX0 gw_356 dX0_keepChosen_17 ?_
        refine wa_getR C 3 2 dW_3 rfl rfl (by decide) okX1 gw_161 dX0_keepChosen_20 ?_
        refine wa_iload_n C 1 rfl dX0_keepChosen_23 rfl ?_
        obtain ⟨t_11, h⟩ := h
        refine wa_bald C 24 dW_24 dX0_keepChosen_24 t_11.1 t_11.2 (fun v_12 ev_12 rv_12 => ?_)
        replace h := h v_12 ev_12 rv_12
        obtain ⟨J_13, h, hJ_13⟩ := h
        have k_14 : ∀ (A_numbers_15 : Int) (A_number_16 : Int → Int), J_13 A_numbers_15 A_number_16 → WA p l e ({ frames := 2, cells := 0, slots := 0, locals := 120 } : Room) s m args below meth c 0 0 Q K ad 2 A 48 [(0, .ref (ad 7)), (1, .int (iI x1_6))] [] (dW D_hasBoard D_beganBlank F_mines F_moves F_changes G_width G_height G_size B_parts B_longest S_groups S_askedGroup S_taken R_waitingCount R_metCount A_grade A_cell A_mined A_withTotal A_numbers_15 X_low X_high Y_low Y_high F_mined F_number F_state F_cellsIn F_unknownNear F_hitNear F_moveStart F_changed F_waiting F_seen G_near G_nearEnd B_chosen B_partOf B_rest B_unknowns B_partStart B_cells S_minedSet S_safeSet S_partSet S_tally S_askedTally S_groupOf S_groupSize S_links S_linkEnd S_pick S_groupMinedSet S_groupSafeSet O_sums O_nextSums R_found R_openEnds R_need R_waiting R_waits R_common R_met A_number_16 Q_mined Q_all Q_choices Q_term Q_divisor Q_spare X_limbs X_sum Y_limbs Y_sum) := by
          intro A_numbers_15 A_number_16 h
          replace h := hJ_13 A_numbers_15 A_number_16 h
          obtain ⟨r_17, h⟩ := h
          refine wa_iinc C (lv' := fun w9 => [(1, .int (iI w9)), (0, .ref (ad 7))]) 1 rfl dX0_keepChosen_48 (by decide) (fun _ => rfl) (fun x1_18 ex1_18 => ?_)
          replace h := h x1_18 ex1_18
          have rx1_18 : inR x1_18 := by rw [ex1_18]; exact r_17
          refine wa_goto C (tgt := 2) dX0_keepChosen_51 (by decide) ?_
          obtain ⟨n_19, ln_19, h⟩ := h
          refine wa_sub C [1, 0] rfl ?_
          exact ih_4 n_19 ln_19 x1_18 A_numbers_15 A_number_16 rx1_18 h
        refine wa_if_eq C (tgt := 48) (inR_b rv_12) dX0_keepChosen_25 (by decide) (fun c_20 => ?_) (fun c_20 => ?_)
        · replace h := h.1 c_20
          refine wa_sub C [0, 1] rfl ?_
          exact k_14 A_numbers_7 A_number_8 h
        · replace h := h.2 c_20
          refine wa_aload_n C 0 rfl dX0_keepChosen_28 rfl ?_
          refine wa_getR C 7 4 dW_7 rfl rfl (by decide) okX0 gw_349 dX0_keepChosen_29 ?_
          refine wa_aload_n C 0 rfl dX0_keepChosen_32 rfl ?_
          refine wa_getI C 7 5 dW_7 rfl rfl (by decide) okX0 gw_351 dX0_keepChosen_33 (fun r_21 => ?_)
          refine wa_iload_n C 1 rfl dX0_keepChosen_36 rfl ?_
          obtain ⟨t_22, h⟩ := h
          refine wa_iast C (ws' := fun w9 => (dW D_hasBoard D_beganBlank F_mines F_moves F_changes G_width G_height G_size B_parts B_longest S_groups S_askedGroup S_taken R_waitingCount R_metCount A_grade A_cell A_mined A_withTotal A_numbers_7 X_low X_high Y_low Y_high F_mined F_number F_state F_cellsIn F_unknownNear F_hitNear F_moveStart F_changed F_waiting F_seen G_near G_nearEnd B_chosen B_partOf B_rest B_unknowns B_partStart B_cells S_minedSet S_safeSet S_partSet S_tally S_askedTally S_groupOf S_groupSize S_links S_linkEnd S_pick S_groupMinedSet S_groupSafeSet O_sums O_nextSums R_found R_openEnds R_need R_waiting R_waits R_common R_met w9 Q_mined Q_all Q_choices Q_term Q_divisor Q_spare X_limbs X_sum Y_limbs Y_sum)) 51 dW_51 dX0_keepChosen_37 t_22.1 t_22.2 rx1_6 dWs_51 (fun A_number_23 eA_number_23 => ?_)
          replace h := h A_number_23 eA_number_23
          refine wa_aload_n C 0 rfl dX0_keepChosen_38 rfl ?_
          refine wa_dup C dX0_keepChosen_39 rfl ?_
          refine wa_getI C 7 5 dW_7 rfl rfl (by decide) okX0 gw_351 dX0_keepChosen_40 (fun r_24 => ?_)
          refine wa_iconst C (z := 1) dX0_keepChosen_43 rfl ?_
          refine wa_iadd C dX0_keepChosen_44 ?_
          obtain ⟨r_25, h⟩ := h
          refine wa_nmi (fun A_numbers_26 eA_numbers_26 => ?_)
          replace h := h A_numbers_26 eA_numbers_26
          have rA_numbers_26 : inR A_numbers_26 := by rw [eA_numbers_26]; exact r_25
          refine wa_putI C (ws' := (dW D_hasBoard D_beganBlank F_mines F_moves F_changes G_width G_height G_size B_parts B_longest S_groups S_askedGroup S_taken R_waitingCount R_metCount A_grade A_cell A_mined A_withTotal A_numbers_26 X_low X_high Y_low Y_high F_mined F_number F_state F_cellsIn F_unknownNear F_hitNear F_moveStart F_changed F_waiting F_seen G_near G_nearEnd B_chosen B_partOf B_rest B_unknowns B_partStart B_cells S_minedSet S_safeSet S_partSet S_tally S_askedTally S_groupOf S_groupSize S_links S_linkEnd S_pick S_groupMinedSet S_groupSafeSet O_sums O_nextSums R_found R_openEnds R_need R_waiting R_waits R_common R_met A_number_23 Q_mined Q_all Q_choices Q_term Q_divisor Q_spare X_limbs X_sum Y_limbs Y_sum)) 7 5 dW_7 rfl (by decide) okX0 gw_351 rfl rfl (Nat.le_of_ble_eq_true rfl) rA_numbers_26 (dWp_7_5 _) dX0_keepChosen_45 ?_
          refine wa_sub C [0, 1] rfl ?_
          exact k_14 A_numbers_26 A_number_23 h
  refine wa_sub C [1, 0] rfl ?_
  exact k_5 n_2 0 A_numbers A_number (inR_k 0 rfl) h0Inv_1
def P_X0_explain (post : (Int) → (Int) → (Int) → (Int) → (Int) → (Int) → (Int) → (Int → Int) → (Int → Int) → (Int → Int) → (Int → Int) → (Int → Int) → (Int → Int) → (Int → Int) → (Int → Int) → (Int → Int) → (Int → Int) → (Int → Int) → (Int → Int) → (Int → Int) → (Int → Int) → (Int → Int) → (Int → Int) → (Int → Int) → (Int → Int) → (Int → Int64) → (Int → Int64) → (Int → Int) → Prop) (F_mines : Int) (G_size : Int) (B_parts : Int) (B_longest : Int) (S_groups : Int) (S_askedGroup : Int) (S_taken : Int) (A_cell : Int) (A_mined : Int) (A_withTotal : Int) (A_numbers : Int) (F_number : Int → Int) (F_state : Int → Int) (F_cellsIn : Int → Int) (F_unknownNear : Int → Int) (F_hitNear : Int → Int) (G_near : Int → Int) (G_nearEnd : Int → Int) (B_chosen : Int → Int) (B_partOf : Int → Int) (B_rest : Int → Int) (B_unknowns : Int → Int) (B_partStart : Int → Int) (B_cells : Int → Int) (S_minedSet : Int → Int) (S_safeSet : Int → Int) (S_partSet : Int → Int) (S_tally : Int → Int) (S_askedTally : Int → Int) (S_groupOf : Int → Int) (S_groupSize : Int → Int) (S_links : Int → Int) (S_linkEnd : Int → Int) (S_pick : Int → Int) (S_groupMinedSet : Int → Int) (S_groupSafeSet : Int → Int) (O_sums : Int → Int64) (O_nextSums : Int → Int64) (A_number : Int → Int) : Prop :=
  P_X1_chooseAll (fun (B_chosen_1 : Int → Int) => (P_X1_split (fun (B_parts_2 : Int) (B_longest_3 : Int) (B_partOf_4 : Int → Int) (B_rest_5 : Int → Int) (B_unknowns_6 : Int → Int) (B_partStart_7 : Int → Int) (B_cells_8 : Int → Int) => (P_X1_isTooLong (fun (c_9 : Int) => (c_9 = 0 ∨ c_9 = 1) → (∃ J_10 : (Int) → Prop, ((¬ c_9 = 0 → (J_10 0)) ∧ (c_9 = 0 → (J_10 1))) ∧ (∀ (z_12 : Int), inR z_12 → J_10 z_12 → (∃ J_13 : (Int) → (Int) → (Int) → (Int → Int) → (Int → Int) → (Int → Int) → (Int → Int) → (Int → Int) → (Int → Int) → (Int → Int) → (Int → Int) → (Int → Int) → (Int → Int) → (Int → Int) → (Int → Int) → (Int → Int) → (Int → Int) → (Int → Int64) → (Int → Int64) → (Int) → Prop, (∃ J_157 : (Int) → (Int) → (Int) → (Int → Int) → (Int → Int) → (Int → Int) → (Int → Int) → (Int → Int) → (Int → Int) → (Int → Int) → (Int → Int) → (Int → Int) → (Int → Int) → (Int → Int) → (Int → Int) → (Int → Int) → (Int → Int) → (Int → Int64) → (Int → Int64) → Prop, ((z_12 = 0 → (J_157 S_groups S_askedGroup S_taken B_rest_5 B_unknowns_6 S_minedSet S_safeSet S_partSet S_tally S_askedTally S_groupOf S_groupSize S_links S_linkEnd S_pick S_groupMinedSet S_groupSafeSet O_sums O_nextSums)) ∧ (¬ z_12 = 0 → (P_X6_isSure (fun (c_181 : Int) (S_groups_182 : Int) (S_askedGroup_183 : Int) (S_taken_184 : Int) (B_rest_185 : Int → Int) (B_unknowns_186 : Int → Int) (S_minedSet_187 : Int → Int) (S_safeSet_188 : Int → Int) (S_partSet_189 : Int → Int) (S_tally_190 : Int → Int) (S_askedTally_191 : Int → Int) (S_groupOf_192 : Int → Int) (S_groupSize_193 : Int → Int) (S_links_194 : Int → Int) (S_linkEnd_195 : Int → Int) (S_pick_196 : Int → Int) (S_groupMinedSet_197 : Int → Int) (S_groupSafeSet_198 : Int → Int) (O_sums_199 : Int → Int64) (O_nextSums_200 : Int → Int64) => (c_181 = 0 ∨ c_181 = 1) → ((¬ c_181 = 0 → (J_157 S_groups_182 S_askedGroup_183 S_taken_184 B_rest_185 B_unknowns_186 S_minedSet_187 S_safeSet_188 S_partSet_189 S_tally_190 S_askedTally_191 S_groupOf_192 S_groupSize_193 S_links_194 S_linkEnd_195 S_pick_196 S_groupMinedSet_197 S_groupSafeSet_198 O_sums_199 O_nextSums_200)) ∧ (c_181 = 0 → (J_13 S_groups_182 S_askedGroup_183 S_taken_184 B_rest_185 B_unknowns_186 S_minedSet_187 S_safeSet_188 S_partSet_189 S_tally_190 S_askedTally_191 S_groupOf_192 S_groupSize_193 S_links_194 S_linkEnd_195 S_pick_196 S_groupMinedSet_197 S_groupSafeSet_198 O_sums_199 O_nextSums_200 1)))) F_mines B_parts_2 S_groups S_askedGroup S_taken F_cellsIn G_near G_nearEnd B_chosen_1 B_partOf_4 B_rest_5 B_unknowns_6 B_partStart_7 B_cells_8 S_minedSet S_safeSet S_partSet S_tally S_askedTally S_groupOf S_groupSize S_links S_linkEnd S_pick S_groupMinedSet S_groupSafeSet O_sums O_nextSums A_cell A_mined 0))) ∧ (∀ (S_groups_159 : Int) (S_askedGroup_160 : Int) (S_taken_161 : Int) (B_rest_162 : Int → Int) (B_unknowns_163 : Int → Int) (S_minedSet_164 : Int → Int) (S_safeSet_165 : Int → Int) (S_partSet_166 : Int → Int) (S_tally_167 : Int → Int) (S_askedTally_168 : Int → Int) (S_groupOf_169 : Int → Int) (S_groupSize_170 : Int → Int) (S_links_171 : Int → Int) (S_linkEnd_172 : Int → Int) (S_pick_173 : Int → Int) (S_groupMinedSet_174 : Int → Int) (S_groupSafeSet_175 : Int → Int) (O_sums_176 : Int → Int64) (O_nextSums_177 : Int → Int64), J_157 S_groups_159 S_askedGroup_160 S_taken_161 B_rest_162 B_unknowns_163 S_minedSet_164 S_safeSet_165 S_partSet_166 S_tally_167 S_askedTally_168 S_groupOf_169 S_groupSize_170 S_links_171 S_linkEnd_172 S_pick_173 S_groupMinedSet_174 S_groupSafeSet_175 O_sums_176 O_nextSums_177 → (J_13 S_groups_159 S_askedGroup_160 S_taken_161 B_rest_162 B_unknowns_163 S_minedSet_164 S_safeSet_165 S_partSet_166 S_tally_167 S_askedTally_168 S_groupOf_169 S_groupSize_170 S_links_171 S_linkEnd_172 S_pick_173 S_groupMinedSet_174 S_groupSafeSet_175 O_sums_176 O_nextSums_177 0))) ∧ (∀ (S_groups_15 : Int) (S_askedGroup_16 : Int) (S_taken_17 : Int) (B_rest_18 : Int → Int) (B_unknowns_19 : Int → Int) (S_minedSet_20 : Int → Int) (S_safeSet_21 : Int → Int) (S_partSet_22 : Int → Int) (S_tally_23 : Int → Int) (S_askedTally_24 : Int → Int) (S_groupOf_25 : Int → Int) (S_groupSize_26 : Int → Int) (S_links_27 : Int → Int) (S_linkEnd_28 : Int → Int) (S_pick_29 : Int → Int) (S_groupMinedSet_30 : Int → Int) (S_groupSafeSet_31 : Int → Int) (O_sums_32 : Int → Int64) (O_nextSums_33 : Int → Int64) (z_34 : Int), inR z_34 → J_13 S_groups_15 S_askedGroup_16 S_taken_17 B_rest_18 B_unknowns_19 S_minedSet_20 S_safeSet_21 S_partSet_22 S_tally_23 S_askedTally_24 S_groupOf_25 S_groupSize_26 S_links_27 S_linkEnd_28 S_pick_29 S_groupMinedSet_30 S_groupSafeSet_31 O_sums_32 O_nextSums_33 z_34 → ((z_34 = 0 ∨ z_34 = 1) ∧ (∃ J_37 : (Int → Int) → Prop, ((¬ z_34 = 0 → (J_37 B_chosen_1)) ∧ (z_34 = 0 → ((0 ≤ A_cell ∧ A_cell < 144) ∧ (∀ v_155 : Int, v_155 = B_partOf_4 A_cell → inR v_155 → (P_X1_keepPart (fun (B_chosen_156 : Int → Int) => (J_37 B_chosen_156)) G_size B_chosen_1 B_partOf_4 v_155))))) ∧ (∀ (B_chosen_39 : Int → Int), J_37 B_chosen_39 → (inR (G_size - 1) ∧ (∀ x2_42 : Int, x2_42 = (G_size - 1) → (∃ Inv_43 : Nat → (Int) → (Int) → (Int) → (Int) → (Int) → (Int) → (Int → Int) → (Int → Int) → (Int → Int) → (Int → Int) → (Int → Int) → (Int → Int) → (Int → Int) → (Int → Int) → (Int → Int) → (Int → Int) → (Int → Int) → (Int → Int) → (Int → Int) → (Int → Int) → (Int → Int) → (Int → Int) → (Int → Int) → (Int → Int) → (Int → Int64) → (Int → Int64) → Prop, (∃ n_44 : Nat, Inv_43 n_44 x2_42 B_parts_2 B_longest_3 S_groups_15 S_askedGroup_16 S_taken_17 B_chosen_39 B_partOf_4 B_rest_18 B_unknowns_19 B_partStart_7 B_cells_8 S_minedSet_20 S_safeSet_21 S_partSet_22 S_tally_23 S_askedTally_24 S_groupOf_25 S_groupSize_26 S_links_27 S_linkEnd_28 S_pick_29 S_groupMinedSet_30 S_groupSafeSet_31 O_sums_32 O_nextSums_33) ∧ ∀ (n_45 : Nat) (x2_48 : Int) (B_parts_49 : Int) (B_longest_50 : Int) (S_groups_51 : Int) (S_askedGroup_52 : Int) (S_taken_53 : Int) (B_chosen_54 : Int → Int) (B_partOf_55 : Int → Int) (B_rest_56 : Int → Int) (B_unknowns_57 : Int → Int) (B_partStart_58 : Int → Int) (B_cells_59 : Int → Int) (S_minedSet_60 : Int → Int) (S_safeSet_61 : Int → Int) (S_partSet_62 : Int → Int) (S_tally_63 : Int → Int) (S_askedTally_64 : Int → Int) (S_groupOf_65 : Int → Int) (S_groupSize_66 : Int → Int) (S_links_67 : Int → Int) (S_linkEnd_68 : Int → Int) (S_pick_69 : Int → Int) (S_groupMinedSet_70 : Int → Int) (S_groupSafeSet_71 : Int → Int) (O_sums_72 : Int → Int64) (O_nextSums_73 : Int → Int64), inR x2_48 → Inv_43 n_45 x2_48 B_parts_49 B_longest_50 S_groups_51 S_askedGroup_52 S_taken_53 B_chosen_54 B_partOf_55 B_rest_56 B_unknowns_57 B_partStart_58 B_cells_59 S_minedSet_60 S_safeSet_61 S_partSet_62 S_tally_63 S_askedTally_64 S_groupOf_65 S_groupSize_66 S_links_67 S_linkEnd_68 S_pick_69 S_groupMinedSet_70 S_groupSafeSet_71 O_sums_72 O_nextSums_73 → (∃ J_74 : Prop, ((x2_48 < 0 → (J_74)) ∧ (¬ x2_48 < 0 → ((z_12 = 0 → (J_74)) ∧ (¬ z_12 = 0 → ((0 ≤ x2_48 ∧ x2_48 < 144) ∧ (∀ v_81 : Int, v_81 = B_chosen_54 x2_48 → (v_81 = 0 ∨ v_81 = 1) → (∃ J_82 : (Int) → (Int) → (Int) → (Int) → (Int) → (Int → Int) → (Int → Int) → (Int → Int) → (Int → Int) → (Int → Int) → (Int → Int) → (Int → Int) → (Int → Int) → (Int → Int) → (Int → Int) → (Int → Int) → (Int → Int) → (Int → Int) → (Int → Int) → (Int → Int) → (Int → Int) → (Int → Int) → (Int → Int) → (Int → Int64) → (Int → Int64) → Prop, ((v_81 = 0 → (J_82 B_parts_49 B_longest_50 S_groups_51 S_askedGroup_52 S_taken_53 B_chosen_54 B_partOf_55 B_rest_56 B_unknowns_57 B_partStart_58 B_cells_59 S_minedSet_60 S_safeSet_61 S_partSet_62 S_tally_63 S_askedTally_64 S_groupOf_65 S_groupSize_66 S_links_67 S_linkEnd_68 S_pick_69 S_groupMinedSet_70 S_groupSafeSet_71 O_sums_72 O_nextSums_73)) ∧ (¬ v_81 = 0 → ((0 ≤ x2_48 ∧ x2_48 < 144) ∧ (∀ B_chosen_114 : Int → Int, B_chosen_114 = upZ B_chosen_54 x2_48 0 → (P_X1_split (fun (B_parts_115 : Int) (B_longest_116 : Int) (B_partOf_117 : Int → Int) (B_rest_118 : Int → Int) (B_unknowns_119 : Int → Int) (B_partStart_120 : Int → Int) (B_cells_121 : Int → Int) => (P_X6_isSure (fun (c_125 : Int) (S_groups_126 : Int) (S_askedGroup_127 : Int) (S_taken_128 : Int) (B_rest_129 : Int → Int) (B_unknowns_130 : Int → Int) (S_minedSet_131 : Int → Int) (S_safeSet_132 : Int → Int) (S_partSet_133 : Int → Int) (S_tally_134 : Int → Int) (S_askedTally_135 : Int → Int) (S_groupOf_136 : Int → Int) (S_groupSize_137 : Int → Int) (S_links_138 : Int → Int) (S_linkEnd_139 : Int → Int) (S_pick_140 : Int → Int) (S_groupMinedSet_141 : Int → Int) (S_groupSafeSet_142 : Int → Int) (O_sums_143 : Int → Int64) (O_nextSums_144 : Int → Int64) => (c_125 = 0 ∨ c_125 = 1) → (∃ J_145 : (Int) → Prop, ((¬ c_125 = 0 → (J_145 0)) ∧ (c_125 = 0 → (J_145 1))) ∧ (∀ (z_147 : Int), inR z_147 → J_145 z_147 → ((0 ≤ x2_48 ∧ x2_48 < 144) ∧ ((z_147 = 0 ∨ z_147 = 1) ∧ (∀ B_chosen_150 : Int → Int, B_chosen_150 = upZ B_chosen_114 x2_48 z_147 → (J_82 B_parts_115 B_longest_116 S_groups_126 S_askedGroup_127 S_taken_128 B_chosen_150 B_partOf_117 B_rest_129 B_unknowns_130 B_partStart_120 B_cells_121 S_minedSet_131 S_safeSet_132 S_partSet_133 S_tally_134 S_askedTally_135 S_groupOf_136 S_groupSize_137 S_links_138 S_linkEnd_139 S_pick_140 S_groupMinedSet_141 S_groupSafeSet_142 O_sums_143 O_nextSums_144))))))) F_mines B_parts_115 S_groups_51 S_askedGroup_52 S_taken_53 F_cellsIn G_near G_nearEnd B_chosen_114 B_partOf_117 B_rest_118 B_unknowns_119 B_partStart_120 B_cells_121 S_minedSet_60 S_safeSet_61 S_partSet_62 S_tally_63 S_askedTally_64 S_groupOf_65 S_groupSize_66 S_links_67 S_linkEnd_68 S_pick_69 S_groupMinedSet_70 S_groupSafeSet_71 O_sums_72 O_nextSums_73 A_cell A_mined z_34)) G_size B_parts_49 B_longest_50 F_number F_state F_unknownNear F_hitNear G_near G_nearEnd B_chosen_114 B_partOf_55 B_rest_56 B_unknowns_57 B_partStart_58 B_cells_59 ))))) ∧ (∀ (B_parts_84 : Int) (B_longest_85 : Int) (S_groups_86 : Int) (S_askedGroup_87 : Int) (S_taken_88 : Int) (B_chosen_89 : Int → Int) (B_partOf_90 : Int → Int) (B_rest_91 : Int → Int) (B_unknowns_92 : Int → Int) (B_partStart_93 : Int → Int) (B_cells_94 : Int → Int) (S_minedSet_95 : Int → Int) (S_safeSet_96 : Int → Int) (S_partSet_97 : Int → Int) (S_tally_98 : Int → Int) (S_askedTally_99 : Int → Int) (S_groupOf_100 : Int → Int) (S_groupSize_101 : Int → Int) (S_links_102 : Int → Int) (S_linkEnd_103 : Int → Int) (S_pick_104 : Int → Int) (S_groupMinedSet_105 : Int → Int) (S_groupSafeSet_106 : Int → Int) (O_sums_107 : Int → Int64) (O_nextSums_108 : Int → Int64), J_82 B_parts_84 B_longest_85 S_groups_86 S_askedGroup_87 S_taken_88 B_chosen_89 B_partOf_90 B_rest_91 B_unknowns_92 B_partStart_93 B_cells_94 S_minedSet_95 S_safeSet_96 S_partSet_97 S_tally_98 S_askedTally_99 S_groupOf_100 S_groupSize_101 S_links_102 S_linkEnd_103 S_pick_104 S_groupMinedSet_105 S_groupSafeSet_106 O_sums_107 O_nextSums_108 → (inR (x2_48 + (-1)) ∧ (∀ x2_110 : Int, x2_110 = (x2_48 + (-1)) → (∃ n_111 : Nat, n_111 < n_45 ∧ Inv_43 n_111 x2_110 B_parts_84 B_longest_85 S_groups_86 S_askedGroup_87 S_taken_88 B_chosen_89 B_partOf_90 B_rest_91 B_unknowns_92 B_partStart_93 B_cells_94 S_minedSet_95 S_safeSet_96 S_partSet_97 S_tally_98 S_askedTally_99 S_groupOf_100 S_groupSize_101 S_links_102 S_linkEnd_103 S_pick_104 S_groupMinedSet_105 S_groupSafeSet_106 O_sums_107 O_nextSums_108))))))))))) ∧ (J_74 → (P_X0_keepChosen (fun (A_numbers_76 : Int) (A_number_77 : Int → Int) => (post B_parts_49 B_longest_50 S_groups_51 S_askedGroup_52 S_taken_53 z_34 A_numbers_76 B_chosen_54 B_partOf_55 B_rest_56 B_unknowns_57 B_partStart_58 B_cells_59 S_minedSet_60 S_safeSet_61 S_partSet_62 S_tally_63 S_askedTally_64 S_groupOf_65 S_groupSize_66 S_links_67 S_linkEnd_68 S_pick_69 S_groupMinedSet_70 S_groupSafeSet_71 O_sums_72 O_nextSums_73 A_number_77)) G_size A_numbers B_chosen_54 A_number )))))))))))))) B_longest_3 )) G_size B_parts B_longest F_number F_state F_unknownNear F_hitNear G_near G_nearEnd B_chosen_1 B_partOf B_rest B_unknowns B_partStart B_cells )) G_size F_state F_unknownNear B_chosen 
set_option maxRecDepth 100000 in
set_option maxHeartbeats 4000000 in
theorem c_X0_explain (l : Launch) (K : wK) (ad : Nat → Nat) {D_hasBoard : Int} {D_beganBlank : Int} {F_mines : Int} {F_moves : Int} {F_changes : Int} {G_width : Int} {G_height : Int} {G_size : Int} {B_parts : Int} {B_longest : Int} {S_groups : Int} {S_askedGroup : Int} {S_taken : Int} {R_waitingCount : Int} {R_metCount : Int} {A_grade : Int} {A_cell : Int} {A_mined : Int} {A_withTotal : Int} {A_numbers : Int} {X_low : Int} {X_high : Int} {Y_low : Int} {Y_high : Int} {F_mined : Int → Int} {F_number : Int → Int} {F_state : Int → Int} {F_cellsIn : Int → Int} {F_unknownNear : Int → Int} {F_hitNear : Int → Int} {F_moveStart : Int → Int} {F_changed : Int → Int} {F_waiting : Int → Int} {F_seen : Int → Int} {G_near : Int → Int} {G_nearEnd : Int → Int} {B_chosen : Int → Int} {B_partOf : Int → Int} {B_rest : Int → Int} {B_unknowns : Int → Int} {B_partStart : Int → Int} {B_cells : Int → Int} {S_minedSet : Int → Int} {S_safeSet : Int → Int} {S_partSet : Int → Int} {S_tally : Int → Int} {S_askedTally : Int → Int} {S_groupOf : Int → Int} {S_groupSize : Int → Int} {S_links : Int → Int} {S_linkEnd : Int → Int} {S_pick : Int → Int} {S_groupMinedSet : Int → Int} {S_groupSafeSet : Int → Int} {O_sums : Int → Int64} {O_nextSums : Int → Int64} {R_found : Int → Int} {R_openEnds : Int → Int} {R_need : Int → Int} {R_waiting : Int → Int} {R_waits : Int → Int} {R_common : Int → Int} {R_met : Int → Int} {A_number : Int → Int} {Q_mined : Int → Int64} {Q_all : Int → Int64} {Q_choices : Int → Int64} {Q_term : Int → Int64} {Q_divisor : Int → Int64} {Q_spare : Int → Int64} {X_limbs : Int → Int64} {X_sum : Int → Int64} {Y_limbs : Int → Int64} {Y_sum : Int → Int64}   (post : (Int) → (Int) → (Int) → (Int) → (Int) → (Int) → (Int) → (Int → Int) → (Int → Int) → (Int → Int) → (Int → Int) → (Int → Int) → (Int → Int) → (Int → Int) → (Int → Int) → (Int → Int) → (Int → Int) → (Int → Int) → (Int → Int) → (Int → Int) → (Int → Int) → (Int → Int) → (Int → Int) → (Int → Int) → (Int → Int) → (Int → Int64) → (Int → Int64) → (Int → Int) → Prop) (h : P_X0_explain post F_mines G_size B_parts B_longest S_groups S_askedGroup S_taken A_cell A_mined A_withTotal A_numbers F_number F_state F_cellsIn F_unknownNear F_hitNear G_near G_nearEnd B_chosen B_partOf B_rest B_unknowns B_partStart B_cells S_minedSet S_safeSet S_partSet S_tally S_askedTally S_groupOf S_groupSize S_links S_linkEnd S_pick S_groupMinedSet S_groupSafeSet O_sums O_nextSums A_number) : mV l yX0_explain (Cond.code yX0_explain cX0_explain 3 none :: GT) ({ frames := 26, cells := 0, slots := 0, locals := 1560 } : Room) [.ref (ad 7)] K ad (dW D_hasBoard D_beganBlank F_mines F_moves F_changes G_width G_height G_size B_parts B_longest S_groups S_askedGroup S_taken R_waitingCount R_metCount A_grade A_cell A_mined A_withTotal A_numbers X_low X_high Y_low Y_high F_mined F_number F_state F_cellsIn F_unknownNear F_hitNear F_moveStart F_changed F_waiting F_seen G_near G_nearEnd B_chosen B_partOf B_rest B_unknowns B_partStart B_cells S_minedSet S_safeSet S_partSet S_tally S_askedTally S_groupOf S_groupSize S_links S_linkEnd S_pick S_groupMinedSet S_groupSafeSet O_sums O_nextSums R_found R_openEnds R_need R_waiting R_waits R_common R_met A_number Q_mined Q_all Q_choices Q_term Q_divisor Q_spare X_limbs X_sum Y_limbs Y_sum) (fun u9 => ∃ B_parts9 B_longest9 S_groups9 S_askedGroup9 S_taken9 A_withTotal9 A_numbers9 B_chosen9 B_partOf9 B_rest9 B_unknowns9 B_partStart9 B_cells9 S_minedSet9 S_safeSet9 S_partSet9 S_tally9 S_askedTally9 S_groupOf9 S_groupSize9 S_links9 S_linkEnd9 S_pick9 S_groupMinedSet9 S_groupSafeSet9 O_sums9 O_nextSums9 A_number9, u9 = (dW D_hasBoard D_beganBlank F_mines F_moves F_changes G_width G_height G_size B_parts9 B_longest9 S_groups9 S_askedGroup9 S_taken9 R_waitingCount R_metCount A_grade A_cell A_mined A_withTotal9 A_numbers9 X_low X_high Y_low Y_high F_mined F_number F_state F_cellsIn F_unknownNear F_hitNear F_moveStart F_changed F_waiting F_seen G_near G_nearEnd B_chosen9 B_partOf9 B_rest9 B_unknowns9 B_partStart9 B_cells9 S_minedSet9 S_safeSet9 S_partSet9 S_tally9 S_askedTally9 S_groupOf9 S_groupSize9 S_links9 S_linkEnd9 S_pick9 S_groupMinedSet9 S_groupSafeSet9 O_sums9 O_nextSums9 R_found R_openEnds R_need R_waiting R_waits R_common R_met A_number9 Q_mined Q_all Q_choices Q_term Q_divisor Q_spare X_limbs X_sum Y_limbs Y_sum) ∧ post B_parts9 B_longest9 S_groups9 S_askedGroup9 S_taken9 A_withTotal9 A_numbers9 B_chosen9 B_partOf9 B_rest9 B_unknowns9 B_partStart9 B_cells9 S_minedSet9 S_safeSet9 S_partSet9 S_tally9 S_askedTally9 S_groupOf9 S_groupSize9 S_links9 S_linkEnd9 S_pick9 S_groupMinedSet9 S_groupSafeSet9 O_sums9 O_nextSums9 A_number9) := by
  refine mV_of (lv0 := [(0, .ref (ad 7))]) (by decide) (Nat.le_of_ble_eq_true rfl) rfl ?_
  intro p e s m args below meth c Q A C ret
  replace C : Cx p ({ frames := 26, cells := 0, slots := 0, locals := 1560 } : Room) m c 0 0 cX0_explain 3 s args RX0 K A := C
  unfold P_X0_explain at h
  refine wa_aload_n C 0 rfl dX0_explain_0 rfl ?_
  refine wa_getR C 7 9 dW_7 rfl rfl (by decide) okX0 gw_356 dX0_explain_1 ?_
  refine wa_callVv C (k := 3) (As := []) (rest := []) (c_X1_chooseAll l K ad  _ h) gw_724 gw_1018 dW_3 rfl gw_722 gw_723 gw_4 q_X1_chooseAll rfl rfl rfl ⟨by decide, by decide⟩ rfl (Nat.le_of_ble_eq_true rfl) dX0_explain_4 (fun u9 hp => ?_)
  obtain ⟨B_chosen_1, rfl, h⟩ := hp
  refine wa_aload_n C 0 rfl dX0_explain_7 rfl ?_
  refine wa_getR C 7 9 dW_7 rfl rfl (by decide) okX0 gw_356 dX0_explain_8 ?_
  refine wa_callVv C (k := 3) (As := []) (rest := []) (c_X1_split l K ad  _ h) gw_732 gw_1019 dW_3 rfl gw_730 gw_731 gw_4 q_X1_split rfl rfl rfl ⟨by decide, by decide⟩ rfl (Nat.le_of_ble_eq_true rfl) dX0_explain_11 (fun u9 hp => ?_)
  obtain ⟨B_parts_2, B_longest_3, B_partOf_4, B_rest_5, B_unknowns_6, B_partStart_7, B_cells_8, rfl, h⟩ := hp
  refine wa_aload_n C 0 rfl dX0_explain_14 rfl ?_
  refine wa_getR C 7 9 dW_7 rfl rfl (by decide) okX0 gw_356 dX0_explain_15 ?_
  refine wa_callVi C (k := 3) (As := []) (rest := []) (c_X1_isTooLong l K ad  _ h) gw_749 gw_1020 dW_3 rfl gw_747 gw_748 gw_4 q_X1_isTooLong rfl rfl rfl ⟨by decide, by decide⟩ rfl (Nat.le_of_ble_eq_true rfl) dX0_explain_18 (fun c_9 u9 rc_9 hp => ?_)
  obtain ⟨bc_9, rfl, h⟩ := hp
  replace h := h bc_9
  obtain ⟨J_10, h, hJ_10⟩ := h
  have k_11 : ∀ (z_12 : Int), inR z_12 → J_10 z_12 → WA p l e ({ frames := 26, cells := 0, slots := 0, locals := 1560 } : Room) s m args below meth c 0 0 Q K ad 3 A 29 [(0, .ref (ad 7))] [.int (iI z_12)] (dW D_hasBoard D_beganBlank F_mines F_moves F_changes G_width G_height G_size B_parts_2 B_longest_3 S_groups S_askedGroup S_taken R_waitingCount R_metCount A_grade A_cell A_mined A_withTotal A_numbers X_low X_high Y_low Y_high F_mined F_number F_state F_cellsIn F_unknownNear F_hitNear F_moveStart F_changed F_waiting F_seen G_near G_nearEnd B_chosen_1 B_partOf_4 B_rest_5 B_unknowns_6 B_partStart_7 B_cells_8 S_minedSet S_safeSet S_partSet S_tally S_askedTally S_groupOf S_groupSize S_links S_linkEnd S_pick S_groupMinedSet S_groupSafeSet O_sums O_nextSums R_found R_openEnds R_need R_waiting R_waits R_common R_met A_number Q_mined Q_all Q_choices Q_term Q_divisor Q_spare X_limbs X_sum Y_limbs Y_sum) := by
    intro z_12 rz_12 h
    replace h := hJ_10 z_12 rz_12 h
    refine wa_istore_n C dX0_explain_29 rfl (by decide) rfl ?_
    refine wa_aload_n C 1 rfl dX0_explain_30 rfl ?_
    refine wa_iload_n C 0 rfl dX0_explain_31 rfl ?_
    obtain ⟨J_13, h, hJ_13⟩ := h
    have k_14 : ∀ (S_groups_15 : Int) (S_askedGroup_16 : Int) (S_taken_17 : Int) (B_rest_18 : Int → Int) (B_unknowns_19 : Int → Int) (S_minedSet_20 : Int → Int) (S_safeSet_21 : Int → Int) (S_partSet_22 : Int → Int) (S_tally_23 : Int → Int) (S_askedTally_24 : Int → Int) (S_groupOf_25 : Int → Int) (S_groupSize_26 : Int → Int) (S_links_27 : Int → Int) (S_linkEnd_28 : Int → Int) (S_pick_29 : Int → Int) (S_groupMinedSet_30 : Int → Int) (S_groupSafeSet_31 : Int → Int) (O_sums_32 : Int → Int64) (O_nextSums_33 : Int → Int64) (z_34 : Int), inR z_34 → J_13 S_groups_15 S_askedGroup_16 S_taken_17 B_rest_18 B_unknowns_19 S_minedSet_20 S_safeSet_21 S_partSet_22 S_tally_23 S_askedTally_24 S_groupOf_25 S_groupSize_26 S_links_27 S_linkEnd_28 S_pick_29 S_groupMinedSet_30 S_groupSafeSet_31 O_sums_32 O_nextSums_33 z_34 → WA p l e ({ frames := 26, cells := 0, slots := 0, locals := 1560 } : Room) s m args below meth c 0 0 Q K ad 3 A 59 [(0, .ref (ad 7)), (1, .int (iI z_12))] [.int (iI z_34), .ref (ad 7)] (dW D_hasBoard D_beganBlank F_mines F_moves F_changes G_width G_height G_size B_parts_2 B_longest_3 S_groups_15 S_askedGroup_16 S_taken_17 R_waitingCount R_metCount A_grade A_cell A_mined A_withTotal A_numbers X_low X_high Y_low Y_high F_mined F_number F_state F_cellsIn F_unknownNear F_hitNear F_moveStart F_changed F_waiting F_seen G_near G_nearEnd B_chosen_1 B_partOf_4 B_rest_18 B_unknowns_19 B_partStart_7 B_cells_8 S_minedSet_20 S_safeSet_21 S_partSet_22 S_tally_23 S_askedTally_24 S_groupOf_25 S_groupSize_26 S_links_27 S_linkEnd_28 S_pick_29 S_groupMinedSet_30 S_groupSafeSet_31 O_sums_32 O_nextSums_33 R_found R_openEnds R_need R_waiting R_waits R_common R_met A_number Q_mined Q_all Q_choices Q_term Q_divisor Q_spare X_limbs X_sum Y_limbs Y_sum) := by
      intro S_groups_15 S_askedGroup_16 S_taken_17 B_rest_18 B_unknowns_19 S_minedSet_20 S_safeSet_21 S_partSet_22 S_tally_23 S_askedTally_24 S_groupOf_25 S_groupSize_26 S_links_27 S_linkEnd_28 S_pick_29 S_groupMinedSet_30 S_groupSafeSet_31 O_sums_32 O_nextSums_33 z_34 rz_34 h
      replace h := hJ_13 S_groups_15 S_askedGroup_16 S_taken_17 B_rest_18 B_unknowns_19 S_minedSet_20 S_safeSet_21 S_partSet_22 S_tally_23 S_askedTally_24 S_groupOf_25 S_groupSize_26 S_links_27 S_linkEnd_28 S_pick_29 S_groupMinedSet_30 S_groupSafeSet_31 O_sums_32 O_nextSums_33 z_34 rz_34 h
      obtain ⟨b_35, h⟩ := h
      refine wa_putZ C (ws' := (dW D_hasBoard D_beganBlank F_mines F_moves F_changes G_width G_height G_size B_parts_2 B_longest_3 S_groups_15 S_askedGroup_16 S_taken_17 R_waitingCount R_metCount A_grade A_cell A_mined z_34 A_numbers X_low X_high Y_low Y_high F_mined F_number F_state F_cellsIn F_unknownNear F_hitNear F_moveStart F_changed F_waiting F_seen G_near G_nearEnd B_chosen_1 B_partOf_4 B_rest_18 B_unknowns_19 B_partStart_7 B_cells_8 S_minedSet_20 S_safeSet_21 S_partSet_22 S_tally_23 S_askedTally_24 S_groupOf_25 S_groupSize_26 S_links_27 S_linkEnd_28 S_pick_29 S_groupMinedSet_30 S_groupSafeSet_31 O_sums_32 O_nextSums_33 R_found R_openEnds R_need R_waiting R_waits R_common R_met A_number Q_mined Q_all Q_choices Q_term Q_divisor Q_spare X_limbs X_sum Y_limbs Y_sum)) 7 3 dW_7 rfl (by decide) okX0 gw_347 rfl rfl (Nat.le_of_ble_eq_true rfl) b_35 (dWp_7_3 _) dX0_explain_59 ?_
      refine wa_aload_n C 0 rfl dX0_explain_62 rfl ?_
      refine wa_getZ C 7 3 dW_7 rfl rfl (by decide) okX0 gw_347 dX0_explain_63 (fun r_36 => ?_)
      obtain ⟨J_37, h, hJ_37⟩ := h
      have k_38 : ∀ (B_chosen_39 : Int → Int), J_37 B_chosen_39 → WA p l e ({ frames := 26, cells := 0, slots := 0, locals := 1560 } : Room) s m args below meth c 0 0 Q K ad 3 A 88 [(0, .ref (ad 7)), (1, .int (iI z_12))] [] (dW D_hasBoard D_beganBlank F_mines F_moves F_changes G_width G_height G_size B_parts_2 B_longest_3 S_groups_15 S_askedGroup_16 S_taken_17 R_waitingCount R_metCount A_grade A_cell A_mined z_34 A_numbers X_low X_high Y_low Y_high F_mined F_number F_state F_cellsIn F_unknownNear F_hitNear F_moveStart F_changed F_waiting F_seen G_near G_nearEnd B_chosen_39 B_partOf_4 B_rest_18 B_unknowns_19 B_partStart_7 B_cells_8 S_minedSet_20 S_safeSet_21 S_partSet_22 S_tally_23 S_askedTally_24 S_groupOf_25 S_groupSize_26 S_links_27 S_linkEnd_28 S_pick_29 S_groupMinedSet_30 S_groupSafeSet_31 O_sums_32 O_nextSums_33 R_found R_openEnds R_need R_waiting R_waits R_common R_met A_number Q_mined Q_all Q_choices Q_term Q_divisor Q_spare X_limbs X_sum Y_limbs Y_sum) := by
        intro B_chosen_39 h
        replace h := hJ_37 B_chosen_39 h
        refine wa_aload_n C 0 rfl dX0_explain_88 rfl ?_
        refine wa_getR C 7 8 dW_7 rfl rfl (by decide) okX0 gw_355 dX0_explain_89 ?_
        refine wa_getR C 1 0 dW_1 rfl rfl (by decide) okX2 gw_87 dX0_explain_92 ?_
        refine wa_getI C 2 2 dW_2 rfl rfl (by decide) okX3 gw_57 dX0_explain_95 (fun r_40 => ?_)
        refine wa_iconst C (z := 1) dX0_explain_98 rfl ?_
        refine wa_isub C dX0_explain_99 ?_
        obtain ⟨r_41, h⟩ := h
        refine wa_nmi (fun x2_42 ex2_42 => ?_)
        replace h := h x2_42 ex2_42
        have rx2_42 : inR x2_42 := by rw [ex2_42]; exact r_41
        refine wa_istore_n C dX0_explain_100 rfl (by decide) rfl ?_
        obtain ⟨Inv_43, ⟨n_44, h0Inv_43⟩, hInv_43⟩ := h
        have k_47 : ∀ (n_45 : Nat) (x2_48 : Int) (B_parts_49 : Int) (B_longest_50 : Int) (S_groups_51 : Int) (S_askedGroup_52 : Int) (S_taken_53 : Int) (B_chosen_54 : Int → Int) (B_partOf_55 : Int → Int) (B_rest_56 : Int → Int) (B_unknowns_57 : Int → Int) (B_partStart_58 : Int → Int) (B_cells_59 : Int → Int) (S_minedSet_60 : Int → Int) (S_safeSet_61 : Int → Int) (S_partSet_62 : Int → Int) (S_tally_63 : Int → Int) (S_askedTally_64 : Int → Int) (S_groupOf_65 : Int → Int) (S_groupSize_66 : Int → Int) (S_links_67 : Int → Int) (S_linkEnd_68 : Int → Int) (S_pick_69 : Int → Int) (S_groupMinedSet_70 : Int → Int) (S_groupSafeSet_71 : Int → Int) (O_sums_72 : Int → Int64) (O_nextSums_73 : Int → Int64), inR x2_48 → Inv_43 n_45 x2_48 B_parts_49 B_longest_50 S_groups_51 S_askedGroup_52 S_taken_53 B_chosen_54 B_partOf_55 B_rest_56 B_unknowns_57 B_partStart_58 B_cells_59 S_minedSet_60 S_safeSet_61 S_partSet_62 S_tally_63 S_askedTally_64 S_groupOf_65 S_groupSize_66 S_links_67 S_linkEnd_68 S_pick_69 S_groupMinedSet_70 S_groupSafeSet_71 O_sums_72 O_nextSums_73 → WA p l e ({ frames := 26, cells := 0, slots := 0, locals := 1560 } : Room) s m args below meth c 0 0 Q K ad 3 A 101 [(0, .ref (ad 7)), (1, .int (iI z_12)), (2, .int (iI x2_48))] [] (dW D_hasBoard D_beganBlank F_mines F_moves F_changes G_width G_height G_size B_parts_49 B_longest_50 S_groups_51 S_askedGroup_52 S_taken_53 R_waitingCount R_metCount A_grade A_cell A_mined z_34 A_numbers X_low X_high Y_low Y_high F_mined F_number F_state F_cellsIn F_unknownNear F_hitNear F_moveStart F_changed F_waiting F_seen G_near G_nearEnd B_chosen_54 B_partOf_55 B_rest_56 B_unknowns_57 B_partStart_58 B_cells_59 S_minedSet_60 S_safeSet_61 S_partSet_62 S_tally_63 S_askedTally_64 S_groupOf_65 S_groupSize_66 S_links_67 S_linkEnd_68 S_pick_69 S_groupMinedSet_70 S_groupSafeSet_71 O_sums_72 O_nextSums_73 R_found R_openEnds R_need R_waiting R_waits R_common R_met A_number Q_mined Q_all Q_choices Q_term Q_divisor Q_spare X_limbs X_sum Y_limbs Y_sum) := by
          intro n_45
          induction n_45 using Nat.strongRecOn with
          | ind n_45 ih_46 =>
            intro x2_48 B_parts_49 B_longest_50 S_groups_51 S_askedGroup_52 S_taken_53 B_chosen_54 B_partOf_55 B_rest_56 B_unknowns_57 B_partStart_58 B_cells_59 S_minedSet_60 S_safeSet_61 S_partSet_62 S_tally_63 S_askedTally_64 S_groupOf_65 S_groupSize_66 S_links_67 S_linkEnd_68 S_pick_69 S_groupMinedSet_70 S_groupSafeSet_71 O_sums_72 O_nextSums_73 rx2_48 h
            replace h := hInv_43 n_45 x2_48 B_parts_49 B_longest_50 S_groups_51 S_askedGroup_52 S_taken_53 B_chosen_54 B_partOf_55 B_rest_56 B_unknowns_57 B_partStart_58 B_cells_59 S_minedSet_60 S_safeSet_61 S_partSet_62 S_tally_63 S_askedTally_64 S_groupOf_65 S_groupSize_66 S_links_67 S_linkEnd_68 S_pick_69 S_groupMinedSet_70 S_groupSafeSet_71 O_sums_72 O_nextSums_73 rx2_48 h
            refine wa_iload_n C 2 rfl dX0_explain_101 rfl ?_
            obtain ⟨J_74, h, hJ_74⟩ := h
            have k_75 : J_74 → WA p l e ({ frames := 26, cells := 0, slots := 0, locals := 1560 } : Room) s m args below meth c 0 0 Q K ad 3 A 180 [(0, .ref (ad 7))] [] (dW D_hasBoard D_beganBlank F_mines F_moves F_changes G_width G_height G_size B_parts_49 B_longest_50 S_groups_51 S_askedGroup_52 S_taken_53 R_waitingCount R_metCount A_grade A_cell A_mined z_34 A_numbers X_low X_high Y_low Y_high F_mined F_number F_state F_cellsIn F_unknownNear F_hitNear F_moveStart F_changed F_waiting F_seen G_near G_nearEnd B_chosen_54 B_partOf_55 B_rest_56 B_unknowns_57 B_partStart_58 B_cells_59 S_minedSet_60 S_safeSet_61 S_partSet_62 S_tally_63 S_askedTally_64 S_groupOf_65 S_groupSize_66 S_links_67 S_linkEnd_68 S_pick_69 S_groupMinedSet_70 S_groupSafeSet_71 O_sums_72 O_nextSums_73 R_found R_openEnds R_need R_waiting R_waits R_common R_met A_number Q_mined Q_all Q_choices Q_term Q_divisor Q_spare X_limbs X_sum Y_limbs Y_sum) := by
              intro h
              replace h := hJ_74 h
              refine wa_aload_n C 0 rfl dX0_explain_180 rfl ?_
              refine wa_callVv C (k := 7) (As := []) (rest := []) (c_X0_keepChosen l K ad  _ h) gw_1036 gw_1033 dW_7 rfl gw_1035 gs_42 gw_8 q_X0_keepChosen rfl rfl rfl ⟨by decide, by decide⟩ rfl (Nat.le_of_ble_eq_true rfl) dX0_explain_181 (fun u9 hp => ?_)
              obtain ⟨A_numbers_76, A_number_77, rfl, h⟩ := hp
              exact ret dX0_explain_184 ⟨_, _, _, _, _, _, _, _, _, _, _, _, _, _, _, _, _, _, _, _, _, _, _, _, _, _, _, _, rfl, h⟩
            refine wa_if_lt C (tgt := 180) rx2_48 dX0_explain_102 (by decide) (fun c_78 => ?_) (fun c_78 => ?_)
            · replace h := h.1 c_78
              refine wa_sub C [0] rfl ?_
              exact k_75 h
            · replace h := h.2 c_78
              refine wa_iload_n C 1 rfl dX0_explain_105 rfl ?_
              refine wa_if_eq C (tgt := 180) rz_12 dX0_explain_106 (by decide) (fun c_79 => ?_) (fun c_79 => ?_)
              · replace h := h.1 c_79
                refine wa_sub C [0] rfl ?_
                exact k_75 h
              · replace h := h.2 c_79
                refine wa_aload_n C 0 rfl dX0_explain_109 rfl ?_
                refine wa_getR C 7 9 dW_7 rfl rfl (by decide) okX0 gw_356 dX0_explain_110 ?_
                refine wa_getR C 3 2 dW_3 rfl rfl (by decide) okX1 gw_161 dX0_explain_113 ?_
                refine wa_iload_n C 2 rfl dX0_explain_116 rfl ?_
                obtain ⟨t_80, h⟩ := h
                refine wa_bald C 24 dW_24 dX0_explain_117 t_80.1 t_80.2 (fun v_81 ev_81 rv_81 => ?_)
                replace h := h v_81 ev_81 rv_81
                obtain ⟨J_82, h, hJ_82⟩ := h
                have k_83 : ∀ (B_parts_84 : Int) (B_longest_85 : Int) (S_groups_86 : Int) (S_askedGroup_87 : Int) (S_taken_88 : Int) (B_chosen_89 : Int → Int) (B_partOf_90 : Int → Int) (B_rest_91 : Int → Int) (B_unknowns_92 : Int → Int) (B_partStart_93 : Int → Int) (B_cells_94 : Int → Int) (S_minedSet_95 : Int → Int) (S_safeSet_96 : Int → Int) (S_partSet_97 : Int → Int) (S_tally_98 : Int → Int) (S_askedTally_99 : Int → Int) (S_groupOf_100 : Int → Int) (S_groupSize_101 : Int → Int) (S_links_102 : Int → Int) (S_linkEnd_103 : Int → Int) (S_pick_104 : Int → Int) (S_groupMinedSet_105 : Int → Int) (S_groupSafeSet_106 : Int → Int) (O_sums_107 : Int → Int64) (O_nextSums_108 : Int → Int64), J_82 B_parts_84 B_longest_85 S_groups_86 S_askedGroup_87 S_taken_88 B_chosen_89 B_partOf_90 B_rest_91 B_unknowns_92 B_partStart_93 B_cells_94 S_minedSet_95 S_safeSet_96 S_partSet_97 S_tally_98 S_askedTally_99 S_groupOf_100 S_groupSize_101 S_links_102 S_linkEnd_103 S_pick_104 S_groupMinedSet_105 S_groupSafeSet_106 O_sums_107 O_nextSums_108 → WA p l e ({ frames := 26, cells := 0, slots := 0, locals := 1560 } : Room) s m args below meth c 0 0 Q K ad 3 A 174 [(0, .ref (ad 7)), (1, .int (iI z_12)), (2, .int (iI x2_48))] [] (dW D_hasBoard D_beganBlank F_mines F_moves F_changes G_width G_height G_size B_parts_84 B_longest_85 S_groups_86 S_askedGroup_87 S_taken_88 R_waitingCount R_metCount A_grade A_cell A_mined z_34 A_numbers X_low X_high Y_low Y_high F_mined F_number F_state F_cellsIn F_unknownNear F_hitNear F_moveStart F_changed F_waiting F_seen G_near G_nearEnd B_chosen_89 B_partOf_90 B_rest_91 B_unknowns_92 B_partStart_93 B_cells_94 S_minedSet_95 S_safeSet_96 S_partSet_97 S_tally_98 S_askedTally_99 S_groupOf_100 S_groupSize_101 S_links_102 S_linkEnd_103 S_pick_104 S_groupMinedSet_105 S_groupSafeSet_106 O_sums_107 O_nextSums_108 R_found R_openEnds R_need R_waiting R_waits R_common R_met A_number Q_mined Q_all Q_choices Q_term Q_divisor Q_spare X_limbs X_sum Y_limbs Y_sum) := by
                  intro B_parts_84 B_longest_85 S_groups_86 S_askedGroup_87 S_taken_88 B_chosen_89 B_partOf_90 B_rest_91 B_unknowns_92 B_partStart_93 B_cells_94 S_minedSet_95 S_safeSet_96 S_partSet_97 S_tally_98 S_askedTally_99 S_groupOf_100 S_groupSize_101 S_links_102 S_linkEnd_103 S_pick_104 S_groupMinedSet_105 S_groupSafeSet_106 O_sums_107 O_nextSums_108 h
                  replace h := hJ_82 B_parts_84 B_longest_85 S_groups_86 S_askedGroup_87 S_taken_88 B_chosen_89 B_partOf_90 B_rest_91 B_unknowns_92 B_partStart_93 B_cells_94 S_minedSet_95 S_safeSet_96 S_partSet_97 S_tally_98 S_askedTally_99 S_groupOf_100 S_groupSize_101 S_links_102 S_linkEnd_103 S_pick_104 S_groupMinedSet_105 S_groupSafeSet_106 O_sums_107 O_nextSums_108 h
                  obtain ⟨r_109, h⟩ := h
                  refine wa_iinc C (lv' := fun w9 => [(2, .int (iI w9)), (0, .ref (ad 7)), (1, .int (iI z_12))]) 2 rfl dX0_explain_174 (by decide) (fun _ => rfl) (fun x2_110 ex2_110 => ?_)
                  replace h := h x2_110 ex2_110
                  have rx2_110 : inR x2_110 := by rw [ex2_110]; exact r_109
                  refine wa_goto C (tgt := 101) dX0_explain_177 (by decide) ?_
                  obtain ⟨n_111, ln_111, h⟩ := h
                  refine wa_sub C [1, 2, 0] rfl ?_
                  exact ih_46 n_111 ln_111 x2_110 B_parts_84 B_longest_85 S_groups_86 S_askedGroup_87 S_taken_88 B_chosen_89 B_partOf_90 B_rest_91 B_unknowns_92 B_partStart_93 B_cells_94 S_minedSet_95 S_safeSet_96 S_partSet_97 S_tally_98 S_askedTally_99 S_groupOf_100 S_groupSize_101 S_links_102 S_linkEnd_103 S_pick_104 S_groupMinedSet_105 S_groupSafeSet_106 O_sums_107 O_nextSums_108 rx2_110 h
                refine wa_if_eq C (tgt := 174) (inR_b rv_81) dX0_explain_118 (by decide) (fun c_112 => ?_) (fun c_112 => ?_)
                · replace h := h.1 c_112
                  refine wa_sub C [0, 1, 2] rfl ?_
                  exact k_83 B_parts_49 B_longest_50 S_groups_51 S_askedGroup_52 S_taken_53 B_chosen_54 B_partOf_55 B_rest_56 B_unknowns_57 B_partStart_58 B_cells_59 S_minedSet_60 S_safeSet_61 S_partSet_62 S_tally_63 S_askedTally_64 S_groupOf_65 S_groupSize_66 S_links_67 S_linkEnd_68 S_pick_69 S_groupMinedSet_70 S_groupSafeSet_71 O_sums_72 O_nextSums_73 h
                · replace h := h.2 c_112
                  refine wa_aload_n C 0 rfl dX0_explain_121 rfl ?_
                  refine wa_getR C 7 9 dW_7 rfl rfl (by decide) okX0 gw_356 dX0_explain_122 ?_
                  refine wa_getR C 3 2 dW_3 rfl rfl (by decide) okX1 gw_161 dX0_explain_125 ?_
                  refine wa_iload_n C 2 rfl dX0_explain_128 rfl ?_
                  refine wa_iconst C (z := 0) dX0_explain_129 rfl ?_
                  obtain ⟨t_113, h⟩ := h
                  refine wa_bast C (ws' := fun w9 => (dW D_hasBoard D_beganBlank F_mines F_moves F_changes G_width G_height G_size B_parts_49 B_longest_50 S_groups_51 S_askedGroup_52 S_taken_53 R_waitingCount R_metCount A_grade A_cell A_mined z_34 A_numbers X_low X_high Y_low Y_high F_mined F_number F_state F_cellsIn F_unknownNear F_hitNear F_moveStart F_changed F_waiting F_seen G_near G_nearEnd w9 B_partOf_55 B_rest_56 B_unknowns_57 B_partStart_58 B_cells_59 S_minedSet_60 S_safeSet_61 S_partSet_62 S_tally_63 S_askedTally_64 S_groupOf_65 S_groupSize_66 S_links_67 S_linkEnd_68 S_pick_69 S_groupMinedSet_70 S_groupSafeSet_71 O_sums_72 O_nextSums_73 R_found R_openEnds R_need R_waiting R_waits R_common R_met A_number Q_mined Q_all Q_choices Q_term Q_divisor Q_spare X_limbs X_sum Y_limbs Y_sum)) 24 dW_24 dX0_explain_130 t_113.1 t_113.2 (Or.inl rfl) dWs_24 (fun B_chosen_114 eB_chosen_114 => ?_)
                  replace h := h B_chosen_114 eB_chosen_114
                  refine wa_aload_n C 0 rfl dX0_explain_131 rfl ?_
                  refine wa_getR C 7 9 dW_7 rfl rfl (by decide) okX0 gw_356 dX0_explain_132 ?_
                  refine wa_callVv C (k := 3) (As := []) (rest := []) (c_X1_split l K ad  _ h) gw_732 gw_1019 dW_3 rfl gw_730 gw_731 gw_4 q_X1_split rfl rfl rfl ⟨by decide, by decide⟩ rfl (Nat.le_of_ble_eq_true rfl) dX0_explain_135 (fun u9 hp => ?_)
                  obtain ⟨B_parts_115, B_longest_116, B_partOf_117, B_rest_118, B_unknowns_119, B_partStart_120, B_cells_121, rfl, h⟩ := hp
                  refine wa_aload_n C 0 rfl dX0_explain_138 rfl ?_
                  refine wa_getR C 7 9 dW_7 rfl rfl (by decide) okX0 gw_356 dX0_explain_139 ?_
                  refine wa_getR C 3 2 dW_3 rfl rfl (by decide) okX1 gw_161 dX0_explain_142 ?_
                  refine wa_iload_n C 2 rfl dX0_explain_145 rfl ?_
                  refine wa_aload_n C 0 rfl dX0_explain_146 rfl ?_
                  refine wa_getR C 7 7 dW_7 rfl rfl (by decide) okX0 gw_354 dX0_explain_147 ?_
                  refine wa_aload_n C 0 rfl dX0_explain_150 rfl ?_
                  refine wa_getI C 7 1 dW_7 rfl rfl (by decide) okX0 gw_343 dX0_explain_151 (fun r_122 => ?_)
                  refine wa_aload_n C 0 rfl dX0_explain_154 rfl ?_
                  refine wa_getZ C 7 2 dW_7 rfl rfl (by decide) okX0 gw_345 dX0_explain_155 (fun r_123 => ?_)
                  refine wa_aload_n C 0 rfl dX0_explain_158 rfl ?_
                  refine wa_getZ C 7 3 dW_7 rfl rfl (by decide) okX0 gw_347 dX0_explain_159 (fun r_124 => ?_)
                  refine wa_callVi C (k := 5) (As := [.int (iI A_cell), .int (iI A_mined), .int (iI z_34)]) (rest := [.int (iI x2_48), .ref (ad 24)]) (c_X6_isSure l K ad A_cell A_mined z_34 r_122 r_123 r_124 _ h) gw_1024 gw_1021 dW_5 rfl gw_1022 gw_1023 gw_6 q_X6_isSure rfl rfl rfl ⟨by decide, by decide⟩ rfl (Nat.le_of_ble_eq_true rfl) dX0_explain_162 (fun c_125 u9 rc_125 hp => ?_)
                  obtain ⟨bc_125, S_groups_126, S_askedGroup_127, S_taken_128, B_rest_129, B_unknowns_130, S_minedSet_131, S_safeSet_132, S_partSet_133, S_tally_134, S_askedTally_135, S_groupOf_136, S_groupSize_137, S_links_138, S_linkEnd_139, S_pick_140, S_groupMinedSet_141, S_groupSafeSet_142, O_sums_143, O_nextSums_144, rfl, h⟩ := hp
                  replace h := h bc_125
                  obtain ⟨J_145, h, hJ_145⟩ := h
                  have k_146 : ∀ (z_147 : Int), inR z_147 → J_145 z_147 → WA p l e ({ frames := 26, cells := 0, slots := 0, locals := 1560 } : Room) s m args below meth c 0 0 Q K ad 3 A 173 [(0, .ref (ad 7)), (1, .int (iI z_12)), (2, .int (iI x2_48))] [.int (iI z_147), .int (iI x2_48), .ref (ad 24)] (dW D_hasBoard D_beganBlank F_mines F_moves F_changes G_width G_height G_size B_parts_115 B_longest_116 S_groups_126 S_askedGroup_127 S_taken_128 R_waitingCount R_metCount A_grade A_cell A_mined z_34 A_numbers X_low X_high Y_low Y_high F_mined F_number F_state F_cellsIn F_unknownNear F_hitNear F_moveStart F_changed F_waiting F_seen G_near G_nearEnd B_chosen_114 B_partOf_117 B_rest_129 B_unknowns_130 B_partStart_120 B_cells_121 S_minedSet_131 S_safeSet_132 S_partSet_133 S_tally_134 S_askedTally_135 S_groupOf_136 S_groupSize_137 S_links_138 S_linkEnd_139 S_pick_140 S_groupMinedSet_141 S_groupSafeSet_142 O_sums_143 O_nextSums_144 R_found R_openEnds R_need R_waiting R_waits R_common R_met A_number Q_mined Q_all Q_choices Q_term Q_divisor Q_spare X_limbs X_sum Y_limbs Y_sum) := by
                    intro z_147 rz_147 h
                    replace h := hJ_145 z_147 rz_147 h
                    obtain ⟨t_148, h⟩ := h
                    obtain ⟨b_149, h⟩ := h
                    refine wa_bast C (ws' := fun w9 => (dW D_hasBoard D_beganBlank F_mines F_moves F_changes G_width G_height G_size B_parts_115 B_longest_116 S_groups_126 S_askedGroup_127 S_taken_128 R_waitingCount R_metCount A_grade A_cell A_mined z_34 A_numbers X_low X_high Y_low Y_high F_mined F_number F_state F_cellsIn F_unknownNear F_hitNear F_moveStart F_changed F_waiting F_seen G_near G_nearEnd w9 B_partOf_117 B_rest_129 B_unknowns_130 B_partStart_120 B_cells_121 S_minedSet_131 S_safeSet_132 S_partSet_133 S_tally_134 S_askedTally_135 S_groupOf_136 S_groupSize_137 S_links_138 S_linkEnd_139 S_pick_140 S_groupMinedSet_141 S_groupSafeSet_142 O_sums_143 O_nextSums_144 R_found R_openEnds R_need R_waiting R_waits R_common R_met A_number Q_mined Q_all Q_choices Q_term Q_divisor Q_spare X_limbs X_sum Y_limbs Y_sum)) 24 dW_24 dX0_explain_173 t_148.1 t_148.2 b_149 dWs_24 (fun B_chosen_150 eB_chosen_150 => ?_)
                    replace h := h B_chosen_150 eB_chosen_150
                    refine wa_sub C [0, 1, 2] rfl ?_
                    exact k_83 B_parts_115 B_longest_116 S_groups_126 S_askedGroup_127 S_taken_128 B_chosen_150 B_partOf_117 B_rest_129 B_unknowns_130 B_partStart_120 B_cells_121 S_minedSet_131 S_safeSet_132 S_partSet_133 S_tally_134 S_askedTally_135 S_groupOf_136 S_groupSize_137 S_links_138 S_linkEnd_139 S_pick_140 S_groupMinedSet_141 S_groupSafeSet_142 O_sums_143 O_nextSums_144 h
                  refine wa_if_ne C (tgt := 172) (inR_b bc_125) dX0_explain_165 (by decide) (fun c_151 => ?_) (fun c_151 => ?_)
                  · replace h := h.1 c_151
                    refine wa_iconst C (z := 0) dX0_explain_172 rfl ?_
                    refine wa_sub C [0, 1, 2] rfl ?_
                    exact k_146 0 (inR_k 0 rfl) h
                  · replace h := h.2 c_151
                    refine wa_iconst C (z := 1) dX0_explain_168 rfl ?_
                    refine wa_goto C (tgt := 173) dX0_explain_169 (by decide) ?_
                    refine wa_sub C [0, 1, 2] rfl ?_
                    exact k_146 1 (inR_k 1 rfl) h
        refine wa_sub C [1, 2, 0] rfl ?_
        exact k_47 n_44 x2_42 B_parts_2 B_longest_3 S_groups_15 S_askedGroup_16 S_taken_17 B_chosen_39 B_partOf_4 B_rest_18 B_unknowns_19 B_partStart_7 B_cells_8 S_minedSet_20 S_safeSet_21 S_partSet_22 S_tally_23 S_askedTally_24 S_groupOf_25 S_groupSize_26 S_links_27 S_linkEnd_28 S_pick_29 S_groupMinedSet_30 S_groupSafeSet_31 O_sums_32 O_nextSums_33 rx2_42 h0Inv_43
      refine wa_if_ne C (tgt := 88) (inR_b r_36) dX0_explain_66 (by decide) (fun c_152 => ?_) (fun c_152 => ?_)
      · replace h := h.1 c_152
        refine wa_sub C [0, 1] rfl ?_
        exact k_38 B_chosen_1 h
      · replace h := h.2 c_152
        refine wa_aload_n C 0 rfl dX0_explain_69 rfl ?_
        refine wa_getR C 7 9 dW_7 rfl rfl (by decide) okX0 gw_356 dX0_explain_70 ?_
        refine wa_aload_n C 0 rfl dX0_explain_73 rfl ?_
        refine wa_getR C 7 9 dW_7 rfl rfl (by decide) okX0 gw_356 dX0_explain_74 ?_
        refine wa_getR C 3 3 dW_3 rfl rfl (by decide) okX1 gw_166 dX0_explain_77 ?_
        refine wa_aload_n C 0 rfl dX0_explain_80 rfl ?_
        refine wa_getI C 7 1 dW_7 rfl rfl (by decide) okX0 gw_343 dX0_explain_81 (fun r_153 => ?_)
        obtain ⟨t_154, h⟩ := h
        refine wa_iald C 25 dW_25 dX0_explain_84 t_154.1 t_154.2 (fun v_155 ev_155 rv_155 => ?_)
        replace h := h v_155 ev_155 rv_155
        refine wa_callVv C (k := 3) (As := [.int (iI v_155)]) (rest := []) (c_X1_keepPart l K ad v_155 rv_155 _ h) gw_1032 gw_1029 dW_3 rfl gw_1030 gw_1031 gw_4 q_X1_keepPart rfl rfl rfl ⟨by decide, by decide⟩ rfl (Nat.le_of_ble_eq_true rfl) dX0_explain_85 (fun u9 hp => ?_)
        obtain ⟨B_chosen_156, rfl, h⟩ := hp
        refine wa_sub C [0, 1] rfl ?_
        exact k_38 B_chosen_156 h
    obtain ⟨J_157, h, hJ_157⟩ := h
    have k_158 : ∀ (S_groups_159 : Int) (S_askedGroup_160 : Int) (S_taken_161 : Int) (B_rest_162 : Int → Int) (B_unknowns_163 : Int → Int) (S_minedSet_164 : Int → Int) (S_safeSet_165 : Int → Int) (S_partSet_166 : Int → Int) (S_tally_167 : Int → Int) (S_askedTally_168 : Int → Int) (S_groupOf_169 : Int → Int) (S_groupSize_170 : Int → Int) (S_links_171 : Int → Int) (S_linkEnd_172 : Int → Int) (S_pick_173 : Int → Int) (S_groupMinedSet_174 : Int → Int) (S_groupSafeSet_175 : Int → Int) (O_sums_176 : Int → Int64) (O_nextSums_177 : Int → Int64), J_157 S_groups_159 S_askedGroup_160 S_taken_161 B_rest_162 B_unknowns_163 S_minedSet_164 S_safeSet_165 S_partSet_166 S_tally_167 S_askedTally_168 S_groupOf_169 S_groupSize_170 S_links_171 S_linkEnd_172 S_pick_173 S_groupMinedSet_174 S_groupSafeSet_175 O_sums_176 O_nextSums_177 → WA p l e ({ frames := 26, cells := 0, slots := 0, locals := 1560 } : Room) s m args below meth c 0 0 Q K ad 3 A 58 [(0, .ref (ad 7)), (1, .int (iI z_12))] [.ref (ad 7)] (dW D_hasBoard D_beganBlank F_mines F_moves F_changes G_width G_height G_size B_parts_2 B_longest_3 S_groups_159 S_askedGroup_160 S_taken_161 R_waitingCount R_metCount A_grade A_cell A_mined A_withTotal A_numbers X_low X_high Y_low Y_high F_mined F_number F_state F_cellsIn F_unknownNear F_hitNear F_moveStart F_changed F_waiting F_seen G_near G_nearEnd B_chosen_1 B_partOf_4 B_rest_162 B_unknowns_163 B_partStart_7 B_cells_8 S_minedSet_164 S_safeSet_165 S_partSet_166 S_tally_167 S_askedTally_168 S_groupOf_169 S_groupSize_170 S_links_171 S_linkEnd_172 S_pick_173 S_groupMinedSet_174 S_groupSafeSet_175 O_sums_176 O_nextSums_177 R_found R_openEnds R_need R_waiting R_waits R_common R_met A_number Q_mined Q_all Q_choices Q_term Q_divisor Q_spare X_limbs X_sum Y_limbs Y_sum) := by
      intro S_groups_159 S_askedGroup_160 S_taken_161 B_rest_162 B_unknowns_163 S_minedSet_164 S_safeSet_165 S_partSet_166 S_tally_167 S_askedTally_168 S_groupOf_169 S_groupSize_170 S_links_171 S_linkEnd_172 S_pick_173 S_groupMinedSet_174 S_groupSafeSet_175 O_sums_176 O_nextSums_177 h
      replace h := hJ_157 S_groups_159 S_askedGroup_160 S_taken_161 B_rest_162 B_unknowns_163 S_minedSet_164 S_safeSet_165 S_partSet_166 S_tally_167 S_askedTally_168 S_groupOf_169 S_groupSize_170 S_links_171 S_linkEnd_172 S_pick_173 S_groupMinedSet_174 S_groupSafeSet_175 O_sums_176 O_nextSums_177 h
      refine wa_iconst C (z := 0) dX0_explain_58 rfl ?_
      refine wa_sub C [0, 1] rfl ?_
      exact k_14 S_groups_159 S_askedGroup_160 S_taken_161 B_rest_162 B_unknowns_163 S_minedSet_164 S_safeSet_165 S_partSet_166 S_tally_167 S_askedTally_168 S_groupOf_169 S_groupSize_170 S_links_171 S_linkEnd_172 S_pick_173 S_groupMinedSet_174 S_groupSafeSet_175 O_sums_176 O_nextSums_177 0 (inR_k 0 rfl) h
    refine wa_if_eq C (tgt := 58) rz_12 dX0_explain_32 (by decide) (fun c_178 => ?_) (fun c_178 => ?_)
    · replace h := h.1 c_178
      refine wa_sub C [1, 0] rfl ?_
      exact k_158 S_groups S_askedGroup S_taken B_rest_5 B_unknowns_6 S_minedSet S_safeSet S_partSet S_tally S_askedTally S_groupOf S_groupSize S_links S_linkEnd S_pick S_groupMinedSet S_groupSafeSet O_sums O_nextSums h
    · replace h := h.2 c_178
      refine wa_aload_n C 1 rfl dX0_explain_35 rfl ?_
      refine wa_getR C 7 7 dW_7 rfl rfl (by decide) okX0 gw_354 dX0_explain_36 ?_
      refine wa_aload_n C 1 rfl dX0_explain_39 rfl ?_
      refine wa_getI C 7 1 dW_7 rfl rfl (by decide) okX0 gw_343 dX0_explain_40 (fun r_179 => ?_)
      refine wa_aload_n C 1 rfl dX0_explain_43 rfl ?_
      refine wa_getZ C 7 2 dW_7 rfl rfl (by decide) okX0 gw_345 dX0_explain_44 (fun r_180 => ?_)
      refine wa_iconst C (z := 0) dX0_explain_47 rfl ?_
      refine wa_callVi C (k := 5) (As := [.int (iI A_cell), .int (iI A_mined), .int (iI 0)]) (rest := [.ref (ad 7)]) (c_X6_isSure l K ad A_cell A_mined 0 r_179 r_180 (Or.inl rfl) _ h) gw_1024 gw_1021 dW_5 rfl gw_1022 gw_1023 gw_6 q_X6_isSure rfl rfl rfl ⟨by decide, by decide⟩ rfl (Nat.le_of_ble_eq_true rfl) dX0_explain_48 (fun c_181 u9 rc_181 hp => ?_)
      obtain ⟨bc_181, S_groups_182, S_askedGroup_183, S_taken_184, B_rest_185, B_unknowns_186, S_minedSet_187, S_safeSet_188, S_partSet_189, S_tally_190, S_askedTally_191, S_groupOf_192, S_groupSize_193, S_links_194, S_linkEnd_195, S_pick_196, S_groupMinedSet_197, S_groupSafeSet_198, O_sums_199, O_nextSums_200, rfl, h⟩ := hp
      replace h := h bc_181
      refine wa_if_ne C (tgt := 58) (inR_b bc_181) dX0_explain_51 (by decide) (fun c_201 => ?_) (fun c_201 => ?_)
      · replace h := h.1 c_201
        refine wa_sub C [1, 0] rfl ?_
        exact k_158 S_groups_182 S_askedGroup_183 S_taken_184 B_rest_185 B_unknowns_186 S_minedSet_187 S_safeSet_188 S_partSet_189 S_tally_190 S_askedTally_191 S_groupOf_192 S_groupSize_193 S_links_194 S_linkEnd_195 S_pick_196 S_groupMinedSet_197 S_groupSafeSet_198 O_sums_199 O_nextSums_200 h
      · replace h := h.2 c_201
        refine wa_iconst C (z := 1) dX0_explain_54 rfl ?_
        refine wa_goto C (tgt := 59) dX0_explain_55 (by decide) ?_
        refine wa_sub C [1, 0] rfl ?_
        exact k_14 S_groups_182 S_askedGroup_183 S_taken_184 B_rest_185 B_unknowns_186 S_minedSet_187 S_safeSet_188 S_partSet_189 S_tally_190 S_askedTally_191 S_groupOf_192 S_groupSize_193 S_links_194 S_linkEnd_195 S_pick_196 S_groupMinedSet_197 S_groupSafeSet_198 O_sums_199 O_nextSums_200 1 (inR_k 1 rfl) h
  refine wa_if_ne C (tgt := 28) (inR_b bc_9) dX0_explain_21 (by decide) (fun c_202 => ?_) (fun c_202 => ?_)
  · replace h := h.1 c_202
    refine wa_iconst C (z := 0) dX0_explain_28 rfl ?_
    refine wa_sub C [0] rfl ?_
    exact k_11 0 (inR_k 0 rfl) h
  · replace h := h.2 c_202
    refine wa_iconst C (z := 1) dX0_explain_24 rfl ?_
    refine wa_goto C (tgt := 29) dX0_explain_25 (by decide) ?_
    refine wa_sub C [0] rfl ?_
    exact k_11 1 (inR_k 1 rfl) h
def P_X0_chooseNumbers (post : (Int → Int) → Prop) (A_numbers : Int) (F_state : Int → Int) (F_unknownNear : Int → Int) (B_chosen : Int → Int) (A_number : Int → Int) : Prop :=
  P_X1_chooseNone (fun (B_chosen_1 : Int → Int) => (∃ Inv_2 : Nat → (Int) → (Int → Int) → Prop, (∃ n_3 : Nat, Inv_2 n_3 0 B_chosen_1) ∧ ∀ (n_4 : Nat) (x1_7 : Int) (B_chosen_8 : Int → Int), inR x1_7 → Inv_2 n_4 x1_7 B_chosen_8 → ((A_numbers ≤ x1_7 → (post B_chosen_8)) ∧ (¬ A_numbers ≤ x1_7 → ((0 ≤ x1_7 ∧ x1_7 < 144) ∧ (∀ v_12 : Int, v_12 = A_number x1_7 → inR v_12 → ((0 ≤ x1_7 ∧ x1_7 < 144) ∧ (∀ v_14 : Int, v_14 = A_number x1_7 → inR v_14 → (P_X1_canChoose (fun (c_15 : Int) => (c_15 = 0 ∨ c_15 = 1) → ((0 ≤ v_12 ∧ v_12 < 144) ∧ (∀ B_chosen_17 : Int → Int, B_chosen_17 = upZ B_chosen_8 v_12 c_15 → (inR (x1_7 + 1) ∧ (∀ x1_19 : Int, x1_19 = (x1_7 + 1) → (∃ n_20 : Nat, n_20 < n_4 ∧ Inv_2 n_20 x1_19 B_chosen_17)))))) F_state F_unknownNear v_14))))))))) B_chosen 
set_option maxRecDepth 100000 in
set_option maxHeartbeats 4000000 in
theorem c_X0_chooseNumbers (l : Launch) (K : wK) (ad : Nat → Nat) {D_hasBoard : Int} {D_beganBlank : Int} {F_mines : Int} {F_moves : Int} {F_changes : Int} {G_width : Int} {G_height : Int} {G_size : Int} {B_parts : Int} {B_longest : Int} {S_groups : Int} {S_askedGroup : Int} {S_taken : Int} {R_waitingCount : Int} {R_metCount : Int} {A_grade : Int} {A_cell : Int} {A_mined : Int} {A_withTotal : Int} {A_numbers : Int} {X_low : Int} {X_high : Int} {Y_low : Int} {Y_high : Int} {F_mined : Int → Int} {F_number : Int → Int} {F_state : Int → Int} {F_cellsIn : Int → Int} {F_unknownNear : Int → Int} {F_hitNear : Int → Int} {F_moveStart : Int → Int} {F_changed : Int → Int} {F_waiting : Int → Int} {F_seen : Int → Int} {G_near : Int → Int} {G_nearEnd : Int → Int} {B_chosen : Int → Int} {B_partOf : Int → Int} {B_rest : Int → Int} {B_unknowns : Int → Int} {B_partStart : Int → Int} {B_cells : Int → Int} {S_minedSet : Int → Int} {S_safeSet : Int → Int} {S_partSet : Int → Int} {S_tally : Int → Int} {S_askedTally : Int → Int} {S_groupOf : Int → Int} {S_groupSize : Int → Int} {S_links : Int → Int} {S_linkEnd : Int → Int} {S_pick : Int → Int} {S_groupMinedSet : Int → Int} {S_groupSafeSet : Int → Int} {O_sums : Int → Int64} {O_nextSums : Int → Int64} {R_found : Int → Int} {R_openEnds : Int → Int} {R_need : Int → Int} {R_waiting : Int → Int} {R_waits : Int → Int} {R_common : Int → Int} {R_met : Int → Int} {A_number : Int → Int} {Q_mined : Int → Int64} {Q_all : Int → Int64} {Q_choices : Int → Int64} {Q_term : Int → Int64} {Q_divisor : Int → Int64} {Q_spare : Int → Int64} {X_limbs : Int → Int64} {X_sum : Int → Int64} {Y_limbs : Int → Int64} {Y_sum : Int → Int64}   (post : (Int → Int) → Prop) (h : P_X0_chooseNumbers post A_numbers F_state F_unknownNear B_chosen A_number) : mV l yX0_chooseNumbers (Cond.code yX0_chooseNumbers cX0_chooseNumbers 2 none :: GT) ({ frames := 3, cells := 0, slots := 0, locals := 180 } : Room) [.ref (ad 7)] K ad (dW D_hasBoard D_beganBlank F_mines F_moves F_changes G_width G_height G_size B_parts B_longest S_groups S_askedGroup S_taken R_waitingCount R_metCount A_grade A_cell A_mined A_withTotal A_numbers X_low X_high Y_low Y_high F_mined F_number F_state F_cellsIn F_unknownNear F_hitNear F_moveStart F_changed F_waiting F_seen G_near G_nearEnd B_chosen B_partOf B_rest B_unknowns B_partStart B_cells S_minedSet S_safeSet S_partSet S_tally S_askedTally S_groupOf S_groupSize S_links S_linkEnd S_pick S_groupMinedSet S_groupSafeSet O_sums O_nextSums R_found R_openEnds R_need R_waiting R_waits R_common R_met A_number Q_mined Q_all Q_choices Q_term Q_divisor Q_spare X_limbs X_sum Y_limbs Y_sum) (fun u9 => ∃ B_chosen9, u9 = (dW D_hasBoard D_beganBlank F_mines F_moves F_changes G_width G_height G_size B_parts B_longest S_groups S_askedGroup S_taken R_waitingCount R_metCount A_grade A_cell A_mined A_withTotal A_numbers X_low X_high Y_low Y_high F_mined F_number F_state F_cellsIn F_unknownNear F_hitNear F_moveStart F_changed F_waiting F_seen G_near G_nearEnd B_chosen9 B_partOf B_rest B_unknowns B_partStart B_cells S_minedSet S_safeSet S_partSet S_tally S_askedTally S_groupOf S_groupSize S_links S_linkEnd S_pick S_groupMinedSet S_groupSafeSet O_sums O_nextSums R_found R_openEnds R_need R_waiting R_waits R_common R_met A_number Q_mined Q_all Q_choices Q_term Q_divisor Q_spare X_limbs X_sum Y_limbs Y_sum) ∧ post B_chosen9) := by
  refine mV_of (lv0 := [(0, .ref (ad 7))]) (by decide) (Nat.le_of_ble_eq_true rfl) rfl ?_
  intro p e s m args below meth c Q A C ret
  replace C : Cx p ({ frames := 3, cells := 0, slots := 0, locals := 180 } : Room) m c 0 0 cX0_chooseNumbers 2 s args RX0 K A := C
  unfold P_X0_chooseNumbers at h
  refine wa_aload_n C 0 rfl dX0_chooseNumbers_0 rfl ?_
  refine wa_getR C 7 9 dW_7 rfl rfl (by decide) okX0 gw_356 dX0_chooseNumbers_1 ?_
  refine wa_callVv C (k := 3) (As := []) (rest := []) (c_X1_chooseNone l K ad  _ h) gw_1065 gw_1062 dW_3 rfl gw_1063 gw_1064 gw_4 q_X1_chooseNone rfl rfl rfl ⟨by decide, by decide⟩ rfl (Nat.le_of_ble_eq_true rfl) dX0_chooseNumbers_4 (fun u9 hp => ?_)
  obtain ⟨B_chosen_1, rfl, h⟩ := hp
  refine wa_iconst C (z := 0) dX0_chooseNumbers_7 rfl ?_
  refine wa_istore_n C dX0_chooseNumbers_8 rfl (by decide) rfl ?_
  obtain ⟨Inv_2, ⟨n_3, h0Inv_2⟩, hInv_2⟩ := h
  have k_6 : ∀ (n_4 : Nat) (x1_7 : Int) (B_chosen_8 : Int → Int), inR x1_7 → Inv_2 n_4 x1_7 B_chosen_8 → WA p l e ({ frames := 3, cells := 0, slots := 0, locals := 180 } : Room) s m args below meth c 0 0 Q K ad 2 A 9 [(0, .ref (ad 7)), (1, .int (iI x1_7))] [] (dW D_hasBoard D_beganBlank F_mines F_moves F_changes G_width G_height G_size B_parts B_longest S_groups S_askedGroup S_taken R_waitingCount R_metCount A_grade A_cell A_mined A_withTotal A_numbers X_low X_high Y_low Y_high F_mined F_number F_state F_cellsIn F_unknownNear F_hitNear F_moveStart F_changed F_waiting F_seen G_near G_nearEnd B_chosen_8 B_partOf B_rest B_unknowns B_partStart B_cells S_minedSet S_safeSet S_partSet S_tally S_askedTally S_groupOf S_groupSize S_links S_linkEnd S_pick S_groupMinedSet S_groupSafeSet O_sums O_nextSums R_found R_openEnds R_need R_waiting R_waits R_common R_met A_number Q_mined Q_all Q_choices Q_term Q_divisor Q_spare X_limbs X_sum Y_limbs Y_sum) := by
    intro n_4
    induction n_4 using Nat.strongRecOn with
    | ind n_4 ih_5 =>
      intro x1_7 B_chosen_8 rx1_7 h
      replace h := hInv_2 n_4 x1_7 B_chosen_8 rx1_7 h
      refine wa_iload_n C 1 rfl dX0_chooseNumbers_9 rfl ?_
      refine wa_aload_n C 0 rfl dX0_chooseNumbers_10 rfl ?_
      refine wa_getI C 7 5 dW_7 rfl rfl (by decide) okX0 gw_351 dX0_chooseNumbers_11 (fun r_9 => ?_)
      refine wa_icmp_ge C (tgt := 50) rx1_7 r_9 dX0_chooseNumbers_14 (by decide) (fun c_10 => ?_) (fun c_10 => ?_)
      · replace h := h.1 c_10
        exact ret dX0_chooseNumbers_50 ⟨_, rfl, h⟩
      · replace h := h.2 c_10
        refine wa_aload_n C 0 rfl dX0_chooseNumbers_17 rfl ?_
        refine wa_getR C 7 9 dW_7 rfl rfl (by decide) okX0 gw_356 dX0_chooseNumbers_18 ?_
        refine wa_getR C 3 2 dW_3 rfl rfl (by decide) okX1 gw_161 dX0_chooseNumbers_21 ?_
        refine wa_aload_n C 0 rfl dX0_chooseNumbers_24 rfl ?_
        refine wa_getR C 7 4 dW_7 rfl rfl (by decide) okX0 gw_349 dX0_chooseNumbers_25 ?_
        refine wa_iload_n C 1 rfl dX0_chooseNumbers_28 rfl ?_
        obtain ⟨t_11, h⟩ := h
        refine wa_iald C 51 dW_51 dX0_chooseNumbers_29 t_11.1 t_11.2 (fun v_12 ev_12 rv_12 => ?_)
        replace h := h v_12 ev_12 rv_12
        refine wa_aload_n C 0 rfl dX0_chooseNumbers_30 rfl ?_
        refine wa_getR C 7 9 dW_7 rfl rfl (by decide) okX0 gw_356 dX0_chooseNumbers_31 ?_
        refine wa_aload_n C 0 rfl dX0_chooseNumbers_34 rfl ?_
        refine wa_getR C 7 4 dW_7 rfl rfl (by decide) okX0 gw_349 dX0_chooseNumbers_35 ?_
        refine wa_iload_n C 1 rfl dX0_chooseNumbers_38 rfl ?_
        obtain ⟨t_13, h⟩ := h
        refine wa_iald C 51 dW_51 dX0_chooseNumbers_39 t_13.1 t_13.2 (fun v_14 ev_14 rv_14 => ?_)
        replace h := h v_14 ev_14 rv_14
        refine wa_callVi C (k := 3) (As := [.int (iI v_14)]) (rest := [.int (iI v_12), .ref (ad 24)]) (c_X1_canChoose l K ad v_14 rv_14 _ h) gw_728 gw_1066 dW_3 rfl gw_726 gw_727 gw_4 q_X1_canChoose rfl rfl rfl ⟨by decide, by decide⟩ rfl (Nat.le_of_ble_eq_true rfl) dX0_chooseNumbers_40 (fun c_15 u9 rc_15 hp => ?_)
        obtain ⟨bc_15, rfl, h⟩ := hp
        replace h := h bc_15
        obtain ⟨t_16, h⟩ := h
        refine wa_bast C (ws' := fun w9 => (dW D_hasBoard D_beganBlank F_mines F_moves F_changes G_width G_height G_size B_parts B_longest S_groups S_askedGroup S_taken R_waitingCount R_metCount A_grade A_cell A_mined A_withTotal A_numbers X_low X_high Y_low Y_high F_mined F_number F_state F_cellsIn F_unknownNear F_hitNear F_moveStart F_changed F_waiting F_seen G_near G_nearEnd w9 B_partOf B_rest B_unknowns B_partStart B_cells S_minedSet S_safeSet S_partSet S_tally S_askedTally S_groupOf S_groupSize S_links S_linkEnd S_pick S_groupMinedSet S_groupSafeSet O_sums O_nextSums R_found R_openEnds R_need R_waiting R_waits R_common R_met A_number Q_mined Q_all Q_choices Q_term Q_divisor Q_spare X_limbs X_sum Y_limbs Y_sum)) 24 dW_24 dX0_chooseNumbers_43 t_16.1 t_16.2 bc_15 dWs_24 (fun B_chosen_17 eB_chosen_17 => ?_)
        replace h := h B_chosen_17 eB_chosen_17
        obtain ⟨r_18, h⟩ := h
        refine wa_iinc C (lv' := fun w9 => [(1, .int (iI w9)), (0, .ref (ad 7))]) 1 rfl dX0_chooseNumbers_44 (by decide) (fun _ => rfl) (fun x1_19 ex1_19 => ?_)
        replace h := h x1_19 ex1_19
        have rx1_19 : inR x1_19 := by rw [ex1_19]; exact r_18
        refine wa_goto C (tgt := 9) dX0_chooseNumbers_47 (by decide) ?_
        obtain ⟨n_20, ln_20, h⟩ := h
        refine wa_sub C [1, 0] rfl ?_
        exact ih_5 n_20 ln_20 x1_19 B_chosen_17 rx1_19 h
  refine wa_sub C [1, 0] rfl ?_
  exact k_6 n_3 0 B_chosen_1 (inR_k 0 rfl) h0Inv_2
