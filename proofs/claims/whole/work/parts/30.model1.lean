theorem dX12_thrown_0 : decode cX12_thrown 0 = .ok (.aload_n 0, 1) := by decide +kernel
theorem dX12_thrown_1 : decode cX12_thrown 1 = .ok (.getfield 79, 3) := by decide +kernel
theorem dX12_thrown_4 : decode cX12_thrown 4 = .ok (.ireturn, 1) := by decide +kernel
theorem dX12_fail_0 : decode cX12_fail 0 = .ok (.aload_n 0, 1) := by decide +kernel
theorem dX12_fail_1 : decode cX12_fail 1 = .ok (.iload_n 1, 1) := by decide +kernel
theorem dX12_fail_2 : decode cX12_fail 2 = .ok (.putfield 79, 3) := by decide +kernel
theorem dX12_fail_5 : decode cX12_fail 5 = .ok (.iconst 0, 1) := by decide +kernel
theorem dX12_fail_6 : decode cX12_fail 6 = .ok (.ireturn, 1) := by decide +kernel
theorem dX12_within_0 : decode cX12_within 0 = .ok (.iload_n 0, 1) := by decide +kernel
theorem dX12_within_1 : decode cX12_within 1 = .ok (.iload_n 1, 1) := by decide +kernel
theorem dX12_within_2 : decode cX12_within 2 = .ok (.if_icmp .lt 12, 3) := by decide +kernel
theorem dX12_within_5 : decode cX12_within 5 = .ok (.iload_n 0, 1) := by decide +kernel
theorem dX12_within_6 : decode cX12_within 6 = .ok (.iload_n 2, 1) := by decide +kernel
theorem dX12_within_7 : decode cX12_within 7 = .ok (.if_icmp .gt 7, 3) := by decide +kernel
theorem dX12_within_10 : decode cX12_within 10 = .ok (.iconst 1, 1) := by decide +kernel
theorem dX12_within_11 : decode cX12_within 11 = .ok (.goto 4, 3) := by decide +kernel
theorem dX12_within_14 : decode cX12_within 14 = .ok (.iconst 0, 1) := by decide +kernel
theorem dX12_within_15 : decode cX12_within 15 = .ok (.ireturn, 1) := by decide +kernel
theorem dX12_canBe_0 : decode cX12_canBe 0 = .ok (.iload_n 0, 1) := by decide +kernel
theorem dX12_canBe_1 : decode cX12_canBe 1 = .ok (.iconst 3, 1) := by decide +kernel
theorem dX12_canBe_2 : decode cX12_canBe 2 = .ok (.bipush 12, 2) := by decide +kernel
theorem dX12_canBe_4 : decode cX12_canBe 4 = .ok (.invokestatic 83, 3) := by decide +kernel
theorem dX12_canBe_7 : decode cX12_canBe 7 = .ok (.ifCond .eq 37, 3) := by decide +kernel
theorem dX12_canBe_10 : decode cX12_canBe 10 = .ok (.iload_n 1, 1) := by decide +kernel
theorem dX12_canBe_11 : decode cX12_canBe 11 = .ok (.iconst 3, 1) := by decide +kernel
theorem dX12_canBe_12 : decode cX12_canBe 12 = .ok (.bipush 12, 2) := by decide +kernel
theorem dX12_canBe_14 : decode cX12_canBe 14 = .ok (.invokestatic 83, 3) := by decide +kernel
theorem dX12_canBe_17 : decode cX12_canBe 17 = .ok (.ifCond .eq 27, 3) := by decide +kernel
theorem dX12_canBe_20 : decode cX12_canBe 20 = .ok (.iload_n 2, 1) := by decide +kernel
theorem dX12_canBe_21 : decode cX12_canBe 21 = .ok (.iconst 0, 1) := by decide +kernel
theorem dX12_canBe_22 : decode cX12_canBe 22 = .ok (.iconst 3, 1) := by decide +kernel
theorem dX12_canBe_23 : decode cX12_canBe 23 = .ok (.invokestatic 83, 3) := by decide +kernel
theorem dX12_canBe_26 : decode cX12_canBe 26 = .ok (.ifCond .eq 18, 3) := by decide +kernel
theorem dX12_canBe_29 : decode cX12_canBe 29 = .ok (.iload_n 2, 1) := by decide +kernel
theorem dX12_canBe_30 : decode cX12_canBe 30 = .ok (.iconst 3, 1) := by decide +kernel
theorem dX12_canBe_31 : decode cX12_canBe 31 = .ok (.if_icmp .lt 9, 3) := by decide +kernel
theorem dX12_canBe_34 : decode cX12_canBe 34 = .ok (.iload_n 1, 1) := by decide +kernel
theorem dX12_canBe_35 : decode cX12_canBe 35 = .ok (.iconst 2, 1) := by decide +kernel
theorem dX12_canBe_36 : decode cX12_canBe 36 = .ok (.irem, 1) := by decide +kernel
theorem dX12_canBe_37 : decode cX12_canBe 37 = .ok (.ifCond .ne 7, 3) := by decide +kernel
theorem dX12_canBe_40 : decode cX12_canBe 40 = .ok (.iconst 1, 1) := by decide +kernel
theorem dX12_canBe_41 : decode cX12_canBe 41 = .ok (.goto 4, 3) := by decide +kernel
theorem dX12_canBe_44 : decode cX12_canBe 44 = .ok (.iconst 0, 1) := by decide +kernel
theorem dX12_canBe_45 : decode cX12_canBe 45 = .ok (.ireturn, 1) := by decide +kernel
theorem dX12_touch_0 : decode cX12_touch 0 = .ok (.iload_n 1, 1) := by decide +kernel
theorem dX12_touch_1 : decode cX12_touch 1 = .ok (.iload_n 3, 1) := by decide +kernel
theorem dX12_touch_2 : decode cX12_touch 2 = .ok (.if_icmp .ne 9, 3) := by decide +kernel
theorem dX12_touch_5 : decode cX12_touch 5 = .ok (.iload_n 2, 1) := by decide +kernel
theorem dX12_touch_6 : decode cX12_touch 6 = .ok (.iload 4, 2) := by decide +kernel
theorem dX12_touch_8 : decode cX12_touch 8 = .ok (.if_icmp .eq 17, 3) := by decide +kernel
theorem dX12_touch_11 : decode cX12_touch 11 = .ok (.iload_n 3, 1) := by decide +kernel
theorem dX12_touch_12 : decode cX12_touch 12 = .ok (.iload_n 1, 1) := by decide +kernel
theorem dX12_touch_13 : decode cX12_touch 13 = .ok (.iconst 1, 1) := by decide +kernel
theorem dX12_touch_14 : decode cX12_touch 14 = .ok (.isub, 1) := by decide +kernel
theorem dX12_touch_15 : decode cX12_touch 15 = .ok (.if_icmp .lt 10, 3) := by decide +kernel
theorem dX12_touch_18 : decode cX12_touch 18 = .ok (.iload_n 3, 1) := by decide +kernel
theorem dX12_touch_19 : decode cX12_touch 19 = .ok (.iload_n 1, 1) := by decide +kernel
theorem dX12_touch_20 : decode cX12_touch 20 = .ok (.iconst 1, 1) := by decide +kernel
theorem dX12_touch_21 : decode cX12_touch 21 = .ok (.iadd, 1) := by decide +kernel
theorem dX12_touch_22 : decode cX12_touch 22 = .ok (.if_icmp .le 5, 3) := by decide +kernel
theorem dX12_touch_25 : decode cX12_touch 25 = .ok (.iconst 0, 1) := by decide +kernel
theorem dX12_touch_26 : decode cX12_touch 26 = .ok (.ireturn, 1) := by decide +kernel
theorem dX12_touch_27 : decode cX12_touch 27 = .ok (.iload_n 0, 1) := by decide +kernel
theorem dX12_touch_28 : decode cX12_touch 28 = .ok (.iconst 2, 1) := by decide +kernel
theorem dX12_touch_29 : decode cX12_touch 29 = .ok (.if_icmp .ge 15, 3) := by decide +kernel
theorem dX12_touch_32 : decode cX12_touch 32 = .ok (.iload 4, 2) := by decide +kernel
theorem dX12_touch_34 : decode cX12_touch 34 = .ok (.iload_n 2, 1) := by decide +kernel
theorem dX12_touch_35 : decode cX12_touch 35 = .ok (.iconst 1, 1) := by decide +kernel
theorem dX12_touch_36 : decode cX12_touch 36 = .ok (.isub, 1) := by decide +kernel
theorem dX12_touch_37 : decode cX12_touch 37 = .ok (.iload_n 2, 1) := by decide +kernel
theorem dX12_touch_38 : decode cX12_touch 38 = .ok (.iconst 1, 1) := by decide +kernel
theorem dX12_touch_39 : decode cX12_touch 39 = .ok (.iadd, 1) := by decide +kernel
theorem dX12_touch_40 : decode cX12_touch 40 = .ok (.invokestatic 83, 3) := by decide +kernel
theorem dX12_touch_43 : decode cX12_touch 43 = .ok (.ireturn, 1) := by decide +kernel
theorem dX12_touch_44 : decode cX12_touch 44 = .ok (.iload_n 1, 1) := by decide +kernel
theorem dX12_touch_45 : decode cX12_touch 45 = .ok (.iload_n 3, 1) := by decide +kernel
theorem dX12_touch_46 : decode cX12_touch 46 = .ok (.if_icmp .ne 25, 3) := by decide +kernel
theorem dX12_touch_49 : decode cX12_touch 49 = .ok (.iload 4, 2) := by decide +kernel
theorem dX12_touch_51 : decode cX12_touch 51 = .ok (.iload_n 2, 1) := by decide +kernel
theorem dX12_touch_52 : decode cX12_touch 52 = .ok (.iconst 1, 1) := by decide +kernel
theorem dX12_touch_53 : decode cX12_touch 53 = .ok (.isub, 1) := by decide +kernel
theorem dX12_touch_54 : decode cX12_touch 54 = .ok (.if_icmp .eq 11, 3) := by decide +kernel
theorem dX12_touch_57 : decode cX12_touch 57 = .ok (.iload 4, 2) := by decide +kernel
theorem dX12_touch_59 : decode cX12_touch 59 = .ok (.iload_n 2, 1) := by decide +kernel
theorem dX12_touch_60 : decode cX12_touch 60 = .ok (.iconst 1, 1) := by decide +kernel
theorem dX12_touch_61 : decode cX12_touch 61 = .ok (.iadd, 1) := by decide +kernel
theorem dX12_touch_62 : decode cX12_touch 62 = .ok (.if_icmp .ne 7, 3) := by decide +kernel
theorem dX12_touch_65 : decode cX12_touch 65 = .ok (.iconst 1, 1) := by decide +kernel
theorem dX12_touch_66 : decode cX12_touch 66 = .ok (.goto 4, 3) := by decide +kernel
theorem dX12_touch_69 : decode cX12_touch 69 = .ok (.iconst 0, 1) := by decide +kernel
theorem dX12_touch_70 : decode cX12_touch 70 = .ok (.ireturn, 1) := by decide +kernel
theorem dX12_touch_71 : decode cX12_touch 71 = .ok (.iload 4, 2) := by decide +kernel
theorem dX12_touch_73 : decode cX12_touch 73 = .ok (.iload_n 2, 1) := by decide +kernel
theorem dX12_touch_74 : decode cX12_touch 74 = .ok (.if_icmp .eq 23, 3) := by decide +kernel
theorem dX12_touch_77 : decode cX12_touch 77 = .ok (.iload 4, 2) := by decide +kernel
theorem dX12_touch_79 : decode cX12_touch 79 = .ok (.iload_n 1, 1) := by decide +kernel
theorem dX12_touch_80 : decode cX12_touch 80 = .ok (.iconst 2, 1) := by decide +kernel
theorem dX12_touch_81 : decode cX12_touch 81 = .ok (.irem, 1) := by decide +kernel
theorem dX12_touch_82 : decode cX12_touch 82 = .ok (.ifCond .ne 9, 3) := by decide +kernel
theorem dX12_touch_85 : decode cX12_touch 85 = .ok (.iload_n 2, 1) := by decide +kernel
theorem dX12_touch_86 : decode cX12_touch 86 = .ok (.iconst 1, 1) := by decide +kernel
theorem dX12_touch_87 : decode cX12_touch 87 = .ok (.isub, 1) := by decide +kernel
theorem dX12_touch_88 : decode cX12_touch 88 = .ok (.goto 6, 3) := by decide +kernel
theorem dX12_touch_91 : decode cX12_touch 91 = .ok (.iload_n 2, 1) := by decide +kernel
theorem dX12_touch_92 : decode cX12_touch 92 = .ok (.iconst 1, 1) := by decide +kernel
theorem dX12_touch_93 : decode cX12_touch 93 = .ok (.iadd, 1) := by decide +kernel
theorem dX12_touch_94 : decode cX12_touch 94 = .ok (.if_icmp .ne 7, 3) := by decide +kernel
theorem dX12_touch_97 : decode cX12_touch 97 = .ok (.iconst 1, 1) := by decide +kernel
theorem dX12_touch_98 : decode cX12_touch 98 = .ok (.goto 4, 3) := by decide +kernel
theorem dX12_touch_101 : decode cX12_touch 101 = .ok (.iconst 0, 1) := by decide +kernel
theorem dX12_touch_102 : decode cX12_touch 102 = .ok (.ireturn, 1) := by decide +kernel
theorem dX12_areNear_0 : decode cX12_areNear 0 = .ok (.iload_n 1, 1) := by decide +kernel
theorem dX12_areNear_1 : decode cX12_areNear 1 = .ok (.aload_n 0, 1) := by decide +kernel
theorem dX12_areNear_2 : decode cX12_areNear 2 = .ok (.getfield 87, 3) := by decide +kernel
theorem dX12_areNear_5 : decode cX12_areNear 5 = .ok (.idiv, 1) := by decide +kernel
theorem dX12_areNear_6 : decode cX12_areNear 6 = .ok (.istore_n 3, 1) := by decide +kernel
theorem dX12_areNear_7 : decode cX12_areNear 7 = .ok (.iload_n 1, 1) := by decide +kernel
theorem dX12_areNear_8 : decode cX12_areNear 8 = .ok (.aload_n 0, 1) := by decide +kernel
theorem dX12_areNear_9 : decode cX12_areNear 9 = .ok (.getfield 87, 3) := by decide +kernel
theorem dX12_areNear_12 : decode cX12_areNear 12 = .ok (.irem, 1) := by decide +kernel
theorem dX12_areNear_13 : decode cX12_areNear 13 = .ok (.istore 4, 2) := by decide +kernel
theorem dX12_areNear_15 : decode cX12_areNear 15 = .ok (.aload_n 0, 1) := by decide +kernel
theorem dX12_areNear_16 : decode cX12_areNear 16 = .ok (.getfield 90, 3) := by decide +kernel
theorem dX12_areNear_19 : decode cX12_areNear 19 = .ok (.iconst 2, 1) := by decide +kernel
theorem dX12_areNear_20 : decode cX12_areNear 20 = .ok (.irem, 1) := by decide +kernel
theorem dX12_areNear_21 : decode cX12_areNear 21 = .ok (.ifCond .ne 26, 3) := by decide +kernel
theorem dX12_areNear_24 : decode cX12_areNear 24 = .ok (.aload_n 0, 1) := by decide +kernel
theorem dX12_areNear_25 : decode cX12_areNear 25 = .ok (.getfield 90, 3) := by decide +kernel
theorem dX12_areNear_28 : decode cX12_areNear 28 = .ok (.iload_n 3, 1) := by decide +kernel
theorem dX12_areNear_29 : decode cX12_areNear 29 = .ok (.iload 4, 2) := by decide +kernel
theorem dX12_areNear_31 : decode cX12_areNear 31 = .ok (.iload_n 2, 1) := by decide +kernel
theorem dX12_areNear_32 : decode cX12_areNear 32 = .ok (.aload_n 0, 1) := by decide +kernel
theorem dX12_areNear_33 : decode cX12_areNear 33 = .ok (.getfield 87, 3) := by decide +kernel
theorem dX12_areNear_36 : decode cX12_areNear 36 = .ok (.idiv, 1) := by decide +kernel
theorem dX12_areNear_37 : decode cX12_areNear 37 = .ok (.iload_n 2, 1) := by decide +kernel
theorem dX12_areNear_38 : decode cX12_areNear 38 = .ok (.aload_n 0, 1) := by decide +kernel
theorem dX12_areNear_39 : decode cX12_areNear 39 = .ok (.getfield 87, 3) := by decide +kernel
theorem dX12_areNear_42 : decode cX12_areNear 42 = .ok (.irem, 1) := by decide +kernel
theorem dX12_areNear_43 : decode cX12_areNear 43 = .ok (.invokestatic 93, 3) := by decide +kernel
theorem dX12_areNear_46 : decode cX12_areNear 46 = .ok (.ireturn, 1) := by decide +kernel
theorem dX12_areNear_47 : decode cX12_areNear 47 = .ok (.iconst 0, 1) := by decide +kernel
theorem dX12_areNear_48 : decode cX12_areNear 48 = .ok (.istore 5, 2) := by decide +kernel
theorem dX12_areNear_50 : decode cX12_areNear 50 = .ok (.iconst 0, 1) := by decide +kernel
theorem dX12_areNear_51 : decode cX12_areNear 51 = .ok (.istore 6, 2) := by decide +kernel
theorem dX12_areNear_53 : decode cX12_areNear 53 = .ok (.iload 6, 2) := by decide +kernel
theorem dX12_areNear_55 : decode cX12_areNear 55 = .ok (.bipush 9, 2) := by decide +kernel
theorem dX12_areNear_57 : decode cX12_areNear 57 = .ok (.if_icmp .ge 70, 3) := by decide +kernel
theorem dX12_areNear_60 : decode cX12_areNear 60 = .ok (.iload 5, 2) := by decide +kernel
theorem dX12_areNear_62 : decode cX12_areNear 62 = .ok (.ifCond .ne 52, 3) := by decide +kernel
theorem dX12_areNear_65 : decode cX12_areNear 65 = .ok (.aload_n 0, 1) := by decide +kernel
theorem dX12_areNear_66 : decode cX12_areNear 66 = .ok (.getfield 90, 3) := by decide +kernel
theorem dX12_areNear_69 : decode cX12_areNear 69 = .ok (.iload_n 3, 1) := by decide +kernel
theorem dX12_areNear_70 : decode cX12_areNear 70 = .ok (.iload 4, 2) := by decide +kernel
theorem dX12_areNear_72 : decode cX12_areNear 72 = .ok (.iload_n 2, 1) := by decide +kernel
theorem dX12_areNear_73 : decode cX12_areNear 73 = .ok (.aload_n 0, 1) := by decide +kernel
theorem dX12_areNear_74 : decode cX12_areNear 74 = .ok (.getfield 87, 3) := by decide +kernel
theorem dX12_areNear_77 : decode cX12_areNear 77 = .ok (.idiv, 1) := by decide +kernel
theorem dX12_areNear_78 : decode cX12_areNear 78 = .ok (.iload 6, 2) := by decide +kernel
theorem dX12_areNear_80 : decode cX12_areNear 80 = .ok (.iconst 3, 1) := by decide +kernel
theorem dX12_areNear_81 : decode cX12_areNear 81 = .ok (.idiv, 1) := by decide +kernel
theorem dX12_areNear_82 : decode cX12_areNear 82 = .ok (.iconst 1, 1) := by decide +kernel
theorem dX12_areNear_83 : decode cX12_areNear 83 = .ok (.isub, 1) := by decide +kernel
theorem dX12_areNear_84 : decode cX12_areNear 84 = .ok (.aload_n 0, 1) := by decide +kernel
theorem dX12_areNear_85 : decode cX12_areNear 85 = .ok (.getfield 97, 3) := by decide +kernel
theorem dX12_areNear_88 : decode cX12_areNear 88 = .ok (.imul, 1) := by decide +kernel
theorem dX12_areNear_89 : decode cX12_areNear 89 = .ok (.iadd, 1) := by decide +kernel
theorem dX12_areNear_90 : decode cX12_areNear 90 = .ok (.iload_n 2, 1) := by decide +kernel
theorem dX12_areNear_91 : decode cX12_areNear 91 = .ok (.aload_n 0, 1) := by decide +kernel
theorem dX12_areNear_92 : decode cX12_areNear 92 = .ok (.getfield 87, 3) := by decide +kernel
theorem dX12_areNear_95 : decode cX12_areNear 95 = .ok (.irem, 1) := by decide +kernel
theorem dX12_areNear_96 : decode cX12_areNear 96 = .ok (.iload 6, 2) := by decide +kernel
theorem dX12_areNear_98 : decode cX12_areNear 98 = .ok (.iconst 3, 1) := by decide +kernel
theorem dX12_areNear_99 : decode cX12_areNear 99 = .ok (.irem, 1) := by decide +kernel
theorem dX12_areNear_100 : decode cX12_areNear 100 = .ok (.iconst 1, 1) := by decide +kernel
theorem dX12_areNear_101 : decode cX12_areNear 101 = .ok (.isub, 1) := by decide +kernel
theorem dX12_areNear_102 : decode cX12_areNear 102 = .ok (.aload_n 0, 1) := by decide +kernel
theorem dX12_areNear_103 : decode cX12_areNear 103 = .ok (.getfield 87, 3) := by decide +kernel
theorem dX12_areNear_106 : decode cX12_areNear 106 = .ok (.imul, 1) := by decide +kernel
theorem dX12_areNear_107 : decode cX12_areNear 107 = .ok (.iadd, 1) := by decide +kernel
theorem dX12_areNear_108 : decode cX12_areNear 108 = .ok (.invokestatic 93, 3) := by decide +kernel
theorem dX12_areNear_111 : decode cX12_areNear 111 = .ok (.ifCond .eq 7, 3) := by decide +kernel
theorem dX12_areNear_114 : decode cX12_areNear 114 = .ok (.iconst 1, 1) := by decide +kernel
theorem dX12_areNear_115 : decode cX12_areNear 115 = .ok (.goto 4, 3) := by decide +kernel
theorem dX12_areNear_118 : decode cX12_areNear 118 = .ok (.iconst 0, 1) := by decide +kernel
theorem dX12_areNear_119 : decode cX12_areNear 119 = .ok (.istore 5, 2) := by decide +kernel
theorem dX12_areNear_121 : decode cX12_areNear 121 = .ok (.iinc 6 1, 3) := by decide +kernel
theorem dX12_areNear_124 : decode cX12_areNear 124 = .ok (.goto (-71), 3) := by decide +kernel
theorem dX12_areNear_127 : decode cX12_areNear 127 = .ok (.iload 5, 2) := by decide +kernel
theorem dX12_areNear_129 : decode cX12_areNear 129 = .ok (.ifCond .eq 12, 3) := by decide +kernel
theorem dX12_areNear_132 : decode cX12_areNear 132 = .ok (.iload_n 1, 1) := by decide +kernel
theorem dX12_areNear_133 : decode cX12_areNear 133 = .ok (.iload_n 2, 1) := by decide +kernel
theorem dX12_areNear_134 : decode cX12_areNear 134 = .ok (.if_icmp .eq 7, 3) := by decide +kernel
theorem dX12_areNear_137 : decode cX12_areNear 137 = .ok (.iconst 1, 1) := by decide +kernel
theorem dX12_areNear_138 : decode cX12_areNear 138 = .ok (.goto 4, 3) := by decide +kernel
theorem dX12_areNear_141 : decode cX12_areNear 141 = .ok (.iconst 0, 1) := by decide +kernel
theorem dX12_areNear_142 : decode cX12_areNear 142 = .ok (.ireturn, 1) := by decide +kernel
theorem dX12_noReason_0 : decode cX12_noReason 0 = .ok (.aload_n 0, 1) := by decide +kernel
theorem dX12_noReason_1 : decode cX12_noReason 1 = .ok (.iconst 0, 1) := by decide +kernel
theorem dX12_noReason_2 : decode cX12_noReason 2 = .ok (.putfield 123, 3) := by decide +kernel
theorem dX12_noReason_5 : decode cX12_noReason 5 = .ok (.aload_n 0, 1) := by decide +kernel
theorem dX12_noReason_6 : decode cX12_noReason 6 = .ok (.iconst 0, 1) := by decide +kernel
theorem dX12_noReason_7 : decode cX12_noReason 7 = .ok (.putfield 126, 3) := by decide +kernel
theorem dX12_noReason_10 : decode cX12_noReason 10 = .ok (.aload_n 0, 1) := by decide +kernel
theorem dX12_noReason_11 : decode cX12_noReason 11 = .ok (.iconst 0, 1) := by decide +kernel
theorem dX12_noReason_12 : decode cX12_noReason 12 = .ok (.putfield 129, 3) := by decide +kernel
theorem dX12_noReason_15 : decode cX12_noReason 15 = .ok (.return_, 1) := by decide +kernel
theorem dX12_closeAll_0 : decode cX12_closeAll 0 = .ok (.iconst 0, 1) := by decide +kernel
theorem dX12_closeAll_1 : decode cX12_closeAll 1 = .ok (.istore_n 1, 1) := by decide +kernel
theorem dX12_closeAll_2 : decode cX12_closeAll 2 = .ok (.iload_n 1, 1) := by decide +kernel
theorem dX12_closeAll_3 : decode cX12_closeAll 3 = .ok (.aload_n 0, 1) := by decide +kernel
theorem dX12_closeAll_4 : decode cX12_closeAll 4 = .ok (.getfield 100, 3) := by decide +kernel
theorem dX12_closeAll_7 : decode cX12_closeAll 7 = .ok (.if_icmp .ge 16, 3) := by decide +kernel
theorem dX12_closeAll_10 : decode cX12_closeAll 10 = .ok (.aload_n 0, 1) := by decide +kernel
theorem dX12_closeAll_11 : decode cX12_closeAll 11 = .ok (.getfield 20, 3) := by decide +kernel
theorem dX12_closeAll_14 : decode cX12_closeAll 14 = .ok (.iload_n 1, 1) := by decide +kernel
theorem dX12_closeAll_15 : decode cX12_closeAll 15 = .ok (.iconst 0, 1) := by decide +kernel
theorem dX12_closeAll_16 : decode cX12_closeAll 16 = .ok (.iastore, 1) := by decide +kernel
theorem dX12_closeAll_17 : decode cX12_closeAll 17 = .ok (.iinc 1 1, 3) := by decide +kernel
theorem dX12_closeAll_20 : decode cX12_closeAll 20 = .ok (.goto (-18), 3) := by decide +kernel
theorem dX12_closeAll_23 : decode cX12_closeAll 23 = .ok (.return_, 1) := by decide +kernel
theorem dX12_setUp_0 : decode cX12_setUp 0 = .ok (.aload_n 0, 1) := by decide +kernel
theorem dX12_setUp_1 : decode cX12_setUp 1 = .ok (.iload_n 1, 1) := by decide +kernel
theorem dX12_setUp_2 : decode cX12_setUp 2 = .ok (.putfield 87, 3) := by decide +kernel
theorem dX12_setUp_5 : decode cX12_setUp 5 = .ok (.aload_n 0, 1) := by decide +kernel
theorem dX12_setUp_6 : decode cX12_setUp 6 = .ok (.iload_n 2, 1) := by decide +kernel
theorem dX12_setUp_7 : decode cX12_setUp 7 = .ok (.putfield 97, 3) := by decide +kernel
theorem dX12_setUp_10 : decode cX12_setUp 10 = .ok (.aload_n 0, 1) := by decide +kernel
theorem dX12_setUp_11 : decode cX12_setUp 11 = .ok (.iload_n 3, 1) := by decide +kernel
theorem dX12_setUp_12 : decode cX12_setUp 12 = .ok (.putfield 90, 3) := by decide +kernel
theorem dX12_setUp_15 : decode cX12_setUp 15 = .ok (.aload_n 0, 1) := by decide +kernel
theorem dX12_setUp_16 : decode cX12_setUp 16 = .ok (.aload_n 0, 1) := by decide +kernel
theorem dX12_setUp_17 : decode cX12_setUp 17 = .ok (.getfield 87, 3) := by decide +kernel
theorem dX12_setUp_20 : decode cX12_setUp 20 = .ok (.aload_n 0, 1) := by decide +kernel
theorem dX12_setUp_21 : decode cX12_setUp 21 = .ok (.getfield 97, 3) := by decide +kernel
theorem dX12_setUp_24 : decode cX12_setUp 24 = .ok (.imul, 1) := by decide +kernel
theorem dX12_setUp_25 : decode cX12_setUp 25 = .ok (.putfield 100, 3) := by decide +kernel
theorem dX12_setUp_28 : decode cX12_setUp 28 = .ok (.iconst 0, 1) := by decide +kernel
theorem dX12_setUp_29 : decode cX12_setUp 29 = .ok (.istore 4, 2) := by decide +kernel
theorem dX12_setUp_31 : decode cX12_setUp 31 = .ok (.iload 4, 2) := by decide +kernel
theorem dX12_setUp_33 : decode cX12_setUp 33 = .ok (.aload_n 0, 1) := by decide +kernel
theorem dX12_setUp_34 : decode cX12_setUp 34 = .ok (.getfield 100, 3) := by decide +kernel
theorem dX12_setUp_37 : decode cX12_setUp 37 = .ok (.if_icmp .ge 85, 3) := by decide +kernel
theorem dX12_setUp_40 : decode cX12_setUp 40 = .ok (.aload_n 0, 1) := by decide +kernel
theorem dX12_setUp_41 : decode cX12_setUp 41 = .ok (.getfield 13, 3) := by decide +kernel
theorem dX12_setUp_44 : decode cX12_setUp 44 = .ok (.iload 4, 2) := by decide +kernel
theorem dX12_setUp_46 : decode cX12_setUp 46 = .ok (.iconst 0, 1) := by decide +kernel
theorem dX12_setUp_47 : decode cX12_setUp 47 = .ok (.iastore, 1) := by decide +kernel
theorem dX12_setUp_48 : decode cX12_setUp 48 = .ok (.aload_n 0, 1) := by decide +kernel
theorem dX12_setUp_49 : decode cX12_setUp 49 = .ok (.getfield 16, 3) := by decide +kernel
theorem dX12_setUp_52 : decode cX12_setUp 52 = .ok (.iload 4, 2) := by decide +kernel
theorem dX12_setUp_54 : decode cX12_setUp 54 = .ok (.iconst 0, 1) := by decide +kernel
theorem dX12_setUp_55 : decode cX12_setUp 55 = .ok (.bastore, 1) := by decide +kernel
theorem dX12_setUp_56 : decode cX12_setUp 56 = .ok (.iconst 0, 1) := by decide +kernel
theorem dX12_setUp_57 : decode cX12_setUp 57 = .ok (.istore 5, 2) := by decide +kernel
theorem dX12_setUp_59 : decode cX12_setUp 59 = .ok (.iload 5, 2) := by decide +kernel
theorem dX12_setUp_61 : decode cX12_setUp 61 = .ok (.aload_n 0, 1) := by decide +kernel
theorem dX12_setUp_62 : decode cX12_setUp 62 = .ok (.getfield 100, 3) := by decide +kernel
theorem dX12_setUp_65 : decode cX12_setUp 65 = .ok (.if_icmp .ge 51, 3) := by decide +kernel
theorem dX12_setUp_68 : decode cX12_setUp 68 = .ok (.aload_n 0, 1) := by decide +kernel
theorem dX12_setUp_69 : decode cX12_setUp 69 = .ok (.iload 4, 2) := by decide +kernel
theorem dX12_setUp_71 : decode cX12_setUp 71 = .ok (.iload 5, 2) := by decide +kernel
theorem dX12_setUp_73 : decode cX12_setUp 73 = .ok (.invokevirtual 103, 3) := by decide +kernel
theorem dX12_setUp_76 : decode cX12_setUp 76 = .ok (.ifCond .eq 34, 3) := by decide +kernel
theorem dX12_setUp_79 : decode cX12_setUp 79 = .ok (.aload_n 0, 1) := by decide +kernel
theorem dX12_setUp_80 : decode cX12_setUp 80 = .ok (.getfield 7, 3) := by decide +kernel
theorem dX12_setUp_83 : decode cX12_setUp 83 = .ok (.bipush 8, 2) := by decide +kernel
theorem dX12_setUp_85 : decode cX12_setUp 85 = .ok (.iload 4, 2) := by decide +kernel
theorem dX12_setUp_87 : decode cX12_setUp 87 = .ok (.imul, 1) := by decide +kernel
theorem dX12_setUp_88 : decode cX12_setUp 88 = .ok (.aload_n 0, 1) := by decide +kernel
theorem dX12_setUp_89 : decode cX12_setUp 89 = .ok (.getfield 13, 3) := by decide +kernel
theorem dX12_setUp_92 : decode cX12_setUp 92 = .ok (.iload 4, 2) := by decide +kernel
theorem dX12_setUp_94 : decode cX12_setUp 94 = .ok (.iaload, 1) := by decide +kernel
theorem dX12_setUp_95 : decode cX12_setUp 95 = .ok (.iadd, 1) := by decide +kernel
theorem dX12_setUp_96 : decode cX12_setUp 96 = .ok (.iload 5, 2) := by decide +kernel
theorem dX12_setUp_98 : decode cX12_setUp 98 = .ok (.iastore, 1) := by decide +kernel
theorem dX12_setUp_99 : decode cX12_setUp 99 = .ok (.aload_n 0, 1) := by decide +kernel
theorem dX12_setUp_100 : decode cX12_setUp 100 = .ok (.getfield 13, 3) := by decide +kernel
theorem dX12_setUp_103 : decode cX12_setUp 103 = .ok (.iload 4, 2) := by decide +kernel
theorem dX12_setUp_105 : decode cX12_setUp 105 = .ok (.dup2, 1) := by decide +kernel
theorem dX12_setUp_106 : decode cX12_setUp 106 = .ok (.iaload, 1) := by decide +kernel
theorem dX12_setUp_107 : decode cX12_setUp 107 = .ok (.iconst 1, 1) := by decide +kernel
theorem dX12_setUp_108 : decode cX12_setUp 108 = .ok (.iadd, 1) := by decide +kernel
theorem dX12_setUp_109 : decode cX12_setUp 109 = .ok (.iastore, 1) := by decide +kernel
theorem dX12_setUp_110 : decode cX12_setUp 110 = .ok (.iinc 5 1, 3) := by decide +kernel
theorem dX12_setUp_113 : decode cX12_setUp 113 = .ok (.goto (-54), 3) := by decide +kernel
theorem dX12_setUp_116 : decode cX12_setUp 116 = .ok (.iinc 4 1, 3) := by decide +kernel
theorem dX12_setUp_119 : decode cX12_setUp 119 = .ok (.goto (-88), 3) := by decide +kernel
theorem dX12_setUp_122 : decode cX12_setUp 122 = .ok (.aload_n 0, 1) := by decide +kernel
theorem dX12_setUp_123 : decode cX12_setUp 123 = .ok (.invokevirtual 107, 3) := by decide +kernel
theorem dX12_setUp_126 : decode cX12_setUp 126 = .ok (.aload_n 0, 1) := by decide +kernel
theorem dX12_setUp_127 : decode cX12_setUp 127 = .ok (.iconst 0, 1) := by decide +kernel
theorem dX12_setUp_128 : decode cX12_setUp 128 = .ok (.putfield 110, 3) := by decide +kernel
theorem dX12_setUp_131 : decode cX12_setUp 131 = .ok (.aload_n 0, 1) := by decide +kernel
theorem dX12_setUp_132 : decode cX12_setUp 132 = .ok (.iconst 3, 1) := by decide +kernel
theorem dX12_setUp_133 : decode cX12_setUp 133 = .ok (.putfield 113, 3) := by decide +kernel
theorem dX12_setUp_136 : decode cX12_setUp 136 = .ok (.aload_n 0, 1) := by decide +kernel
theorem dX12_setUp_137 : decode cX12_setUp 137 = .ok (.invokevirtual 116, 3) := by decide +kernel
theorem dX12_setUp_140 : decode cX12_setUp 140 = .ok (.aload_n 0, 1) := by decide +kernel
theorem dX12_setUp_141 : decode cX12_setUp 141 = .ok (.iconst 1, 1) := by decide +kernel
theorem dX12_setUp_142 : decode cX12_setUp 142 = .ok (.putfield 119, 3) := by decide +kernel
theorem dX12_setUp_145 : decode cX12_setUp 145 = .ok (.return_, 1) := by decide +kernel
theorem dX12_numberOf_0 : decode cX12_numberOf 0 = .ok (.iconst 0, 1) := by decide +kernel
theorem dX12_numberOf_1 : decode cX12_numberOf 1 = .ok (.istore_n 2, 1) := by decide +kernel
theorem dX12_numberOf_2 : decode cX12_numberOf 2 = .ok (.iconst 0, 1) := by decide +kernel
theorem dX12_numberOf_3 : decode cX12_numberOf 3 = .ok (.istore_n 3, 1) := by decide +kernel
theorem dX12_numberOf_4 : decode cX12_numberOf 4 = .ok (.iload_n 3, 1) := by decide +kernel
theorem dX12_numberOf_5 : decode cX12_numberOf 5 = .ok (.aload_n 0, 1) := by decide +kernel
theorem dX12_numberOf_6 : decode cX12_numberOf 6 = .ok (.getfield 13, 3) := by decide +kernel
theorem dX12_numberOf_9 : decode cX12_numberOf 9 = .ok (.iload_n 1, 1) := by decide +kernel
theorem dX12_numberOf_10 : decode cX12_numberOf 10 = .ok (.iaload, 1) := by decide +kernel
theorem dX12_numberOf_11 : decode cX12_numberOf 11 = .ok (.if_icmp .ge 36, 3) := by decide +kernel
theorem dX12_numberOf_14 : decode cX12_numberOf 14 = .ok (.iload_n 2, 1) := by decide +kernel
theorem dX12_numberOf_15 : decode cX12_numberOf 15 = .ok (.aload_n 0, 1) := by decide +kernel
theorem dX12_numberOf_16 : decode cX12_numberOf 16 = .ok (.getfield 16, 3) := by decide +kernel
theorem dX12_numberOf_19 : decode cX12_numberOf 19 = .ok (.aload_n 0, 1) := by decide +kernel
theorem dX12_numberOf_20 : decode cX12_numberOf 20 = .ok (.getfield 7, 3) := by decide +kernel
theorem dX12_numberOf_23 : decode cX12_numberOf 23 = .ok (.bipush 8, 2) := by decide +kernel
theorem dX12_numberOf_25 : decode cX12_numberOf 25 = .ok (.iload_n 1, 1) := by decide +kernel
theorem dX12_numberOf_26 : decode cX12_numberOf 26 = .ok (.imul, 1) := by decide +kernel
theorem dX12_numberOf_27 : decode cX12_numberOf 27 = .ok (.iload_n 3, 1) := by decide +kernel
theorem dX12_numberOf_28 : decode cX12_numberOf 28 = .ok (.iadd, 1) := by decide +kernel
theorem dX12_numberOf_29 : decode cX12_numberOf 29 = .ok (.iaload, 1) := by decide +kernel
theorem dX12_numberOf_30 : decode cX12_numberOf 30 = .ok (.baload, 1) := by decide +kernel
theorem dX12_numberOf_31 : decode cX12_numberOf 31 = .ok (.ifCond .eq 7, 3) := by decide +kernel
theorem dX12_numberOf_34 : decode cX12_numberOf 34 = .ok (.iconst 1, 1) := by decide +kernel
theorem dX12_numberOf_35 : decode cX12_numberOf 35 = .ok (.goto 4, 3) := by decide +kernel
theorem dX12_numberOf_38 : decode cX12_numberOf 38 = .ok (.iconst 0, 1) := by decide +kernel
theorem dX12_numberOf_39 : decode cX12_numberOf 39 = .ok (.iadd, 1) := by decide +kernel
theorem dX12_numberOf_40 : decode cX12_numberOf 40 = .ok (.istore_n 2, 1) := by decide +kernel
theorem dX12_numberOf_41 : decode cX12_numberOf 41 = .ok (.iinc 3 1, 3) := by decide +kernel
theorem dX12_numberOf_44 : decode cX12_numberOf 44 = .ok (.goto (-40), 3) := by decide +kernel
theorem dX12_numberOf_47 : decode cX12_numberOf 47 = .ok (.iload_n 2, 1) := by decide +kernel
theorem dX12_numberOf_48 : decode cX12_numberOf 48 = .ok (.ireturn, 1) := by decide +kernel
theorem dX12_isUnknown_0 : decode cX12_isUnknown 0 = .ok (.aload_n 0, 1) := by decide +kernel
theorem dX12_isUnknown_1 : decode cX12_isUnknown 1 = .ok (.getfield 20, 3) := by decide +kernel
theorem dX12_isUnknown_4 : decode cX12_isUnknown 4 = .ok (.iload_n 1, 1) := by decide +kernel
theorem dX12_isUnknown_5 : decode cX12_isUnknown 5 = .ok (.iaload, 1) := by decide +kernel
theorem dX12_isUnknown_6 : decode cX12_isUnknown 6 = .ok (.ifCond .eq 13, 3) := by decide +kernel
theorem dX12_isUnknown_9 : decode cX12_isUnknown 9 = .ok (.aload_n 0, 1) := by decide +kernel
theorem dX12_isUnknown_10 : decode cX12_isUnknown 10 = .ok (.getfield 20, 3) := by decide +kernel
theorem dX12_isUnknown_13 : decode cX12_isUnknown 13 = .ok (.iload_n 1, 1) := by decide +kernel
theorem dX12_isUnknown_14 : decode cX12_isUnknown 14 = .ok (.iaload, 1) := by decide +kernel
theorem dX12_isUnknown_15 : decode cX12_isUnknown 15 = .ok (.iconst 2, 1) := by decide +kernel
theorem dX12_isUnknown_16 : decode cX12_isUnknown 16 = .ok (.if_icmp .ne 7, 3) := by decide +kernel
theorem dX12_isUnknown_19 : decode cX12_isUnknown 19 = .ok (.iconst 1, 1) := by decide +kernel
theorem dX12_isUnknown_20 : decode cX12_isUnknown 20 = .ok (.goto 4, 3) := by decide +kernel
theorem dX12_isUnknown_23 : decode cX12_isUnknown 23 = .ok (.iconst 0, 1) := by decide +kernel
theorem dX12_isUnknown_24 : decode cX12_isUnknown 24 = .ok (.ireturn, 1) := by decide +kernel
theorem dX12_around_0 : decode cX12_around 0 = .ok (.iconst 0, 1) := by decide +kernel
theorem dX12_around_1 : decode cX12_around 1 = .ok (.istore_n 3, 1) := by decide +kernel
theorem dX12_around_2 : decode cX12_around 2 = .ok (.iconst 0, 1) := by decide +kernel
theorem dX12_around_3 : decode cX12_around 3 = .ok (.istore 4, 2) := by decide +kernel
theorem dX12_around_5 : decode cX12_around 5 = .ok (.iload 4, 2) := by decide +kernel
theorem dX12_around_7 : decode cX12_around 7 = .ok (.aload_n 0, 1) := by decide +kernel
theorem dX12_around_8 : decode cX12_around 8 = .ok (.getfield 13, 3) := by decide +kernel
theorem dX12_around_11 : decode cX12_around 11 = .ok (.iload_n 1, 1) := by decide +kernel
theorem dX12_around_12 : decode cX12_around 12 = .ok (.iaload, 1) := by decide +kernel
theorem dX12_around_13 : decode cX12_around 13 = .ok (.if_icmp .ge 38, 3) := by decide +kernel
theorem dX12_around_16 : decode cX12_around 16 = .ok (.iload_n 3, 1) := by decide +kernel
theorem dX12_around_17 : decode cX12_around 17 = .ok (.aload_n 0, 1) := by decide +kernel
theorem dX12_around_18 : decode cX12_around 18 = .ok (.getfield 20, 3) := by decide +kernel
theorem dX12_around_21 : decode cX12_around 21 = .ok (.aload_n 0, 1) := by decide +kernel
theorem dX12_around_22 : decode cX12_around 22 = .ok (.getfield 7, 3) := by decide +kernel
theorem dX12_around_25 : decode cX12_around 25 = .ok (.bipush 8, 2) := by decide +kernel
theorem dX12_around_27 : decode cX12_around 27 = .ok (.iload_n 1, 1) := by decide +kernel
theorem dX12_around_28 : decode cX12_around 28 = .ok (.imul, 1) := by decide +kernel
theorem dX12_around_29 : decode cX12_around 29 = .ok (.iload 4, 2) := by decide +kernel
theorem dX12_around_31 : decode cX12_around 31 = .ok (.iadd, 1) := by decide +kernel
theorem dX12_around_32 : decode cX12_around 32 = .ok (.iaload, 1) := by decide +kernel
theorem dX12_around_33 : decode cX12_around 33 = .ok (.iaload, 1) := by decide +kernel
theorem dX12_around_34 : decode cX12_around 34 = .ok (.iload_n 2, 1) := by decide +kernel
theorem dX12_around_35 : decode cX12_around 35 = .ok (.if_icmp .ne 7, 3) := by decide +kernel
theorem dX12_around_38 : decode cX12_around 38 = .ok (.iconst 1, 1) := by decide +kernel
theorem dX12_around_39 : decode cX12_around 39 = .ok (.goto 4, 3) := by decide +kernel
theorem dX12_around_42 : decode cX12_around 42 = .ok (.iconst 0, 1) := by decide +kernel
theorem dX12_around_43 : decode cX12_around 43 = .ok (.iadd, 1) := by decide +kernel
theorem dX12_around_44 : decode cX12_around 44 = .ok (.istore_n 3, 1) := by decide +kernel
theorem dX12_around_45 : decode cX12_around 45 = .ok (.iinc 4 1, 3) := by decide +kernel
theorem dX12_around_48 : decode cX12_around 48 = .ok (.goto (-43), 3) := by decide +kernel
theorem dX12_around_51 : decode cX12_around 51 = .ok (.iload_n 3, 1) := by decide +kernel
theorem dX12_around_52 : decode cX12_around 52 = .ok (.ireturn, 1) := by decide +kernel
theorem dX12_mines_0 : decode cX12_mines 0 = .ok (.iconst 0, 1) := by decide +kernel
theorem dX12_mines_1 : decode cX12_mines 1 = .ok (.istore_n 1, 1) := by decide +kernel
theorem dX12_mines_2 : decode cX12_mines 2 = .ok (.iconst 0, 1) := by decide +kernel
theorem dX12_mines_3 : decode cX12_mines 3 = .ok (.istore_n 2, 1) := by decide +kernel
theorem dX12_mines_4 : decode cX12_mines 4 = .ok (.iload_n 2, 1) := by decide +kernel
theorem dX12_mines_5 : decode cX12_mines 5 = .ok (.aload_n 0, 1) := by decide +kernel
theorem dX12_mines_6 : decode cX12_mines 6 = .ok (.getfield 100, 3) := by decide +kernel
theorem dX12_mines_9 : decode cX12_mines 9 = .ok (.if_icmp .ge 26, 3) := by decide +kernel
theorem dX12_mines_12 : decode cX12_mines 12 = .ok (.iload_n 1, 1) := by decide +kernel
theorem dX12_mines_13 : decode cX12_mines 13 = .ok (.aload_n 0, 1) := by decide +kernel
theorem dX12_mines_14 : decode cX12_mines 14 = .ok (.getfield 16, 3) := by decide +kernel
theorem dX12_mines_17 : decode cX12_mines 17 = .ok (.iload_n 2, 1) := by decide +kernel
theorem dX12_mines_18 : decode cX12_mines 18 = .ok (.baload, 1) := by decide +kernel
theorem dX12_mines_19 : decode cX12_mines 19 = .ok (.ifCond .eq 7, 3) := by decide +kernel
theorem dX12_mines_22 : decode cX12_mines 22 = .ok (.iconst 1, 1) := by decide +kernel
theorem dX12_mines_23 : decode cX12_mines 23 = .ok (.goto 4, 3) := by decide +kernel
theorem dX12_mines_26 : decode cX12_mines 26 = .ok (.iconst 0, 1) := by decide +kernel
theorem dX12_mines_27 : decode cX12_mines 27 = .ok (.iadd, 1) := by decide +kernel
theorem dX12_mines_28 : decode cX12_mines 28 = .ok (.istore_n 1, 1) := by decide +kernel
theorem dX12_mines_29 : decode cX12_mines 29 = .ok (.iinc 2 1, 3) := by decide +kernel
theorem dX12_mines_32 : decode cX12_mines 32 = .ok (.goto (-28), 3) := by decide +kernel
theorem dX12_mines_35 : decode cX12_mines 35 = .ok (.iload_n 1, 1) := by decide +kernel
theorem dX12_mines_36 : decode cX12_mines 36 = .ok (.ireturn, 1) := by decide +kernel
theorem dX12_many_0 : decode cX12_many 0 = .ok (.iconst 0, 1) := by decide +kernel
theorem dX12_many_1 : decode cX12_many 1 = .ok (.istore_n 2, 1) := by decide +kernel
theorem dX12_many_2 : decode cX12_many 2 = .ok (.iconst 0, 1) := by decide +kernel
theorem dX12_many_3 : decode cX12_many 3 = .ok (.istore_n 3, 1) := by decide +kernel
theorem dX12_many_4 : decode cX12_many 4 = .ok (.iload_n 3, 1) := by decide +kernel
theorem dX12_many_5 : decode cX12_many 5 = .ok (.aload_n 0, 1) := by decide +kernel
theorem dX12_many_6 : decode cX12_many 6 = .ok (.getfield 100, 3) := by decide +kernel
theorem dX12_many_9 : decode cX12_many 9 = .ok (.if_icmp .ge 27, 3) := by decide +kernel
theorem dX12_many_12 : decode cX12_many 12 = .ok (.iload_n 2, 1) := by decide +kernel
theorem dX12_many_13 : decode cX12_many 13 = .ok (.aload_n 0, 1) := by decide +kernel
theorem dX12_many_14 : decode cX12_many 14 = .ok (.getfield 20, 3) := by decide +kernel
theorem dX12_many_17 : decode cX12_many 17 = .ok (.iload_n 3, 1) := by decide +kernel
theorem dX12_many_18 : decode cX12_many 18 = .ok (.iaload, 1) := by decide +kernel
theorem dX12_many_19 : decode cX12_many 19 = .ok (.iload_n 1, 1) := by decide +kernel
theorem dX12_many_20 : decode cX12_many 20 = .ok (.if_icmp .ne 7, 3) := by decide +kernel
theorem dX12_many_23 : decode cX12_many 23 = .ok (.iconst 1, 1) := by decide +kernel
theorem dX12_many_24 : decode cX12_many 24 = .ok (.goto 4, 3) := by decide +kernel
theorem dX12_many_27 : decode cX12_many 27 = .ok (.iconst 0, 1) := by decide +kernel
theorem dX12_many_28 : decode cX12_many 28 = .ok (.iadd, 1) := by decide +kernel
theorem dX12_many_29 : decode cX12_many 29 = .ok (.istore_n 2, 1) := by decide +kernel
theorem dX12_many_30 : decode cX12_many 30 = .ok (.iinc 3 1, 3) := by decide +kernel
theorem dX12_many_33 : decode cX12_many 33 = .ok (.goto (-29), 3) := by decide +kernel
theorem dX12_many_36 : decode cX12_many 36 = .ok (.iload_n 2, 1) := by decide +kernel
theorem dX12_many_37 : decode cX12_many 37 = .ok (.ireturn, 1) := by decide +kernel
theorem dX12_minesLeft_0 : decode cX12_minesLeft 0 = .ok (.aload_n 0, 1) := by decide +kernel
theorem dX12_minesLeft_1 : decode cX12_minesLeft 1 = .ok (.invokevirtual 132, 3) := by decide +kernel
theorem dX12_minesLeft_4 : decode cX12_minesLeft 4 = .ok (.aload_n 0, 1) := by decide +kernel
theorem dX12_minesLeft_5 : decode cX12_minesLeft 5 = .ok (.iconst 3, 1) := by decide +kernel
theorem dX12_minesLeft_6 : decode cX12_minesLeft 6 = .ok (.invokevirtual 136, 3) := by decide +kernel
theorem dX12_minesLeft_9 : decode cX12_minesLeft 9 = .ok (.isub, 1) := by decide +kernel
theorem dX12_minesLeft_10 : decode cX12_minesLeft 10 = .ok (.ireturn, 1) := by decide +kernel
theorem dX12_isSolved_0 : decode cX12_isSolved 0 = .ok (.iconst 1, 1) := by decide +kernel
theorem dX12_isSolved_1 : decode cX12_isSolved 1 = .ok (.istore_n 1, 1) := by decide +kernel
theorem dX12_isSolved_2 : decode cX12_isSolved 2 = .ok (.iconst 0, 1) := by decide +kernel
theorem dX12_isSolved_3 : decode cX12_isSolved 3 = .ok (.istore_n 2, 1) := by decide +kernel
theorem dX12_isSolved_4 : decode cX12_isSolved 4 = .ok (.iload_n 2, 1) := by decide +kernel
theorem dX12_isSolved_5 : decode cX12_isSolved 5 = .ok (.aload_n 0, 1) := by decide +kernel
theorem dX12_isSolved_6 : decode cX12_isSolved 6 = .ok (.getfield 100, 3) := by decide +kernel
theorem dX12_isSolved_9 : decode cX12_isSolved 9 = .ok (.if_icmp .ge 38, 3) := by decide +kernel
theorem dX12_isSolved_12 : decode cX12_isSolved 12 = .ok (.iload_n 1, 1) := by decide +kernel
theorem dX12_isSolved_13 : decode cX12_isSolved 13 = .ok (.ifCond .eq 26, 3) := by decide +kernel
theorem dX12_isSolved_16 : decode cX12_isSolved 16 = .ok (.aload_n 0, 1) := by decide +kernel
theorem dX12_isSolved_17 : decode cX12_isSolved 17 = .ok (.getfield 16, 3) := by decide +kernel
theorem dX12_isSolved_20 : decode cX12_isSolved 20 = .ok (.iload_n 2, 1) := by decide +kernel
theorem dX12_isSolved_21 : decode cX12_isSolved 21 = .ok (.baload, 1) := by decide +kernel
theorem dX12_isSolved_22 : decode cX12_isSolved 22 = .ok (.ifCond .ne 13, 3) := by decide +kernel
theorem dX12_isSolved_25 : decode cX12_isSolved 25 = .ok (.aload_n 0, 1) := by decide +kernel
theorem dX12_isSolved_26 : decode cX12_isSolved 26 = .ok (.getfield 20, 3) := by decide +kernel
theorem dX12_isSolved_29 : decode cX12_isSolved 29 = .ok (.iload_n 2, 1) := by decide +kernel
theorem dX12_isSolved_30 : decode cX12_isSolved 30 = .ok (.iaload, 1) := by decide +kernel
theorem dX12_isSolved_31 : decode cX12_isSolved 31 = .ok (.iconst 1, 1) := by decide +kernel
theorem dX12_isSolved_32 : decode cX12_isSolved 32 = .ok (.if_icmp .ne 7, 3) := by decide +kernel
theorem dX12_isSolved_35 : decode cX12_isSolved 35 = .ok (.iconst 1, 1) := by decide +kernel
theorem dX12_isSolved_36 : decode cX12_isSolved 36 = .ok (.goto 4, 3) := by decide +kernel
theorem dX12_isSolved_39 : decode cX12_isSolved 39 = .ok (.iconst 0, 1) := by decide +kernel
theorem dX12_isSolved_40 : decode cX12_isSolved 40 = .ok (.istore_n 1, 1) := by decide +kernel
theorem dX12_isSolved_41 : decode cX12_isSolved 41 = .ok (.iinc 2 1, 3) := by decide +kernel
theorem dX12_isSolved_44 : decode cX12_isSolved 44 = .ok (.goto (-40), 3) := by decide +kernel
theorem dX12_isSolved_47 : decode cX12_isSolved 47 = .ok (.iload_n 1, 1) := by decide +kernel
theorem dX12_isSolved_48 : decode cX12_isSolved 48 = .ok (.ireturn, 1) := by decide +kernel
theorem dX12_uncover_0 : decode cX12_uncover 0 = .ok (.aload_n 0, 1) := by decide +kernel
theorem dX12_uncover_1 : decode cX12_uncover 1 = .ok (.getfield 16, 3) := by decide +kernel
theorem dX12_uncover_4 : decode cX12_uncover 4 = .ok (.iload_n 1, 1) := by decide +kernel
theorem dX12_uncover_5 : decode cX12_uncover 5 = .ok (.baload, 1) := by decide +kernel
theorem dX12_uncover_6 : decode cX12_uncover 6 = .ok (.ifCond .eq 21, 3) := by decide +kernel
theorem dX12_uncover_9 : decode cX12_uncover 9 = .ok (.aload_n 0, 1) := by decide +kernel
theorem dX12_uncover_10 : decode cX12_uncover 10 = .ok (.getfield 20, 3) := by decide +kernel
theorem dX12_uncover_13 : decode cX12_uncover 13 = .ok (.iload_n 1, 1) := by decide +kernel
theorem dX12_uncover_14 : decode cX12_uncover 14 = .ok (.iconst 3, 1) := by decide +kernel
theorem dX12_uncover_15 : decode cX12_uncover 15 = .ok (.iastore, 1) := by decide +kernel
theorem dX12_uncover_16 : decode cX12_uncover 16 = .ok (.aload_n 0, 1) := by decide +kernel
theorem dX12_uncover_17 : decode cX12_uncover 17 = .ok (.dup, 1) := by decide +kernel
theorem dX12_uncover_18 : decode cX12_uncover 18 = .ok (.getfield 113, 3) := by decide +kernel
theorem dX12_uncover_21 : decode cX12_uncover 21 = .ok (.iconst 1, 1) := by decide +kernel
theorem dX12_uncover_22 : decode cX12_uncover 22 = .ok (.isub, 1) := by decide +kernel
theorem dX12_uncover_23 : decode cX12_uncover 23 = .ok (.putfield 113, 3) := by decide +kernel
theorem dX12_uncover_26 : decode cX12_uncover 26 = .ok (.return_, 1) := by decide +kernel
theorem dX12_uncover_27 : decode cX12_uncover 27 = .ok (.aload_n 0, 1) := by decide +kernel
theorem dX12_uncover_28 : decode cX12_uncover 28 = .ok (.getfield 20, 3) := by decide +kernel
theorem dX12_uncover_31 : decode cX12_uncover 31 = .ok (.iload_n 1, 1) := by decide +kernel
theorem dX12_uncover_32 : decode cX12_uncover 32 = .ok (.iconst 1, 1) := by decide +kernel
theorem dX12_uncover_33 : decode cX12_uncover 33 = .ok (.iastore, 1) := by decide +kernel
theorem dX12_uncover_34 : decode cX12_uncover 34 = .ok (.iconst 1, 1) := by decide +kernel
theorem dX12_uncover_35 : decode cX12_uncover 35 = .ok (.istore_n 2, 1) := by decide +kernel
theorem dX12_uncover_36 : decode cX12_uncover 36 = .ok (.iload_n 2, 1) := by decide +kernel
theorem dX12_uncover_37 : decode cX12_uncover 37 = .ok (.ifCond .eq 105, 3) := by decide +kernel
theorem dX12_uncover_40 : decode cX12_uncover 40 = .ok (.iconst 0, 1) := by decide +kernel
theorem dX12_uncover_41 : decode cX12_uncover 41 = .ok (.istore_n 2, 1) := by decide +kernel
theorem dX12_uncover_42 : decode cX12_uncover 42 = .ok (.iconst 0, 1) := by decide +kernel
theorem dX12_uncover_43 : decode cX12_uncover 43 = .ok (.istore_n 3, 1) := by decide +kernel
theorem dX12_uncover_44 : decode cX12_uncover 44 = .ok (.iload_n 3, 1) := by decide +kernel
theorem dX12_uncover_45 : decode cX12_uncover 45 = .ok (.aload_n 0, 1) := by decide +kernel
theorem dX12_uncover_46 : decode cX12_uncover 46 = .ok (.getfield 100, 3) := by decide +kernel
theorem dX12_uncover_49 : decode cX12_uncover 49 = .ok (.if_icmp .ge 90, 3) := by decide +kernel
theorem dX12_uncover_52 : decode cX12_uncover 52 = .ok (.iconst 0, 1) := by decide +kernel
theorem dX12_uncover_53 : decode cX12_uncover 53 = .ok (.istore 4, 2) := by decide +kernel
theorem dX12_uncover_55 : decode cX12_uncover 55 = .ok (.iload 4, 2) := by decide +kernel
theorem dX12_uncover_57 : decode cX12_uncover 57 = .ok (.aload_n 0, 1) := by decide +kernel
theorem dX12_uncover_58 : decode cX12_uncover 58 = .ok (.getfield 13, 3) := by decide +kernel
theorem dX12_uncover_61 : decode cX12_uncover 61 = .ok (.iload_n 3, 1) := by decide +kernel
theorem dX12_uncover_62 : decode cX12_uncover 62 = .ok (.iaload, 1) := by decide +kernel
theorem dX12_uncover_63 : decode cX12_uncover 63 = .ok (.if_icmp .ge 70, 3) := by decide +kernel
theorem dX12_uncover_66 : decode cX12_uncover 66 = .ok (.aload_n 0, 1) := by decide +kernel
theorem dX12_uncover_67 : decode cX12_uncover 67 = .ok (.getfield 20, 3) := by decide +kernel
theorem dX12_uncover_70 : decode cX12_uncover 70 = .ok (.iload_n 3, 1) := by decide +kernel
theorem dX12_uncover_71 : decode cX12_uncover 71 = .ok (.iaload, 1) := by decide +kernel
theorem dX12_uncover_72 : decode cX12_uncover 72 = .ok (.iconst 1, 1) := by decide +kernel
theorem dX12_uncover_73 : decode cX12_uncover 73 = .ok (.if_icmp .ne 60, 3) := by decide +kernel
theorem dX12_uncover_76 : decode cX12_uncover 76 = .ok (.aload_n 0, 1) := by decide +kernel
theorem dX12_uncover_77 : decode cX12_uncover 77 = .ok (.iload_n 3, 1) := by decide +kernel
theorem dX12_uncover_78 : decode cX12_uncover 78 = .ok (.invokevirtual 140, 3) := by decide +kernel
theorem dX12_uncover_81 : decode cX12_uncover 81 = .ok (.ifCond .ne 52, 3) := by decide +kernel
theorem dX12_uncover_84 : decode cX12_uncover 84 = .ok (.aload_n 0, 1) := by decide +kernel
theorem dX12_uncover_85 : decode cX12_uncover 85 = .ok (.getfield 7, 3) := by decide +kernel
theorem dX12_uncover_88 : decode cX12_uncover 88 = .ok (.bipush 8, 2) := by decide +kernel
theorem dX12_uncover_90 : decode cX12_uncover 90 = .ok (.iload_n 3, 1) := by decide +kernel
theorem dX12_uncover_91 : decode cX12_uncover 91 = .ok (.imul, 1) := by decide +kernel
theorem dX12_uncover_92 : decode cX12_uncover 92 = .ok (.iload 4, 2) := by decide +kernel
theorem dX12_uncover_94 : decode cX12_uncover 94 = .ok (.iadd, 1) := by decide +kernel
theorem dX12_uncover_95 : decode cX12_uncover 95 = .ok (.iaload, 1) := by decide +kernel
theorem dX12_uncover_96 : decode cX12_uncover 96 = .ok (.istore 5, 2) := by decide +kernel
theorem dX12_uncover_98 : decode cX12_uncover 98 = .ok (.aload_n 0, 1) := by decide +kernel
theorem dX12_uncover_99 : decode cX12_uncover 99 = .ok (.iload 5, 2) := by decide +kernel
theorem dX12_uncover_101 : decode cX12_uncover 101 = .ok (.invokevirtual 143, 3) := by decide +kernel
theorem dX12_uncover_104 : decode cX12_uncover 104 = .ok (.ifCond .eq 23, 3) := by decide +kernel
theorem dX12_uncover_107 : decode cX12_uncover 107 = .ok (.aload_n 0, 1) := by decide +kernel
theorem dX12_uncover_108 : decode cX12_uncover 108 = .ok (.getfield 16, 3) := by decide +kernel
theorem dX12_uncover_111 : decode cX12_uncover 111 = .ok (.iload 5, 2) := by decide +kernel
theorem dX12_uncover_113 : decode cX12_uncover 113 = .ok (.baload, 1) := by decide +kernel
theorem dX12_uncover_114 : decode cX12_uncover 114 = .ok (.ifCond .ne 13, 3) := by decide +kernel
theorem dX12_uncover_117 : decode cX12_uncover 117 = .ok (.aload_n 0, 1) := by decide +kernel
theorem dX12_uncover_118 : decode cX12_uncover 118 = .ok (.getfield 20, 3) := by decide +kernel
theorem dX12_uncover_121 : decode cX12_uncover 121 = .ok (.iload 5, 2) := by decide +kernel
theorem dX12_uncover_123 : decode cX12_uncover 123 = .ok (.iconst 1, 1) := by decide +kernel
theorem dX12_uncover_124 : decode cX12_uncover 124 = .ok (.iastore, 1) := by decide +kernel
theorem dX12_uncover_125 : decode cX12_uncover 125 = .ok (.iconst 1, 1) := by decide +kernel
theorem dX12_uncover_126 : decode cX12_uncover 126 = .ok (.istore_n 2, 1) := by decide +kernel
theorem dX12_uncover_127 : decode cX12_uncover 127 = .ok (.iinc 4 1, 3) := by decide +kernel
theorem dX12_uncover_130 : decode cX12_uncover 130 = .ok (.goto (-75), 3) := by decide +kernel
theorem dX12_uncover_133 : decode cX12_uncover 133 = .ok (.iinc 3 1, 3) := by decide +kernel
theorem dX12_uncover_136 : decode cX12_uncover 136 = .ok (.goto (-92), 3) := by decide +kernel
theorem dX12_uncover_139 : decode cX12_uncover 139 = .ok (.goto (-103), 3) := by decide +kernel
theorem dX12_uncover_142 : decode cX12_uncover 142 = .ok (.return_, 1) := by decide +kernel
theorem dX12_isKept_0 : decode cX12_isKept 0 = .ok (.iload_n 2, 1) := by decide +kernel
theorem dX12_isKept_1 : decode cX12_isKept 1 = .ok (.iload_n 1, 1) := by decide +kernel
theorem dX12_isKept_2 : decode cX12_isKept 2 = .ok (.if_icmp .ne 7, 3) := by decide +kernel
theorem dX12_isKept_5 : decode cX12_isKept 5 = .ok (.iconst 1, 1) := by decide +kernel
theorem dX12_isKept_6 : decode cX12_isKept 6 = .ok (.goto 4, 3) := by decide +kernel
theorem dX12_isKept_9 : decode cX12_isKept 9 = .ok (.iconst 0, 1) := by decide +kernel
theorem dX12_isKept_10 : decode cX12_isKept 10 = .ok (.istore_n 3, 1) := by decide +kernel
theorem dX12_isKept_11 : decode cX12_isKept 11 = .ok (.iconst 0, 1) := by decide +kernel
theorem dX12_isKept_12 : decode cX12_isKept 12 = .ok (.istore 4, 2) := by decide +kernel
theorem dX12_isKept_14 : decode cX12_isKept 14 = .ok (.iload 4, 2) := by decide +kernel
theorem dX12_isKept_16 : decode cX12_isKept 16 = .ok (.aload_n 0, 1) := by decide +kernel
theorem dX12_isKept_17 : decode cX12_isKept 17 = .ok (.getfield 13, 3) := by decide +kernel
theorem dX12_isKept_20 : decode cX12_isKept 20 = .ok (.iload_n 1, 1) := by decide +kernel
theorem dX12_isKept_21 : decode cX12_isKept 21 = .ok (.iaload, 1) := by decide +kernel
theorem dX12_isKept_22 : decode cX12_isKept 22 = .ok (.if_icmp .ge 35, 3) := by decide +kernel
theorem dX12_isKept_25 : decode cX12_isKept 25 = .ok (.iload_n 3, 1) := by decide +kernel
theorem dX12_isKept_26 : decode cX12_isKept 26 = .ok (.ifCond .ne 19, 3) := by decide +kernel
theorem dX12_isKept_29 : decode cX12_isKept 29 = .ok (.aload_n 0, 1) := by decide +kernel
theorem dX12_isKept_30 : decode cX12_isKept 30 = .ok (.getfield 7, 3) := by decide +kernel
theorem dX12_isKept_33 : decode cX12_isKept 33 = .ok (.bipush 8, 2) := by decide +kernel
theorem dX12_isKept_35 : decode cX12_isKept 35 = .ok (.iload_n 1, 1) := by decide +kernel
theorem dX12_isKept_36 : decode cX12_isKept 36 = .ok (.imul, 1) := by decide +kernel
theorem dX12_isKept_37 : decode cX12_isKept 37 = .ok (.iload 4, 2) := by decide +kernel
theorem dX12_isKept_39 : decode cX12_isKept 39 = .ok (.iadd, 1) := by decide +kernel
theorem dX12_isKept_40 : decode cX12_isKept 40 = .ok (.iaload, 1) := by decide +kernel
theorem dX12_isKept_41 : decode cX12_isKept 41 = .ok (.iload_n 2, 1) := by decide +kernel
theorem dX12_isKept_42 : decode cX12_isKept 42 = .ok (.if_icmp .ne 7, 3) := by decide +kernel
theorem dX12_isKept_45 : decode cX12_isKept 45 = .ok (.iconst 1, 1) := by decide +kernel
theorem dX12_isKept_46 : decode cX12_isKept 46 = .ok (.goto 4, 3) := by decide +kernel
theorem dX12_isKept_49 : decode cX12_isKept 49 = .ok (.iconst 0, 1) := by decide +kernel
theorem dX12_isKept_50 : decode cX12_isKept 50 = .ok (.istore_n 3, 1) := by decide +kernel
theorem dX12_isKept_51 : decode cX12_isKept 51 = .ok (.iinc 4 1, 3) := by decide +kernel
theorem dX12_isKept_54 : decode cX12_isKept 54 = .ok (.goto (-40), 3) := by decide +kernel
theorem dX12_isKept_57 : decode cX12_isKept 57 = .ok (.iload_n 3, 1) := by decide +kernel
theorem dX12_isKept_58 : decode cX12_isKept 58 = .ok (.ireturn, 1) := by decide +kernel
theorem dX12_freeAround_0 : decode cX12_freeAround 0 = .ok (.iconst 0, 1) := by decide +kernel
theorem dX12_freeAround_1 : decode cX12_freeAround 1 = .ok (.istore_n 2, 1) := by decide +kernel
theorem dX12_freeAround_2 : decode cX12_freeAround 2 = .ok (.iconst 0, 1) := by decide +kernel
theorem dX12_freeAround_3 : decode cX12_freeAround 3 = .ok (.istore_n 3, 1) := by decide +kernel
theorem dX12_freeAround_4 : decode cX12_freeAround 4 = .ok (.iload_n 3, 1) := by decide +kernel
theorem dX12_freeAround_5 : decode cX12_freeAround 5 = .ok (.aload_n 0, 1) := by decide +kernel
theorem dX12_freeAround_6 : decode cX12_freeAround 6 = .ok (.getfield 100, 3) := by decide +kernel
theorem dX12_freeAround_9 : decode cX12_freeAround 9 = .ok (.if_icmp .ge 35, 3) := by decide +kernel
theorem dX12_freeAround_12 : decode cX12_freeAround 12 = .ok (.iload_n 2, 1) := by decide +kernel
theorem dX12_freeAround_13 : decode cX12_freeAround 13 = .ok (.aload_n 0, 1) := by decide +kernel
theorem dX12_freeAround_14 : decode cX12_freeAround 14 = .ok (.getfield 16, 3) := by decide +kernel
theorem dX12_freeAround_17 : decode cX12_freeAround 17 = .ok (.iload_n 3, 1) := by decide +kernel
theorem dX12_freeAround_18 : decode cX12_freeAround 18 = .ok (.baload, 1) := by decide +kernel
theorem dX12_freeAround_19 : decode cX12_freeAround 19 = .ok (.ifCond .ne 16, 3) := by decide +kernel
theorem dX12_freeAround_22 : decode cX12_freeAround 22 = .ok (.aload_n 0, 1) := by decide +kernel
theorem dX12_freeAround_23 : decode cX12_freeAround 23 = .ok (.iload_n 1, 1) := by decide +kernel
theorem dX12_freeAround_24 : decode cX12_freeAround 24 = .ok (.iload_n 3, 1) := by decide +kernel
theorem dX12_freeAround_25 : decode cX12_freeAround 25 = .ok (.invokevirtual 147, 3) := by decide +kernel
theorem dX12_freeAround_28 : decode cX12_freeAround 28 = .ok (.ifCond .ne 7, 3) := by decide +kernel
theorem dX12_freeAround_31 : decode cX12_freeAround 31 = .ok (.iconst 1, 1) := by decide +kernel
theorem dX12_freeAround_32 : decode cX12_freeAround 32 = .ok (.goto 4, 3) := by decide +kernel
theorem dX12_freeAround_35 : decode cX12_freeAround 35 = .ok (.iconst 0, 1) := by decide +kernel
theorem dX12_freeAround_36 : decode cX12_freeAround 36 = .ok (.iadd, 1) := by decide +kernel
theorem dX12_freeAround_37 : decode cX12_freeAround 37 = .ok (.istore_n 2, 1) := by decide +kernel
theorem dX12_freeAround_38 : decode cX12_freeAround 38 = .ok (.iinc 3 1, 3) := by decide +kernel
theorem dX12_freeAround_41 : decode cX12_freeAround 41 = .ok (.goto (-37), 3) := by decide +kernel
theorem dX12_freeAround_44 : decode cX12_freeAround 44 = .ok (.iload_n 2, 1) := by decide +kernel
theorem dX12_freeAround_45 : decode cX12_freeAround 45 = .ok (.ireturn, 1) := by decide +kernel
theorem dX12_lay_0 : decode cX12_lay 0 = .ok (.iload_n 3, 1) := by decide +kernel
theorem dX12_lay_1 : decode cX12_lay 1 = .ok (.ldc 150, 2) := by decide +kernel
theorem dX12_lay_3 : decode cX12_lay 3 = .ok (.iand, 1) := by decide +kernel
theorem dX12_lay_4 : decode cX12_lay 4 = .ok (.istore 4, 2) := by decide +kernel
theorem dX12_lay_6 : decode cX12_lay 6 = .ok (.iconst 0, 1) := by decide +kernel
theorem dX12_lay_7 : decode cX12_lay 7 = .ok (.istore 5, 2) := by decide +kernel
theorem dX12_lay_9 : decode cX12_lay 9 = .ok (.iload 5, 2) := by decide +kernel
theorem dX12_lay_11 : decode cX12_lay 11 = .ok (.iload_n 2, 1) := by decide +kernel
theorem dX12_lay_12 : decode cX12_lay 12 = .ok (.if_icmp .ge 102, 3) := by decide +kernel
theorem dX12_lay_15 : decode cX12_lay 15 = .ok (.ldc 151, 2) := by decide +kernel
theorem dX12_lay_17 : decode cX12_lay 17 = .ok (.iload 4, 2) := by decide +kernel
theorem dX12_lay_19 : decode cX12_lay 19 = .ok (.imul, 1) := by decide +kernel
theorem dX12_lay_20 : decode cX12_lay 20 = .ok (.sipush 12345, 3) := by decide +kernel
theorem dX12_lay_23 : decode cX12_lay 23 = .ok (.iadd, 1) := by decide +kernel
theorem dX12_lay_24 : decode cX12_lay 24 = .ok (.ldc 150, 2) := by decide +kernel
theorem dX12_lay_26 : decode cX12_lay 26 = .ok (.iand, 1) := by decide +kernel
theorem dX12_lay_27 : decode cX12_lay 27 = .ok (.istore 4, 2) := by decide +kernel
theorem dX12_lay_29 : decode cX12_lay 29 = .ok (.iload 4, 2) := by decide +kernel
theorem dX12_lay_31 : decode cX12_lay 31 = .ok (.ldc 60, 2) := by decide +kernel
theorem dX12_lay_33 : decode cX12_lay 33 = .ok (.idiv, 1) := by decide +kernel
theorem dX12_lay_34 : decode cX12_lay 34 = .ok (.aload_n 0, 1) := by decide +kernel
theorem dX12_lay_35 : decode cX12_lay 35 = .ok (.iload_n 1, 1) := by decide +kernel
theorem dX12_lay_36 : decode cX12_lay 36 = .ok (.invokevirtual 152, 3) := by decide +kernel
theorem dX12_lay_39 : decode cX12_lay 39 = .ok (.irem, 1) := by decide +kernel
theorem dX12_lay_40 : decode cX12_lay 40 = .ok (.istore 6, 2) := by decide +kernel
theorem dX12_lay_42 : decode cX12_lay 42 = .ok (.iconst (-1), 1) := by decide +kernel
theorem dX12_lay_43 : decode cX12_lay 43 = .ok (.istore 7, 2) := by decide +kernel
theorem dX12_lay_45 : decode cX12_lay 45 = .ok (.iconst 0, 1) := by decide +kernel
theorem dX12_lay_46 : decode cX12_lay 46 = .ok (.istore 8, 2) := by decide +kernel
theorem dX12_lay_48 : decode cX12_lay 48 = .ok (.iload 8, 2) := by decide +kernel
theorem dX12_lay_50 : decode cX12_lay 50 = .ok (.aload_n 0, 1) := by decide +kernel
theorem dX12_lay_51 : decode cX12_lay 51 = .ok (.getfield 100, 3) := by decide +kernel
theorem dX12_lay_54 : decode cX12_lay 54 = .ok (.if_icmp .ge 46, 3) := by decide +kernel
theorem dX12_lay_57 : decode cX12_lay 57 = .ok (.iload 7, 2) := by decide +kernel
theorem dX12_lay_59 : decode cX12_lay 59 = .ok (.ifCond .ge 41, 3) := by decide +kernel
theorem dX12_lay_62 : decode cX12_lay 62 = .ok (.aload_n 0, 1) := by decide +kernel
theorem dX12_lay_63 : decode cX12_lay 63 = .ok (.getfield 16, 3) := by decide +kernel
theorem dX12_lay_66 : decode cX12_lay 66 = .ok (.iload 8, 2) := by decide +kernel
theorem dX12_lay_68 : decode cX12_lay 68 = .ok (.baload, 1) := by decide +kernel
theorem dX12_lay_69 : decode cX12_lay 69 = .ok (.ifCond .ne 25, 3) := by decide +kernel
theorem dX12_lay_72 : decode cX12_lay 72 = .ok (.aload_n 0, 1) := by decide +kernel
theorem dX12_lay_73 : decode cX12_lay 73 = .ok (.iload_n 1, 1) := by decide +kernel
theorem dX12_lay_74 : decode cX12_lay 74 = .ok (.iload 8, 2) := by decide +kernel
theorem dX12_lay_76 : decode cX12_lay 76 = .ok (.invokevirtual 147, 3) := by decide +kernel
theorem dX12_lay_79 : decode cX12_lay 79 = .ok (.ifCond .ne 15, 3) := by decide +kernel
theorem dX12_lay_82 : decode cX12_lay 82 = .ok (.iload 6, 2) := by decide +kernel
theorem dX12_lay_84 : decode cX12_lay 84 = .ok (.ifCond .ne 7, 3) := by decide +kernel
theorem dX12_lay_87 : decode cX12_lay 87 = .ok (.iload 8, 2) := by decide +kernel
theorem dX12_lay_89 : decode cX12_lay 89 = .ok (.istore 7, 2) := by decide +kernel
theorem dX12_lay_91 : decode cX12_lay 91 = .ok (.iinc 6 (-1), 3) := by decide +kernel
theorem dX12_lay_94 : decode cX12_lay 94 = .ok (.iinc 8 1, 3) := by decide +kernel
theorem dX12_lay_97 : decode cX12_lay 97 = .ok (.goto (-49), 3) := by decide +kernel
theorem dX12_lay_100 : decode cX12_lay 100 = .ok (.aload_n 0, 1) := by decide +kernel
theorem dX12_lay_101 : decode cX12_lay 101 = .ok (.getfield 16, 3) := by decide +kernel
theorem dX12_lay_104 : decode cX12_lay 104 = .ok (.iload 7, 2) := by decide +kernel
theorem dX12_lay_106 : decode cX12_lay 106 = .ok (.iconst 1, 1) := by decide +kernel
theorem dX12_lay_107 : decode cX12_lay 107 = .ok (.bastore, 1) := by decide +kernel
theorem dX12_lay_108 : decode cX12_lay 108 = .ok (.iinc 5 1, 3) := by decide +kernel
theorem dX12_lay_111 : decode cX12_lay 111 = .ok (.goto (-102), 3) := by decide +kernel
theorem dX12_lay_114 : decode cX12_lay 114 = .ok (.return_, 1) := by decide +kernel
theorem q_X12_thrown : yX12_thrown.cls = RX12 ∧ yX12_thrown.cls ≠ "java/lang/invoke/MethodHandle" ∧ yX12_thrown.cls ≠ "java/lang/invoke/VarHandle" ∧ (parseMethodDescriptor yX12_thrown.desc).map (fun d => d.parameters.length) = some 0 := ⟨rfl, by decide, by decide, by decide +kernel⟩
theorem q_X12_fail : yX12_fail.cls = RX12 ∧ yX12_fail.cls ≠ "java/lang/invoke/MethodHandle" ∧ yX12_fail.cls ≠ "java/lang/invoke/VarHandle" ∧ (parseMethodDescriptor yX12_fail.desc).map (fun d => d.parameters.length) = some 1 := ⟨rfl, by decide, by decide, by decide +kernel⟩
theorem q_X12_within : yX12_within.cls ≠ "java/lang/invoke/MethodHandle" ∧ yX12_within.cls ≠ "java/lang/invoke/VarHandle" ∧ (parseMethodDescriptor yX12_within.desc).map (fun d => d.parameters.length) = some 3 := ⟨by decide, by decide, by decide +kernel⟩
theorem q_X12_canBe : yX12_canBe.cls ≠ "java/lang/invoke/MethodHandle" ∧ yX12_canBe.cls ≠ "java/lang/invoke/VarHandle" ∧ (parseMethodDescriptor yX12_canBe.desc).map (fun d => d.parameters.length) = some 3 := ⟨by decide, by decide, by decide +kernel⟩
theorem q_X12_touch : yX12_touch.cls ≠ "java/lang/invoke/MethodHandle" ∧ yX12_touch.cls ≠ "java/lang/invoke/VarHandle" ∧ (parseMethodDescriptor yX12_touch.desc).map (fun d => d.parameters.length) = some 5 := ⟨by decide, by decide, by decide +kernel⟩
theorem q_X12_areNear : yX12_areNear.cls = RX12 ∧ yX12_areNear.cls ≠ "java/lang/invoke/MethodHandle" ∧ yX12_areNear.cls ≠ "java/lang/invoke/VarHandle" ∧ (parseMethodDescriptor yX12_areNear.desc).map (fun d => d.parameters.length) = some 2 := ⟨rfl, by decide, by decide, by decide +kernel⟩
theorem q_X12_noReason : yX12_noReason.cls = RX12 ∧ yX12_noReason.cls ≠ "java/lang/invoke/MethodHandle" ∧ yX12_noReason.cls ≠ "java/lang/invoke/VarHandle" ∧ (parseMethodDescriptor yX12_noReason.desc).map (fun d => d.parameters.length) = some 0 := ⟨rfl, by decide, by decide, by decide +kernel⟩
theorem q_X12_closeAll : yX12_closeAll.cls = RX12 ∧ yX12_closeAll.cls ≠ "java/lang/invoke/MethodHandle" ∧ yX12_closeAll.cls ≠ "java/lang/invoke/VarHandle" ∧ (parseMethodDescriptor yX12_closeAll.desc).map (fun d => d.parameters.length) = some 0 := ⟨rfl, by decide, by decide, by decide +kernel⟩
theorem q_X12_setUp : yX12_setUp.cls = RX12 ∧ yX12_setUp.cls ≠ "java/lang/invoke/MethodHandle" ∧ yX12_setUp.cls ≠ "java/lang/invoke/VarHandle" ∧ (parseMethodDescriptor yX12_setUp.desc).map (fun d => d.parameters.length) = some 3 := ⟨rfl, by decide, by decide, by decide +kernel⟩
theorem q_X12_numberOf : yX12_numberOf.cls = RX12 ∧ yX12_numberOf.cls ≠ "java/lang/invoke/MethodHandle" ∧ yX12_numberOf.cls ≠ "java/lang/invoke/VarHandle" ∧ (parseMethodDescriptor yX12_numberOf.desc).map (fun d => d.parameters.length) = some 1 := ⟨rfl, by decide, by decide, by decide +kernel⟩
theorem q_X12_isUnknown : yX12_isUnknown.cls = RX12 ∧ yX12_isUnknown.cls ≠ "java/lang/invoke/MethodHandle" ∧ yX12_isUnknown.cls ≠ "java/lang/invoke/VarHandle" ∧ (parseMethodDescriptor yX12_isUnknown.desc).map (fun d => d.parameters.length) = some 1 := ⟨rfl, by decide, by decide, by decide +kernel⟩
theorem q_X12_around : yX12_around.cls = RX12 ∧ yX12_around.cls ≠ "java/lang/invoke/MethodHandle" ∧ yX12_around.cls ≠ "java/lang/invoke/VarHandle" ∧ (parseMethodDescriptor yX12_around.desc).map (fun d => d.parameters.length) = some 2 := ⟨rfl, by decide, by decide, by decide +kernel⟩
theorem q_X12_mines : yX12_mines.cls = RX12 ∧ yX12_mines.cls ≠ "java/lang/invoke/MethodHandle" ∧ yX12_mines.cls ≠ "java/lang/invoke/VarHandle" ∧ (parseMethodDescriptor yX12_mines.desc).map (fun d => d.parameters.length) = some 0 := ⟨rfl, by decide, by decide, by decide +kernel⟩
theorem q_X12_many : yX12_many.cls = RX12 ∧ yX12_many.cls ≠ "java/lang/invoke/MethodHandle" ∧ yX12_many.cls ≠ "java/lang/invoke/VarHandle" ∧ (parseMethodDescriptor yX12_many.desc).map (fun d => d.parameters.length) = some 1 := ⟨rfl, by decide, by decide, by decide +kernel⟩
theorem q_X12_minesLeft : yX12_minesLeft.cls = RX12 ∧ yX12_minesLeft.cls ≠ "java/lang/invoke/MethodHandle" ∧ yX12_minesLeft.cls ≠ "java/lang/invoke/VarHandle" ∧ (parseMethodDescriptor yX12_minesLeft.desc).map (fun d => d.parameters.length) = some 0 := ⟨rfl, by decide, by decide, by decide +kernel⟩
theorem q_X12_isSolved : yX12_isSolved.cls = RX12 ∧ yX12_isSolved.cls ≠ "java/lang/invoke/MethodHandle" ∧ yX12_isSolved.cls ≠ "java/lang/invoke/VarHandle" ∧ (parseMethodDescriptor yX12_isSolved.desc).map (fun d => d.parameters.length) = some 0 := ⟨rfl, by decide, by decide, by decide +kernel⟩
theorem q_X12_uncover : yX12_uncover.cls = RX12 ∧ yX12_uncover.cls ≠ "java/lang/invoke/MethodHandle" ∧ yX12_uncover.cls ≠ "java/lang/invoke/VarHandle" ∧ (parseMethodDescriptor yX12_uncover.desc).map (fun d => d.parameters.length) = some 1 := ⟨rfl, by decide, by decide, by decide +kernel⟩
theorem q_X12_isKept : yX12_isKept.cls = RX12 ∧ yX12_isKept.cls ≠ "java/lang/invoke/MethodHandle" ∧ yX12_isKept.cls ≠ "java/lang/invoke/VarHandle" ∧ (parseMethodDescriptor yX12_isKept.desc).map (fun d => d.parameters.length) = some 2 := ⟨rfl, by decide, by decide, by decide +kernel⟩
theorem q_X12_freeAround : yX12_freeAround.cls = RX12 ∧ yX12_freeAround.cls ≠ "java/lang/invoke/MethodHandle" ∧ yX12_freeAround.cls ≠ "java/lang/invoke/VarHandle" ∧ (parseMethodDescriptor yX12_freeAround.desc).map (fun d => d.parameters.length) = some 1 := ⟨rfl, by decide, by decide, by decide +kernel⟩
theorem q_X12_lay : yX12_lay.cls = RX12 ∧ yX12_lay.cls ≠ "java/lang/invoke/MethodHandle" ∧ yX12_lay.cls ≠ "java/lang/invoke/VarHandle" ∧ (parseMethodDescriptor yX12_lay.desc).map (fun d => d.parameters.length) = some 3 := ⟨rfl, by decide, by decide, by decide +kernel⟩
def P_X12_thrown (post : Int → Prop) (M_thrown : Int) : Prop :=
  post M_thrown
set_option maxRecDepth 100000 in
set_option maxHeartbeats 4000000 in
theorem c_X12_thrown (l : Launch) (K : wK) (ad : Nat → Nat) {M_thrown : Int} {M_w : Int} {M_h : Int} {M_cells : Int} {M_shape : Int} {M_isBoard : Int} {M_isBlank : Int} {M_lives : Int} {M_moves : Int} {M_parts : Int} {M_numbers : Int} {M_grade : Int} {M_reasons : Int} {M_total : Int} {M_near : Int → Int} {M_degree : Int → Int} {M_mine : Int → Int} {M_state : Int → Int} {M_history : Int → Int64} {M_oldLives : Int → Int} {M_safe : Int → Int} {M_mined : Int → Int} {M_used : Int → Int} {M_partOf : Int → Int} {M_placeOf : Int → Int} {M_partSize : Int → Int} {M_ways : Int → Int} {M_with : Int → Int} {M_masks : Int → Int} {M_rests : Int → Int} {M_bits : Int → Int} {M_reach : Int → Int} {M_more : Int → Int} {M_reason : Int → Int} {M_big : Int → Int64} {M_region : Int → Int}   (post : Int → Prop) (h : P_X12_thrown post M_thrown) : mI l yX12_thrown (Cond.code yX12_thrown cX12_thrown 1 (some .int) :: GT) ({ frames := 2, cells := 0, slots := 0, locals := 120 } : Room) [.ref (ad 0)] K ad (mW M_thrown M_w M_h M_cells M_shape M_isBoard M_isBlank M_lives M_moves M_parts M_numbers M_grade M_reasons M_total M_near M_degree M_mine M_state M_history M_oldLives M_safe M_mined M_used M_partOf M_placeOf M_partSize M_ways M_with M_masks M_rests M_bits M_reach M_more M_reason M_big M_region) (fun z9 u9 => u9 = (mW M_thrown M_w M_h M_cells M_shape M_isBoard M_isBlank M_lives M_moves M_parts M_numbers M_grade M_reasons M_total M_near M_degree M_mine M_state M_history M_oldLives M_safe M_mined M_used M_partOf M_placeOf M_partSize M_ways M_with M_masks M_rests M_bits M_reach M_more M_reason M_big M_region) ∧ post z9) := by
  refine mI_of (lv0 := [(0, .ref (ad 0))]) (by decide) (Nat.le_of_ble_eq_true rfl) rfl ?_
  intro p e s m args below meth c Q A C ret
  replace C : Cx p ({ frames := 2, cells := 0, slots := 0, locals := 120 } : Room) m c 0 0 cX12_thrown 1 s args RX12 K A := C
  unfold P_X12_thrown at h
  refine wa_aload_n C 0 rfl dX12_thrown_0 rfl ?_
  refine wa_getI C 0 0 mW_0 rfl rfl (by decide) okX12 gw_1232 dX12_thrown_1 (fun r_1 => ?_)
  exact ret dX12_thrown_4 r_1 ⟨rfl, h⟩
def P_X12_fail (post : Int → (Int) → Prop) (M_thrown : Int) (x1 : Int) : Prop :=
  post 0 x1
set_option maxRecDepth 100000 in
set_option maxHeartbeats 4000000 in
theorem c_X12_fail (l : Launch) (K : wK) (ad : Nat → Nat) {M_thrown : Int} {M_w : Int} {M_h : Int} {M_cells : Int} {M_shape : Int} {M_isBoard : Int} {M_isBlank : Int} {M_lives : Int} {M_moves : Int} {M_parts : Int} {M_numbers : Int} {M_grade : Int} {M_reasons : Int} {M_total : Int} {M_near : Int → Int} {M_degree : Int → Int} {M_mine : Int → Int} {M_state : Int → Int} {M_history : Int → Int64} {M_oldLives : Int → Int} {M_safe : Int → Int} {M_mined : Int → Int} {M_used : Int → Int} {M_partOf : Int → Int} {M_placeOf : Int → Int} {M_partSize : Int → Int} {M_ways : Int → Int} {M_with : Int → Int} {M_masks : Int → Int} {M_rests : Int → Int} {M_bits : Int → Int} {M_reach : Int → Int} {M_more : Int → Int} {M_reason : Int → Int} {M_big : Int → Int64} {M_region : Int → Int} (x1 : Int) (rx1 : inR x1) (post : Int → (Int) → Prop) (h : P_X12_fail post M_thrown x1) : mI l yX12_fail (Cond.code yX12_fail cX12_fail 2 (some .int) :: GT) ({ frames := 2, cells := 0, slots := 0, locals := 120 } : Room) [.ref (ad 0), .int (iI x1)] K ad (mW M_thrown M_w M_h M_cells M_shape M_isBoard M_isBlank M_lives M_moves M_parts M_numbers M_grade M_reasons M_total M_near M_degree M_mine M_state M_history M_oldLives M_safe M_mined M_used M_partOf M_placeOf M_partSize M_ways M_with M_masks M_rests M_bits M_reach M_more M_reason M_big M_region) (fun z9 u9 => ∃ M_thrown9, u9 = (mW M_thrown9 M_w M_h M_cells M_shape M_isBoard M_isBlank M_lives M_moves M_parts M_numbers M_grade M_reasons M_total M_near M_degree M_mine M_state M_history M_oldLives M_safe M_mined M_used M_partOf M_placeOf M_partSize M_ways M_with M_masks M_rests M_bits M_reach M_more M_reason M_big M_region) ∧ post z9 M_thrown9) := by
  refine mI_of (lv0 := [(0, .ref (ad 0)), (1, .int (iI x1))]) (by decide) (Nat.le_of_ble_eq_true rfl) rfl ?_
  intro p e s m args below meth c Q A C ret
  replace C : Cx p ({ frames := 2, cells := 0, slots := 0, locals := 120 } : Room) m c 0 0 cX12_fail 2 s args RX12 K A := C
  unfold P_X12_fail at h
  refine wa_aload_n C 0 rfl dX12_fail_0 rfl ?_
  refine wa_iload_n C 1 rfl dX12_fail_1 rfl ?_
  refine wa_putI C (ws' := (mW x1 M_w M_h M_cells M_shape M_isBoard M_isBlank M_lives M_moves M_parts M_numbers M_grade M_reasons M_total M_near M_degree M_mine M_state M_history M_oldLives M_safe M_mined M_used M_partOf M_placeOf M_partSize M_ways M_with M_masks M_rests M_bits M_reach M_more M_reason M_big M_region)) 0 0 mW_0 rfl (by decide) okX12 gw_1232 rfl rfl (Nat.le_of_ble_eq_true rfl) rx1 (mWp_0_0 _) dX12_fail_2 ?_
  refine wa_iconst C (z := 0) dX12_fail_5 rfl ?_
  exact ret dX12_fail_6 (inR_k 0 rfl) ⟨_, rfl, h⟩
def P_X12_within (post : Int → Prop) (x0 : Int) (x1 : Int) (x2 : Int) : Prop :=
  ∃ J_1 : (Int) → Prop, (∃ J_5 : Prop, ((x0 < x1 → (J_5)) ∧ (¬ x0 < x1 → ((x2 < x0 → (J_5)) ∧ (¬ x2 < x0 → (J_1 1))))) ∧ (J_5 → (J_1 0))) ∧ (∀ (z_3 : Int), inR z_3 → J_1 z_3 → ((z_3 = 0 ∨ z_3 = 1) ∧ (post z_3)))
set_option maxRecDepth 100000 in
set_option maxHeartbeats 4000000 in
theorem c_X12_within (l : Launch) (K : wK) (ad : Nat → Nat) {M_thrown : Int} {M_w : Int} {M_h : Int} {M_cells : Int} {M_shape : Int} {M_isBoard : Int} {M_isBlank : Int} {M_lives : Int} {M_moves : Int} {M_parts : Int} {M_numbers : Int} {M_grade : Int} {M_reasons : Int} {M_total : Int} {M_near : Int → Int} {M_degree : Int → Int} {M_mine : Int → Int} {M_state : Int → Int} {M_history : Int → Int64} {M_oldLives : Int → Int} {M_safe : Int → Int} {M_mined : Int → Int} {M_used : Int → Int} {M_partOf : Int → Int} {M_placeOf : Int → Int} {M_partSize : Int → Int} {M_ways : Int → Int} {M_with : Int → Int} {M_masks : Int → Int} {M_rests : Int → Int} {M_bits : Int → Int} {M_reach : Int → Int} {M_more : Int → Int} {M_reason : Int → Int} {M_big : Int → Int64} {M_region : Int → Int} (x0 : Int) (x1 : Int) (x2 : Int) (rx0 : inR x0) (rx1 : inR x1) (rx2 : inR x2) (post : Int → Prop) (h : P_X12_within post x0 x1 x2) : mI l yX12_within (Cond.code yX12_within cX12_within 3 (some .boolean) :: GT) ({ frames := 2, cells := 0, slots := 0, locals := 120 } : Room) [.int (iI x0), .int (iI x1), .int (iI x2)] K ad (mW M_thrown M_w M_h M_cells M_shape M_isBoard M_isBlank M_lives M_moves M_parts M_numbers M_grade M_reasons M_total M_near M_degree M_mine M_state M_history M_oldLives M_safe M_mined M_used M_partOf M_placeOf M_partSize M_ways M_with M_masks M_rests M_bits M_reach M_more M_reason M_big M_region) (fun z9 u9 => (z9 = 0 ∨ z9 = 1) ∧ u9 = (mW M_thrown M_w M_h M_cells M_shape M_isBoard M_isBlank M_lives M_moves M_parts M_numbers M_grade M_reasons M_total M_near M_degree M_mine M_state M_history M_oldLives M_safe M_mined M_used M_partOf M_placeOf M_partSize M_ways M_with M_masks M_rests M_bits M_reach M_more M_reason M_big M_region) ∧ post z9) := by
  refine mZ_of (lv0 := [(0, .int (iI x0)), (1, .int (iI x1)), (2, .int (iI x2))]) (by decide) (Nat.le_of_ble_eq_true rfl) rfl ?_
  intro p e s m args below meth c Q A C ret
  replace C : Cx p ({ frames := 2, cells := 0, slots := 0, locals := 120 } : Room) m c 0 0 cX12_within 3 s args RX12 K A := C
  unfold P_X12_within at h
  refine wa_iload_n C 0 rfl dX12_within_0 rfl ?_
  refine wa_iload_n C 1 rfl dX12_within_1 rfl ?_
  obtain ⟨J_1, h, hJ_1⟩ := h
  have k_2 : ∀ (z_3 : Int), inR z_3 → J_1 z_3 → WA p l e ({ frames := 2, cells := 0, slots := 0, locals := 120 } : Room) s m args below meth c 0 0 Q K ad 3 A 15 [] [.int (iI z_3)] (mW M_thrown M_w M_h M_cells M_shape M_isBoard M_isBlank M_lives M_moves M_parts M_numbers M_grade M_reasons M_total M_near M_degree M_mine M_state M_history M_oldLives M_safe M_mined M_used M_partOf M_placeOf M_partSize M_ways M_with M_masks M_rests M_bits M_reach M_more M_reason M_big M_region) := by
    intro z_3 rz_3 h
    replace h := hJ_1 z_3 rz_3 h
    obtain ⟨b_4, h⟩ := h
    exact ret dX12_within_15 b_4 ⟨b_4, rfl, h⟩
  obtain ⟨J_5, h, hJ_5⟩ := h
  have k_6 : J_5 → WA p l e ({ frames := 2, cells := 0, slots := 0, locals := 120 } : Room) s m args below meth c 0 0 Q K ad 3 A 14 [] [] (mW M_thrown M_w M_h M_cells M_shape M_isBoard M_isBlank M_lives M_moves M_parts M_numbers M_grade M_reasons M_total M_near M_degree M_mine M_state M_history M_oldLives M_safe M_mined M_used M_partOf M_placeOf M_partSize M_ways M_with M_masks M_rests M_bits M_reach M_more M_reason M_big M_region) := by
    intro h
    replace h := hJ_5 h
    refine wa_iconst C (z := 0) dX12_within_14 rfl ?_
    refine wa_sub C [] rfl ?_
    exact k_2 0 (inR_k 0 rfl) h
  refine wa_icmp_lt C (tgt := 14) rx0 rx1 dX12_within_2 (by decide) (fun c_7 => ?_) (fun c_7 => ?_)
  · replace h := h.1 c_7
    refine wa_sub C [] rfl ?_
    exact k_6 h
  · replace h := h.2 c_7
    refine wa_iload_n C 0 rfl dX12_within_5 rfl ?_
    refine wa_iload_n C 2 rfl dX12_within_6 rfl ?_
    refine wa_icmp_gt C (tgt := 14) rx0 rx2 dX12_within_7 (by decide) (fun c_8 => ?_) (fun c_8 => ?_)
    · replace h := h.1 c_8
      refine wa_sub C [] rfl ?_
      exact k_6 h
    · replace h := h.2 c_8
      refine wa_iconst C (z := 1) dX12_within_10 rfl ?_
      refine wa_goto C (tgt := 15) dX12_within_11 (by decide) ?_
      refine wa_sub C [] rfl ?_
      exact k_2 1 (inR_k 1 rfl) h
def P_X12_canBe (post : Int → Prop) (x0 : Int) (x1 : Int) (x2 : Int) : Prop :=
  P_X12_within (fun (c_1 : Int) => (c_1 = 0 ∨ c_1 = 1) → (∃ J_2 : (Int) → Prop, (∃ J_6 : Prop, ((c_1 = 0 → (J_6)) ∧ (¬ c_1 = 0 → (P_X12_within (fun (c_9 : Int) => (c_9 = 0 ∨ c_9 = 1) → ((c_9 = 0 → (J_6)) ∧ (¬ c_9 = 0 → (P_X12_within (fun (c_11 : Int) => (c_11 = 0 ∨ c_11 = 1) → ((c_11 = 0 → (J_6)) ∧ (¬ c_11 = 0 → (∃ J_13 : Prop, ((x2 < 3 → (J_13)) ∧ (¬ x2 < 3 → (inR (x1.tmod 2) ∧ ((¬ (x1.tmod 2) = 0 → (J_6)) ∧ ((x1.tmod 2) = 0 → (J_13)))))) ∧ (J_13 → (J_2 1))))))  x2 0 3))))  x1 3 12))) ∧ (J_6 → (J_2 0))) ∧ (∀ (z_4 : Int), inR z_4 → J_2 z_4 → ((z_4 = 0 ∨ z_4 = 1) ∧ (post z_4)))))  x0 3 12
set_option maxRecDepth 100000 in
set_option maxHeartbeats 4000000 in
theorem c_X12_canBe (l : Launch) (K : wK) (ad : Nat → Nat) {M_thrown : Int} {M_w : Int} {M_h : Int} {M_cells : Int} {M_shape : Int} {M_isBoard : Int} {M_isBlank : Int} {M_lives : Int} {M_moves : Int} {M_parts : Int} {M_numbers : Int} {M_grade : Int} {M_reasons : Int} {M_total : Int} {M_near : Int → Int} {M_degree : Int → Int} {M_mine : Int → Int} {M_state : Int → Int} {M_history : Int → Int64} {M_oldLives : Int → Int} {M_safe : Int → Int} {M_mined : Int → Int} {M_used : Int → Int} {M_partOf : Int → Int} {M_placeOf : Int → Int} {M_partSize : Int → Int} {M_ways : Int → Int} {M_with : Int → Int} {M_masks : Int → Int} {M_rests : Int → Int} {M_bits : Int → Int} {M_reach : Int → Int} {M_more : Int → Int} {M_reason : Int → Int} {M_big : Int → Int64} {M_region : Int → Int} (x0 : Int) (x1 : Int) (x2 : Int) (rx0 : inR x0) (rx1 : inR x1) (rx2 : inR x2) (post : Int → Prop) (h : P_X12_canBe post x0 x1 x2) : mI l yX12_canBe (Cond.code yX12_canBe cX12_canBe 3 (some .boolean) :: GT) ({ frames := 3, cells := 0, slots := 0, locals := 180 } : Room) [.int (iI x0), .int (iI x1), .int (iI x2)] K ad (mW M_thrown M_w M_h M_cells M_shape M_isBoard M_isBlank M_lives M_moves M_parts M_numbers M_grade M_reasons M_total M_near M_degree M_mine M_state M_history M_oldLives M_safe M_mined M_used M_partOf M_placeOf M_partSize M_ways M_with M_masks M_rests M_bits M_reach M_more M_reason M_big M_region) (fun z9 u9 => (z9 = 0 ∨ z9 = 1) ∧ u9 = (mW M_thrown M_w M_h M_cells M_shape M_isBoard M_isBlank M_lives M_moves M_parts M_numbers M_grade M_reasons M_total M_near M_degree M_mine M_state M_history M_oldLives M_safe M_mined M_used M_partOf M_placeOf M_partSize M_ways M_with M_masks M_rests M_bits M_reach M_more M_reason M_big M_region) ∧ post z9) := by
  refine mZ_of (lv0 := [(0, .int (iI x0)), (1, .int (iI x1)), (2, .int (iI x2))]) (by decide) (Nat.le_of_ble_eq_true rfl) rfl ?_
  intro p e s m args below meth c Q A C ret
  replace C : Cx p ({ frames := 3, cells := 0, slots := 0, locals := 180 } : Room) m c 0 0 cX12_canBe 3 s args RX12 K A := C
  unfold P_X12_canBe at h
  refine wa_iload_n C 0 rfl dX12_canBe_0 rfl ?_
  refine wa_iconst C (z := 3) dX12_canBe_1 rfl ?_
  refine wa_bipush C (z := 12) dX12_canBe_2 (by decide) ?_
  refine wa_callSi C (As := [.int (iI x0), .int (iI 3), .int (iI 12)]) (rest := []) (c_X12_within l K ad x0 3 12 rx0 (inR_k 3 rfl) (inR_k 12 rfl) _ h) gw_1354 gw_1352 gw_1353 gw_12 q_X12_within rfl rfl rfl ⟨by decide, by decide⟩ rfl (Nat.le_of_ble_eq_true rfl) dX12_canBe_4 (fun c_1 u9 rc_1 hp => ?_)
  obtain ⟨bc_1, rfl, h⟩ := hp
  replace h := h bc_1
  obtain ⟨J_2, h, hJ_2⟩ := h
  have k_3 : ∀ (z_4 : Int), inR z_4 → J_2 z_4 → WA p l e ({ frames := 3, cells := 0, slots := 0, locals := 180 } : Room) s m args below meth c 0 0 Q K ad 3 A 45 [] [.int (iI z_4)] (mW M_thrown M_w M_h M_cells M_shape M_isBoard M_isBlank M_lives M_moves M_parts M_numbers M_grade M_reasons M_total M_near M_degree M_mine M_state M_history M_oldLives M_safe M_mined M_used M_partOf M_placeOf M_partSize M_ways M_with M_masks M_rests M_bits M_reach M_more M_reason M_big M_region) := by
    intro z_4 rz_4 h
    replace h := hJ_2 z_4 rz_4 h
    obtain ⟨b_5, h⟩ := h
    exact ret dX12_canBe_45 b_5 ⟨b_5, rfl, h⟩
  obtain ⟨J_6, h, hJ_6⟩ := h
  have k_7 : J_6 → WA p l e ({ frames := 3, cells := 0, slots := 0, locals := 180 } : Room) s m args below meth c 0 0 Q K ad 3 A 44 [] [] (mW M_thrown M_w M_h M_cells M_shape M_isBoard M_isBlank M_lives M_moves M_parts M_numbers M_grade M_reasons M_total M_near M_degree M_mine M_state M_history M_oldLives M_safe M_mined M_used M_partOf M_placeOf M_partSize M_ways M_with M_masks M_rests M_bits M_reach M_more M_reason M_big M_region) := by
    intro h
    replace h := hJ_6 h
    refine wa_iconst C (z := 0) dX12_canBe_44 rfl ?_
    refine wa_sub C [] rfl ?_
    exact k_3 0 (inR_k 0 rfl) h
  refine wa_if_eq C (tgt := 44) (inR_b bc_1) dX12_canBe_7 (by decide) (fun c_8 => ?_) (fun c_8 => ?_)
  · replace h := h.1 c_8
    refine wa_sub C [] rfl ?_
    exact k_7 h
  · replace h := h.2 c_8
    refine wa_iload_n C 1 rfl dX12_canBe_10 rfl ?_
    refine wa_iconst C (z := 3) dX12_canBe_11 rfl ?_
    refine wa_bipush C (z := 12) dX12_canBe_12 (by decide) ?_
    refine wa_callSi C (As := [.int (iI x1), .int (iI 3), .int (iI 12)]) (rest := []) (c_X12_within l K ad x1 3 12 rx1 (inR_k 3 rfl) (inR_k 12 rfl) _ h) gw_1354 gw_1352 gw_1353 gw_12 q_X12_within rfl rfl rfl ⟨by decide, by decide⟩ rfl (Nat.le_of_ble_eq_true rfl) dX12_canBe_14 (fun c_9 u9 rc_9 hp => ?_)
    obtain ⟨bc_9, rfl, h⟩ := hp
    replace h := h bc_9
    refine wa_if_eq C (tgt := 44) (inR_b bc_9) dX12_canBe_17 (by decide) (fun c_10 => ?_) (fun c_10 => ?_)
    · replace h := h.1 c_10
      refine wa_sub C [] rfl ?_
      exact k_7 h
    · replace h := h.2 c_10
      refine wa_iload_n C 2 rfl dX12_canBe_20 rfl ?_
      refine wa_iconst C (z := 0) dX12_canBe_21 rfl ?_
      refine wa_iconst C (z := 3) dX12_canBe_22 rfl ?_
      refine wa_callSi C (As := [.int (iI x2), .int (iI 0), .int (iI 3)]) (rest := []) (c_X12_within l K ad x2 0 3 rx2 (inR_k 0 rfl) (inR_k 3 rfl) _ h) gw_1354 gw_1352 gw_1353 gw_12 q_X12_within rfl rfl rfl ⟨by decide, by decide⟩ rfl (Nat.le_of_ble_eq_true rfl) dX12_canBe_23 (fun c_11 u9 rc_11 hp => ?_)
      obtain ⟨bc_11, rfl, h⟩ := hp
      replace h := h bc_11
      refine wa_if_eq C (tgt := 44) (inR_b bc_11) dX12_canBe_26 (by decide) (fun c_12 => ?_) (fun c_12 => ?_)
      · replace h := h.1 c_12
        refine wa_sub C [] rfl ?_
        exact k_7 h
      · replace h := h.2 c_12
        refine wa_iload_n C 2 rfl dX12_canBe_29 rfl ?_
        refine wa_iconst C (z := 3) dX12_canBe_30 rfl ?_
        obtain ⟨J_13, h, hJ_13⟩ := h
        have k_14 : J_13 → WA p l e ({ frames := 3, cells := 0, slots := 0, locals := 180 } : Room) s m args below meth c 0 0 Q K ad 3 A 40 [] [] (mW M_thrown M_w M_h M_cells M_shape M_isBoard M_isBlank M_lives M_moves M_parts M_numbers M_grade M_reasons M_total M_near M_degree M_mine M_state M_history M_oldLives M_safe M_mined M_used M_partOf M_placeOf M_partSize M_ways M_with M_masks M_rests M_bits M_reach M_more M_reason M_big M_region) := by
          intro h
          replace h := hJ_13 h
          refine wa_iconst C (z := 1) dX12_canBe_40 rfl ?_
          refine wa_goto C (tgt := 45) dX12_canBe_41 (by decide) ?_
          refine wa_sub C [] rfl ?_
          exact k_3 1 (inR_k 1 rfl) h
        refine wa_icmp_lt C (tgt := 40) rx2 (inR_k 3 rfl) dX12_canBe_31 (by decide) (fun c_15 => ?_) (fun c_15 => ?_)
        · replace h := h.1 c_15
          refine wa_sub C [] rfl ?_
          exact k_14 h
        · replace h := h.2 c_15
          refine wa_iload_n C 1 rfl dX12_canBe_34 rfl ?_
          refine wa_iconst C (z := 2) dX12_canBe_35 rfl ?_
          refine wa_irem C dX12_canBe_36 rx1 (inR_k 2 rfl) (by decide) ?_
          obtain ⟨r_16, h⟩ := h
          refine wa_if_ne C (tgt := 44) r_16 dX12_canBe_37 (by decide) (fun c_17 => ?_) (fun c_17 => ?_)
          · replace h := h.1 c_17
            refine wa_sub C [] rfl ?_
            exact k_7 h
          · replace h := h.2 c_17
            refine wa_sub C [] rfl ?_
            exact k_14 h
def P_X12_touch (post : Int → Prop) (x0 : Int) (x1 : Int) (x2 : Int) (x3 : Int) (x4 : Int) : Prop :=
  ∃ J_1 : Prop, ((¬ x1 = x3 → (J_1)) ∧ (x1 = x3 → ((x2 = x4 → (post 0)) ∧ (¬ x2 = x4 → (J_1))))) ∧ (J_1 → (inR (x1 - 1) ∧ ((x3 < (x1 - 1) → (post 0)) ∧ (¬ x3 < (x1 - 1) → (inR (x1 + 1) ∧ ((x3 ≤ (x1 + 1) → ((2 ≤ x0 → ((¬ x1 = x3 → (∃ J_9 : (Int) → Prop, (∃ J_13 : Prop, ((x4 = x2 → (J_13)) ∧ (¬ x4 = x2 → (inR (x1.tmod 2) ∧ (∃ J_17 : (Int) → Prop, ((¬ (x1.tmod 2) = 0 → (inR (x2 + 1) ∧ (J_17 (x2 + 1)))) ∧ ((x1.tmod 2) = 0 → (inR (x2 - 1) ∧ (J_17 (x2 - 1))))) ∧ (∀ (z_19 : Int), inR z_19 → J_17 z_19 → ((¬ x4 = z_19 → (J_9 0)) ∧ (x4 = z_19 → (J_13)))))))) ∧ (J_13 → (J_9 1))) ∧ (∀ (z_11 : Int), inR z_11 → J_9 z_11 → ((z_11 = 0 ∨ z_11 = 1) ∧ (post z_11))))) ∧ (x1 = x3 → (inR (x2 - 1) ∧ (∃ J_25 : (Int) → Prop, (∃ J_29 : Prop, ((x4 = (x2 - 1) → (J_29)) ∧ (¬ x4 = (x2 - 1) → (inR (x2 + 1) ∧ ((¬ x4 = (x2 + 1) → (J_25 0)) ∧ (x4 = (x2 + 1) → (J_29)))))) ∧ (J_29 → (J_25 1))) ∧ (∀ (z_27 : Int), inR z_27 → J_25 z_27 → ((z_27 = 0 ∨ z_27 = 1) ∧ (post z_27)))))))) ∧ (¬ 2 ≤ x0 → (inR (x2 - 1) ∧ (inR (x2 + 1) ∧ (P_X12_within (fun (c_36 : Int) => (c_36 = 0 ∨ c_36 = 1) → (post c_36))  x4 (x2 - 1) (x2 + 1))))))) ∧ (¬ x3 ≤ (x1 + 1) → (post 0))))))))
set_option maxRecDepth 100000 in
set_option maxHeartbeats 4000000 in
theorem c_X12_touch (l : Launch) (K : wK) (ad : Nat → Nat) {M_thrown : Int} {M_w : Int} {M_h : Int} {M_cells : Int} {M_shape : Int} {M_isBoard : Int} {M_isBlank : Int} {M_lives : Int} {M_moves : Int} {M_parts : Int} {M_numbers : Int} {M_grade : Int} {M_reasons : Int} {M_total : Int} {M_near : Int → Int} {M_degree : Int → Int} {M_mine : Int → Int} {M_state : Int → Int} {M_history : Int → Int64} {M_oldLives : Int → Int} {M_safe : Int → Int} {M_mined : Int → Int} {M_used : Int → Int} {M_partOf : Int → Int} {M_placeOf : Int → Int} {M_partSize : Int → Int} {M_ways : Int → Int} {M_with : Int → Int} {M_masks : Int → Int} {M_rests : Int → Int} {M_bits : Int → Int} {M_reach : Int → Int} {M_more : Int → Int} {M_reason : Int → Int} {M_big : Int → Int64} {M_region : Int → Int} (x0 : Int) (x1 : Int) (x2 : Int) (x3 : Int) (x4 : Int) (rx0 : inR x0) (rx1 : inR x1) (rx2 : inR x2) (rx3 : inR x3) (rx4 : inR x4) (post : Int → Prop) (h : P_X12_touch post x0 x1 x2 x3 x4) : mI l yX12_touch (Cond.code yX12_touch cX12_touch 5 (some .boolean) :: GT) ({ frames := 3, cells := 0, slots := 0, locals := 180 } : Room) [.int (iI x0), .int (iI x1), .int (iI x2), .int (iI x3), .int (iI x4)] K ad (mW M_thrown M_w M_h M_cells M_shape M_isBoard M_isBlank M_lives M_moves M_parts M_numbers M_grade M_reasons M_total M_near M_degree M_mine M_state M_history M_oldLives M_safe M_mined M_used M_partOf M_placeOf M_partSize M_ways M_with M_masks M_rests M_bits M_reach M_more M_reason M_big M_region) (fun z9 u9 => (z9 = 0 ∨ z9 = 1) ∧ u9 = (mW M_thrown M_w M_h M_cells M_shape M_isBoard M_isBlank M_lives M_moves M_parts M_numbers M_grade M_reasons M_total M_near M_degree M_mine M_state M_history M_oldLives M_safe M_mined M_used M_partOf M_placeOf M_partSize M_ways M_with M_masks M_rests M_bits M_reach M_more M_reason M_big M_region) ∧ post z9) := by
  refine mZ_of (lv0 := [(0, .int (iI x0)), (1, .int (iI x1)), (2, .int (iI x2)), (3, .int (iI x3)), (4, .int (iI x4))]) (by decide) (Nat.le_of_ble_eq_true rfl) rfl ?_
  intro p e s m args below meth c Q A C ret
  replace C : Cx p ({ frames := 3, cells := 0, slots := 0, locals := 180 } : Room) m c 0 0 cX12_touch 5 s args RX12 K A := C
  unfold P_X12_touch at h
  refine wa_iload_n C 1 rfl dX12_touch_0 rfl ?_
  refine wa_iload_n C 3 rfl dX12_touch_1 rfl ?_
  obtain ⟨J_1, h, hJ_1⟩ := h
  have k_2 : J_1 → WA p l e ({ frames := 3, cells := 0, slots := 0, locals := 180 } : Room) s m args below meth c 0 0 Q K ad 5 A 11 [(0, .int (iI x0)), (1, .int (iI x1)), (2, .int (iI x2)), (3, .int (iI x3)), (4, .int (iI x4))] [] (mW M_thrown M_w M_h M_cells M_shape M_isBoard M_isBlank M_lives M_moves M_parts M_numbers M_grade M_reasons M_total M_near M_degree M_mine M_state M_history M_oldLives M_safe M_mined M_used M_partOf M_placeOf M_partSize M_ways M_with M_masks M_rests M_bits M_reach M_more M_reason M_big M_region) := by
    intro h
    replace h := hJ_1 h
    refine wa_iload_n C 3 rfl dX12_touch_11 rfl ?_
    refine wa_iload_n C 1 rfl dX12_touch_12 rfl ?_
    refine wa_iconst C (z := 1) dX12_touch_13 rfl ?_
    refine wa_isub C dX12_touch_14 ?_
    obtain ⟨r_3, h⟩ := h
    refine wa_icmp_lt C (tgt := 25) rx3 r_3 dX12_touch_15 (by decide) (fun c_4 => ?_) (fun c_4 => ?_)
    · replace h := h.1 c_4
      refine wa_iconst C (z := 0) dX12_touch_25 rfl ?_
      exact ret dX12_touch_26 (Or.inl rfl) ⟨(Or.inl rfl), rfl, h⟩
    · replace h := h.2 c_4
      refine wa_iload_n C 3 rfl dX12_touch_18 rfl ?_
      refine wa_iload_n C 1 rfl dX12_touch_19 rfl ?_
      refine wa_iconst C (z := 1) dX12_touch_20 rfl ?_
      refine wa_iadd C dX12_touch_21 ?_
      obtain ⟨r_5, h⟩ := h
      refine wa_icmp_le C (tgt := 27) rx3 r_5 dX12_touch_22 (by decide) (fun c_6 => ?_) (fun c_6 => ?_)
      · replace h := h.1 c_6
        refine wa_iload_n C 0 rfl dX12_touch_27 rfl ?_
        refine wa_iconst C (z := 2) dX12_touch_28 rfl ?_
        refine wa_icmp_ge C (tgt := 44) rx0 (inR_k 2 rfl) dX12_touch_29 (by decide) (fun c_7 => ?_) (fun c_7 => ?_)
        · replace h := h.1 c_7
          refine wa_iload_n C 1 rfl dX12_touch_44 rfl ?_
          refine wa_iload_n C 3 rfl dX12_touch_45 rfl ?_
          refine wa_icmp_ne C (tgt := 71) rx1 rx3 dX12_touch_46 (by decide) (fun c_8 => ?_) (fun c_8 => ?_)
          · replace h := h.1 c_8
            refine wa_iload C 4 rfl dX12_touch_71 ?_
            refine wa_iload_n C 2 rfl dX12_touch_73 rfl ?_
            obtain ⟨J_9, h, hJ_9⟩ := h
            have k_10 : ∀ (z_11 : Int), inR z_11 → J_9 z_11 → WA p l e ({ frames := 3, cells := 0, slots := 0, locals := 180 } : Room) s m args below meth c 0 0 Q K ad 5 A 102 [] [.int (iI z_11)] (mW M_thrown M_w M_h M_cells M_shape M_isBoard M_isBlank M_lives M_moves M_parts M_numbers M_grade M_reasons M_total M_near M_degree M_mine M_state M_history M_oldLives M_safe M_mined M_used M_partOf M_placeOf M_partSize M_ways M_with M_masks M_rests M_bits M_reach M_more M_reason M_big M_region) := by
              intro z_11 rz_11 h
              replace h := hJ_9 z_11 rz_11 h
              obtain ⟨b_12, h⟩ := h
              exact ret dX12_touch_102 b_12 ⟨b_12, rfl, h⟩
            obtain ⟨J_13, h, hJ_13⟩ := h
            have k_14 : J_13 → WA p l e ({ frames := 3, cells := 0, slots := 0, locals := 180 } : Room) s m args below meth c 0 0 Q K ad 5 A 97 [] [] (mW M_thrown M_w M_h M_cells M_shape M_isBoard M_isBlank M_lives M_moves M_parts M_numbers M_grade M_reasons M_total M_near M_degree M_mine M_state M_history M_oldLives M_safe M_mined M_used M_partOf M_placeOf M_partSize M_ways M_with M_masks M_rests M_bits M_reach M_more M_reason M_big M_region) := by
              intro h
              replace h := hJ_13 h
              refine wa_iconst C (z := 1) dX12_touch_97 rfl ?_
              refine wa_goto C (tgt := 102) dX12_touch_98 (by decide) ?_
              refine wa_sub C [] rfl ?_
              exact k_10 1 (inR_k 1 rfl) h
            refine wa_icmp_eq C (tgt := 97) rx4 rx2 dX12_touch_74 (by decide) (fun c_15 => ?_) (fun c_15 => ?_)
            · replace h := h.1 c_15
              refine wa_sub C [] rfl ?_
              exact k_14 h
            · replace h := h.2 c_15
              refine wa_iload C 4 rfl dX12_touch_77 ?_
              refine wa_iload_n C 1 rfl dX12_touch_79 rfl ?_
              refine wa_iconst C (z := 2) dX12_touch_80 rfl ?_
              refine wa_irem C dX12_touch_81 rx1 (inR_k 2 rfl) (by decide) ?_
              obtain ⟨r_16, h⟩ := h
              obtain ⟨J_17, h, hJ_17⟩ := h
              have k_18 : ∀ (z_19 : Int), inR z_19 → J_17 z_19 → WA p l e ({ frames := 3, cells := 0, slots := 0, locals := 180 } : Room) s m args below meth c 0 0 Q K ad 5 A 94 [] [.int (iI z_19), .int (iI x4)] (mW M_thrown M_w M_h M_cells M_shape M_isBoard M_isBlank M_lives M_moves M_parts M_numbers M_grade M_reasons M_total M_near M_degree M_mine M_state M_history M_oldLives M_safe M_mined M_used M_partOf M_placeOf M_partSize M_ways M_with M_masks M_rests M_bits M_reach M_more M_reason M_big M_region) := by
                intro z_19 rz_19 h
                replace h := hJ_17 z_19 rz_19 h
                refine wa_icmp_ne C (tgt := 101) rx4 rz_19 dX12_touch_94 (by decide) (fun c_20 => ?_) (fun c_20 => ?_)
                · replace h := h.1 c_20
                  refine wa_iconst C (z := 0) dX12_touch_101 rfl ?_
                  refine wa_sub C [] rfl ?_
                  exact k_10 0 (inR_k 0 rfl) h
                · replace h := h.2 c_20
                  refine wa_sub C [] rfl ?_
                  exact k_14 h
              refine wa_if_ne C (tgt := 91) r_16 dX12_touch_82 (by decide) (fun c_21 => ?_) (fun c_21 => ?_)
              · replace h := h.1 c_21
                refine wa_iload_n C 2 rfl dX12_touch_91 rfl ?_
                refine wa_iconst C (z := 1) dX12_touch_92 rfl ?_
                refine wa_iadd C dX12_touch_93 ?_
                obtain ⟨r_22, h⟩ := h
                refine wa_sub C [] rfl ?_
                exact k_18 (x2 + 1) r_22 h
              · replace h := h.2 c_21
                refine wa_iload_n C 2 rfl dX12_touch_85 rfl ?_
                refine wa_iconst C (z := 1) dX12_touch_86 rfl ?_
                refine wa_isub C dX12_touch_87 ?_
                refine wa_goto C (tgt := 94) dX12_touch_88 (by decide) ?_
                obtain ⟨r_23, h⟩ := h
                refine wa_sub C [] rfl ?_
                exact k_18 (x2 - 1) r_23 h
          · replace h := h.2 c_8
            refine wa_iload C 4 rfl dX12_touch_49 ?_
            refine wa_iload_n C 2 rfl dX12_touch_51 rfl ?_
            refine wa_iconst C (z := 1) dX12_touch_52 rfl ?_
            refine wa_isub C dX12_touch_53 ?_
            obtain ⟨r_24, h⟩ := h
            obtain ⟨J_25, h, hJ_25⟩ := h
            have k_26 : ∀ (z_27 : Int), inR z_27 → J_25 z_27 → WA p l e ({ frames := 3, cells := 0, slots := 0, locals := 180 } : Room) s m args below meth c 0 0 Q K ad 5 A 70 [] [.int (iI z_27)] (mW M_thrown M_w M_h M_cells M_shape M_isBoard M_isBlank M_lives M_moves M_parts M_numbers M_grade M_reasons M_total M_near M_degree M_mine M_state M_history M_oldLives M_safe M_mined M_used M_partOf M_placeOf M_partSize M_ways M_with M_masks M_rests M_bits M_reach M_more M_reason M_big M_region) := by
              intro z_27 rz_27 h
              replace h := hJ_25 z_27 rz_27 h
              obtain ⟨b_28, h⟩ := h
              exact ret dX12_touch_70 b_28 ⟨b_28, rfl, h⟩
            obtain ⟨J_29, h, hJ_29⟩ := h
            have k_30 : J_29 → WA p l e ({ frames := 3, cells := 0, slots := 0, locals := 180 } : Room) s m args below meth c 0 0 Q K ad 5 A 65 [] [] (mW M_thrown M_w M_h M_cells M_shape M_isBoard M_isBlank M_lives M_moves M_parts M_numbers M_grade M_reasons M_total M_near M_degree M_mine M_state M_history M_oldLives M_safe M_mined M_used M_partOf M_placeOf M_partSize M_ways M_with M_masks M_rests M_bits M_reach M_more M_reason M_big M_region) := by
              intro h
              replace h := hJ_29 h
              refine wa_iconst C (z := 1) dX12_touch_65 rfl ?_
              refine wa_goto C (tgt := 70) dX12_touch_66 (by decide) ?_
              refine wa_sub C [] rfl ?_
              exact k_26 1 (inR_k 1 rfl) h
            refine wa_icmp_eq C (tgt := 65) rx4 r_24 dX12_touch_54 (by decide) (fun c_31 => ?_) (fun c_31 => ?_)
            · replace h := h.1 c_31
              refine wa_sub C [] rfl ?_
              exact k_30 h
            · replace h := h.2 c_31
              refine wa_iload C 4 rfl dX12_touch_57 ?_
              refine wa_iload_n C 2 rfl dX12_touch_59 rfl ?_
              refine wa_iconst C (z := 1) dX12_touch_60 rfl ?_
              refine wa_iadd C dX12_touch_61 ?_
              obtain ⟨r_32, h⟩ := h
              refine wa_icmp_ne C (tgt := 69) rx4 r_32 dX12_touch_62 (by decide) (fun c_33 => ?_) (fun c_33 => ?_)
              · replace h := h.1 c_33
                refine wa_iconst C (z := 0) dX12_touch_69 rfl ?_
                refine wa_sub C [] rfl ?_
                exact k_26 0 (inR_k 0 rfl) h
              · replace h := h.2 c_33
                refine wa_sub C [] rfl ?_
                exact k_30 h
        · replace h := h.2 c_7
          refine wa_iload C 4 rfl dX12_touch_32 ?_
          refine wa_iload_n C 2 rfl dX12_touch_34 rfl ?_
          refine wa_iconst C (z := 1) dX12_touch_35 rfl ?_
          refine wa_isub C dX12_touch_36 ?_
          refine wa_iload_n C 2 rfl dX12_touch_37 rfl ?_
          refine wa_iconst C (z := 1) dX12_touch_38 rfl ?_
          refine wa_iadd C dX12_touch_39 ?_
          obtain ⟨r_34, h⟩ := h
          obtain ⟨r_35, h⟩ := h
          refine wa_callSi C (As := [.int (iI x4), .int (iI (x2 - 1)), .int (iI (x2 + 1))]) (rest := []) (c_X12_within l K ad x4 (x2 - 1) (x2 + 1) rx4 r_34 r_35 _ h) gw_1354 gw_1352 gw_1353 gw_12 q_X12_within rfl rfl rfl ⟨by decide, by decide⟩ rfl (Nat.le_of_ble_eq_true rfl) dX12_touch_40 (fun c_36 u9 rc_36 hp => ?_)
          obtain ⟨bc_36, rfl, h⟩ := hp
          replace h := h bc_36
          exact ret dX12_touch_43 bc_36 ⟨bc_36, rfl, h⟩
      · replace h := h.2 c_6
        refine wa_iconst C (z := 0) dX12_touch_25 rfl ?_
        exact ret dX12_touch_26 (Or.inl rfl) ⟨(Or.inl rfl), rfl, h⟩
  refine wa_icmp_ne C (tgt := 11) rx1 rx3 dX12_touch_2 (by decide) (fun c_37 => ?_) (fun c_37 => ?_)
  · replace h := h.1 c_37
    refine wa_sub C [0, 1, 2, 3, 4] rfl ?_
    exact k_2 h
  · replace h := h.2 c_37
    refine wa_iload_n C 2 rfl dX12_touch_5 rfl ?_
    refine wa_iload C 4 rfl dX12_touch_6 ?_
    refine wa_icmp_eq C (tgt := 25) rx2 rx4 dX12_touch_8 (by decide) (fun c_38 => ?_) (fun c_38 => ?_)
    · replace h := h.1 c_38
      refine wa_iconst C (z := 0) dX12_touch_25 rfl ?_
      exact ret dX12_touch_26 (Or.inl rfl) ⟨(Or.inl rfl), rfl, h⟩
    · replace h := h.2 c_38
      refine wa_sub C [0, 1, 2, 3, 4] rfl ?_
      exact k_2 h
def P_X12_areNear (post : Int → Prop) (M_w : Int) (M_h : Int) (M_shape : Int) (x1 : Int) (x2 : Int) : Prop :=
  M_w ≠ 0 ∧ (inR (x1.tdiv M_w) ∧ (∀ x3_4 : Int, x3_4 = (x1.tdiv M_w) → (M_w ≠ 0 ∧ (inR (x1.tmod M_w) ∧ (∀ x4_8 : Int, x4_8 = (x1.tmod M_w) → (inR (M_shape.tmod 2) ∧ ((¬ (M_shape.tmod 2) = 0 → (∃ Inv_12 : Nat → (Int) → (Int) → Prop, (∃ n_13 : Nat, Inv_12 n_13 0 0) ∧ ∀ (n_14 : Nat) (x5_17 : Int) (x6_18 : Int), inR x5_17 → inR x6_18 → Inv_12 n_14 x5_17 x6_18 → ((9 ≤ x6_18 → (∃ J_20 : (Int) → Prop, (∃ J_24 : Prop, ((x5_17 = 0 → (J_24)) ∧ (¬ x5_17 = 0 → ((x1 = x2 → (J_24)) ∧ (¬ x1 = x2 → (J_20 1))))) ∧ (J_24 → (J_20 0))) ∧ (∀ (z_22 : Int), inR z_22 → J_20 z_22 → ((z_22 = 0 ∨ z_22 = 1) ∧ (post z_22))))) ∧ (¬ 9 ≤ x6_18 → (∃ J_28 : (Int) → Prop, (∃ J_34 : Prop, ((¬ x5_17 = 0 → (J_34)) ∧ (x5_17 = 0 → (M_w ≠ 0 ∧ (M_w ≠ 0 ∧ (inR ((x2.tdiv M_w) + (((x6_18.tdiv 3) - 1) * M_h)) ∧ (inR ((x2.tmod M_w) + (((x6_18.tmod 3) - 1) * M_w)) ∧ (P_X12_touch (fun (c_46 : Int) => (c_46 = 0 ∨ c_46 = 1) → ((c_46 = 0 → (J_28 0)) ∧ (¬ c_46 = 0 → (J_34))))  M_shape x3_4 x4_8 ((x2.tdiv M_w) + (((x6_18.tdiv 3) - 1) * M_h)) ((x2.tmod M_w) + (((x6_18.tmod 3) - 1) * M_w))))))))) ∧ (J_34 → (J_28 1))) ∧ (∀ (z_30 : Int), inR z_30 → J_28 z_30 → (inR (x6_18 + 1) ∧ (∀ x6_32 : Int, x6_32 = (x6_18 + 1) → (∃ n_33 : Nat, n_33 < n_14 ∧ Inv_12 n_33 z_30 x6_32))))))))) ∧ ((M_shape.tmod 2) = 0 → (M_w ≠ 0 ∧ (M_w ≠ 0 ∧ (inR (x2.tdiv M_w) ∧ (inR (x2.tmod M_w) ∧ (P_X12_touch (fun (c_55 : Int) => (c_55 = 0 ∨ c_55 = 1) → (post c_55))  M_shape x3_4 x4_8 (x2.tdiv M_w) (x2.tmod M_w))))))))))))))
set_option maxRecDepth 100000 in
set_option maxHeartbeats 4000000 in
theorem c_X12_areNear (l : Launch) (K : wK) (ad : Nat → Nat) {M_thrown : Int} {M_w : Int} {M_h : Int} {M_cells : Int} {M_shape : Int} {M_isBoard : Int} {M_isBlank : Int} {M_lives : Int} {M_moves : Int} {M_parts : Int} {M_numbers : Int} {M_grade : Int} {M_reasons : Int} {M_total : Int} {M_near : Int → Int} {M_degree : Int → Int} {M_mine : Int → Int} {M_state : Int → Int} {M_history : Int → Int64} {M_oldLives : Int → Int} {M_safe : Int → Int} {M_mined : Int → Int} {M_used : Int → Int} {M_partOf : Int → Int} {M_placeOf : Int → Int} {M_partSize : Int → Int} {M_ways : Int → Int} {M_with : Int → Int} {M_masks : Int → Int} {M_rests : Int → Int} {M_bits : Int → Int} {M_reach : Int → Int} {M_more : Int → Int} {M_reason : Int → Int} {M_big : Int → Int64} {M_region : Int → Int} (x1 : Int) (x2 : Int) (rx1 : inR x1) (rx2 : inR x2) (post : Int → Prop) (h : P_X12_areNear post M_w M_h M_shape x1 x2) : mI l yX12_areNear (Cond.code yX12_areNear cX12_areNear 7 (some .boolean) :: GT) ({ frames := 4, cells := 0, slots := 0, locals := 240 } : Room) [.ref (ad 0), .int (iI x1), .int (iI x2)] K ad (mW M_thrown M_w M_h M_cells M_shape M_isBoard M_isBlank M_lives M_moves M_parts M_numbers M_grade M_reasons M_total M_near M_degree M_mine M_state M_history M_oldLives M_safe M_mined M_used M_partOf M_placeOf M_partSize M_ways M_with M_masks M_rests M_bits M_reach M_more M_reason M_big M_region) (fun z9 u9 => (z9 = 0 ∨ z9 = 1) ∧ u9 = (mW M_thrown M_w M_h M_cells M_shape M_isBoard M_isBlank M_lives M_moves M_parts M_numbers M_grade M_reasons M_total M_near M_degree M_mine M_state M_history M_oldLives M_safe M_mined M_used M_partOf M_placeOf M_partSize M_ways M_with M_masks M_rests M_bits M_reach M_more M_reason M_big M_region) ∧ post z9) := by
  refine mZ_of (lv0 := [(0, .ref (ad 0)), (1, .int (iI x1)), (2, .int (iI x2))]) (by decide) (Nat.le_of_ble_eq_true rfl) rfl ?_
  intro p e s m args below meth c Q A C ret
  replace C : Cx p ({ frames := 4, cells := 0, slots := 0, locals := 240 } : Room) m c 0 0 cX12_areNear 7 s args RX12 K A := C
  unfold P_X12_areNear at h
  refine wa_iload_n C 1 rfl dX12_areNear_0 rfl ?_
  refine wa_aload_n C 0 rfl dX12_areNear_1 rfl ?_
  refine wa_getI C 0 1 mW_0 rfl rfl (by decide) okX12 gw_1233 dX12_areNear_2 (fun r_1 => ?_)
  obtain ⟨q_2, h⟩ := h
  refine wa_idiv C dX12_areNear_5 rx1 r_1 q_2 ?_
  obtain ⟨r_3, h⟩ := h
  refine wa_nmi (fun x3_4 ex3_4 => ?_)
  replace h := h x3_4 ex3_4
  have rx3_4 : inR x3_4 := by rw [ex3_4]; exact r_3
  refine wa_istore_n C dX12_areNear_6 rfl (by decide) rfl ?_
  refine wa_iload_n C 2 rfl dX12_areNear_7 rfl ?_
  refine wa_aload_n C 1 rfl dX12_areNear_8 rfl ?_
  refine wa_getI C 0 1 mW_0 rfl rfl (by decide) okX12 gw_1233 dX12_areNear_9 (fun r_5 => ?_)
  obtain ⟨q_6, h⟩ := h
  refine wa_irem C dX12_areNear_12 rx1 r_1 q_6 ?_
  obtain ⟨r_7, h⟩ := h
  refine wa_nmi (fun x4_8 ex4_8 => ?_)
  replace h := h x4_8 ex4_8
  have rx4_8 : inR x4_8 := by rw [ex4_8]; exact r_7
  refine wa_istore C dX12_areNear_13 (by decide) rfl ?_
  refine wa_aload_n C 2 rfl dX12_areNear_15 rfl ?_
  refine wa_getI C 0 4 mW_0 rfl rfl (by decide) okX12 gw_1236 dX12_areNear_16 (fun r_9 => ?_)
  refine wa_iconst C (z := 2) dX12_areNear_19 rfl ?_
  refine wa_irem C dX12_areNear_20 r_9 (inR_k 2 rfl) (by decide) ?_
  obtain ⟨r_10, h⟩ := h
  refine wa_if_ne C (tgt := 47) r_10 dX12_areNear_21 (by decide) (fun c_11 => ?_) (fun c_11 => ?_)
  · replace h := h.1 c_11
    refine wa_iconst C (z := 0) dX12_areNear_47 rfl ?_
    refine wa_istore C dX12_areNear_48 (by decide) rfl ?_
    refine wa_iconst C (z := 0) dX12_areNear_50 rfl ?_
    refine wa_istore C dX12_areNear_51 (by decide) rfl ?_
    obtain ⟨Inv_12, ⟨n_13, h0Inv_12⟩, hInv_12⟩ := h
    have k_16 : ∀ (n_14 : Nat) (x5_17 : Int) (x6_18 : Int), inR x5_17 → inR x6_18 → Inv_12 n_14 x5_17 x6_18 → WA p l e ({ frames := 4, cells := 0, slots := 0, locals := 240 } : Room) s m args below meth c 0 0 Q K ad 7 A 53 [(0, .ref (ad 0)), (1, .int (iI x1)), (2, .int (iI x2)), (3, .int (iI x3_4)), (4, .int (iI x4_8)), (5, .int (iI x5_17)), (6, .int (iI x6_18))] [] (mW M_thrown M_w M_h M_cells M_shape M_isBoard M_isBlank M_lives M_moves M_parts M_numbers M_grade M_reasons M_total M_near M_degree M_mine M_state M_history M_oldLives M_safe M_mined M_used M_partOf M_placeOf M_partSize M_ways M_with M_masks M_rests M_bits M_reach M_more M_reason M_big M_region) := by
      intro n_14
      induction n_14 using Nat.strongRecOn with
      | ind n_14 ih_15 =>
        intro x5_17 x6_18 rx5_17 rx6_18 h
        replace h := hInv_12 n_14 x5_17 x6_18 rx5_17 rx6_18 h
        refine wa_iload C 6 rfl dX12_areNear_53 ?_
        refine wa_bipush C (z := 9) dX12_areNear_55 (by decide) ?_
        refine wa_icmp_ge C (tgt := 127) rx6_18 (inR_k 9 rfl) dX12_areNear_57 (by decide) (fun c_19 => ?_) (fun c_19 => ?_)
        · replace h := h.1 c_19
          refine wa_iload C 5 rfl dX12_areNear_127 ?_
          obtain ⟨J_20, h, hJ_20⟩ := h
          have k_21 : ∀ (z_22 : Int), inR z_22 → J_20 z_22 → WA p l e ({ frames := 4, cells := 0, slots := 0, locals := 240 } : Room) s m args below meth c 0 0 Q K ad 7 A 142 [] [.int (iI z_22)] (mW M_thrown M_w M_h M_cells M_shape M_isBoard M_isBlank M_lives M_moves M_parts M_numbers M_grade M_reasons M_total M_near M_degree M_mine M_state M_history M_oldLives M_safe M_mined M_used M_partOf M_placeOf M_partSize M_ways M_with M_masks M_rests M_bits M_reach M_more M_reason M_big M_region) := by
            intro z_22 rz_22 h
            replace h := hJ_20 z_22 rz_22 h
            obtain ⟨b_23, h⟩ := h
            exact ret dX12_areNear_142 b_23 ⟨b_23, rfl, h⟩
          obtain ⟨J_24, h, hJ_24⟩ := h
          have k_25 : J_24 → WA p l e ({ frames := 4, cells := 0, slots := 0, locals := 240 } : Room) s m args below meth c 0 0 Q K ad 7 A 141 [] [] (mW M_thrown M_w M_h M_cells M_shape M_isBoard M_isBlank M_lives M_moves M_parts M_numbers M_grade M_reasons M_total M_near M_degree M_mine M_state M_history M_oldLives M_safe M_mined M_used M_partOf M_placeOf M_partSize M_ways M_with M_masks M_rests M_bits M_reach M_more M_reason M_big M_region) := by
            intro h
            replace h := hJ_24 h
            refine wa_iconst C (z := 0) dX12_areNear_141 rfl ?_
            refine wa_sub C [] rfl ?_
            exact k_21 0 (inR_k 0 rfl) h
          refine wa_if_eq C (tgt := 141) rx5_17 dX12_areNear_129 (by decide) (fun c_26 => ?_) (fun c_26 => ?_)
          · replace h := h.1 c_26
            refine wa_sub C [] rfl ?_
            exact k_25 h
          · replace h := h.2 c_26
            refine wa_iload_n C 1 rfl dX12_areNear_132 rfl ?_
            refine wa_iload_n C 2 rfl dX12_areNear_133 rfl ?_
            refine wa_icmp_eq C (tgt := 141) rx1 rx2 dX12_areNear_134 (by decide) (fun c_27 => ?_) (fun c_27 => ?_)
            · replace h := h.1 c_27
              refine wa_sub C [] rfl ?_
              exact k_25 h
            · replace h := h.2 c_27
              refine wa_iconst C (z := 1) dX12_areNear_137 rfl ?_
              refine wa_goto C (tgt := 142) dX12_areNear_138 (by decide) ?_
              refine wa_sub C [] rfl ?_
              exact k_21 1 (inR_k 1 rfl) h
        · replace h := h.2 c_19
          refine wa_iload C 5 rfl dX12_areNear_60 ?_
          obtain ⟨J_28, h, hJ_28⟩ := h
          have k_29 : ∀ (z_30 : Int), inR z_30 → J_28 z_30 → WA p l e ({ frames := 4, cells := 0, slots := 0, locals := 240 } : Room) s m args below meth c 0 0 Q K ad 7 A 119 [(0, .ref (ad 0)), (1, .int (iI x1)), (2, .int (iI x2)), (3, .int (iI x3_4)), (4, .int (iI x4_8)), (6, .int (iI x6_18))] [.int (iI z_30)] (mW M_thrown M_w M_h M_cells M_shape M_isBoard M_isBlank M_lives M_moves M_parts M_numbers M_grade M_reasons M_total M_near M_degree M_mine M_state M_history M_oldLives M_safe M_mined M_used M_partOf M_placeOf M_partSize M_ways M_with M_masks M_rests M_bits M_reach M_more M_reason M_big M_region) := by
            intro z_30 rz_30 h
            replace h := hJ_28 z_30 rz_30 h
            refine wa_istore C dX12_areNear_119 (by decide) rfl ?_
            obtain ⟨r_31, h⟩ := h
            refine wa_iinc C (lv' := fun w9 => [(6, .int (iI w9)), (5, .int (iI z_30)), (0, .ref (ad 0)), (1, .int (iI x1)), (2, .int (iI x2)), (3, .int (iI x3_4)), (4, .int (iI x4_8))]) 6 rfl dX12_areNear_121 (by decide) (fun _ => rfl) (fun x6_32 ex6_32 => ?_)
            replace h := h x6_32 ex6_32
            have rx6_32 : inR x6_32 := by rw [ex6_32]; exact r_31
            refine wa_goto C (tgt := 53) dX12_areNear_124 (by decide) ?_
            obtain ⟨n_33, ln_33, h⟩ := h
            refine wa_sub C [2, 3, 4, 5, 6, 1, 0] rfl ?_
            exact ih_15 n_33 ln_33 z_30 x6_32 rz_30 rx6_32 h
          obtain ⟨J_34, h, hJ_34⟩ := h
          have k_35 : J_34 → WA p l e ({ frames := 4, cells := 0, slots := 0, locals := 240 } : Room) s m args below meth c 0 0 Q K ad 7 A 114 [(0, .ref (ad 0)), (1, .int (iI x1)), (2, .int (iI x2)), (3, .int (iI x3_4)), (4, .int (iI x4_8)), (6, .int (iI x6_18))] [] (mW M_thrown M_w M_h M_cells M_shape M_isBoard M_isBlank M_lives M_moves M_parts M_numbers M_grade M_reasons M_total M_near M_degree M_mine M_state M_history M_oldLives M_safe M_mined M_used M_partOf M_placeOf M_partSize M_ways M_with M_masks M_rests M_bits M_reach M_more M_reason M_big M_region) := by
            intro h
            replace h := hJ_34 h
            refine wa_iconst C (z := 1) dX12_areNear_114 rfl ?_
            refine wa_goto C (tgt := 119) dX12_areNear_115 (by decide) ?_
            refine wa_sub C [0, 1, 2, 3, 4, 5] rfl ?_
            exact k_29 1 (inR_k 1 rfl) h
          refine wa_if_ne C (tgt := 114) rx5_17 dX12_areNear_62 (by decide) (fun c_36 => ?_) (fun c_36 => ?_)
          · replace h := h.1 c_36
            refine wa_sub C [0, 1, 2, 3, 4, 6] rfl ?_
            exact k_35 h
          · replace h := h.2 c_36
            refine wa_aload_n C 0 rfl dX12_areNear_65 rfl ?_
            refine wa_getI C 0 4 mW_0 rfl rfl (by decide) okX12 gw_1236 dX12_areNear_66 (fun r_37 => ?_)
            refine wa_iload_n C 3 rfl dX12_areNear_69 rfl ?_
            refine wa_iload C 4 rfl dX12_areNear_70 ?_
            refine wa_iload_n C 2 rfl dX12_areNear_72 rfl ?_
            refine wa_aload_n C 0 rfl dX12_areNear_73 rfl ?_
            refine wa_getI C 0 1 mW_0 rfl rfl (by decide) okX12 gw_1233 dX12_areNear_74 (fun r_38 => ?_)
            obtain ⟨q_39, h⟩ := h
            refine wa_idiv C dX12_areNear_77 rx2 r_1 q_39 ?_
            refine wa_iload C 6 rfl dX12_areNear_78 ?_
            refine wa_iconst C (z := 3) dX12_areNear_80 rfl ?_
            refine wa_idiv C dX12_areNear_81 rx6_18 (inR_k 3 rfl) (by decide) ?_
            refine wa_iconst C (z := 1) dX12_areNear_82 rfl ?_
            refine wa_isub C dX12_areNear_83 ?_
            refine wa_aload_n C 0 rfl dX12_areNear_84 rfl ?_
            refine wa_getI C 0 2 mW_0 rfl rfl (by decide) okX12 gw_1234 dX12_areNear_85 (fun r_40 => ?_)
            refine wa_imul C dX12_areNear_88 ?_
            refine wa_iadd C dX12_areNear_89 ?_
            refine wa_iload_n C 2 rfl dX12_areNear_90 rfl ?_
            refine wa_aload_n C 0 rfl dX12_areNear_91 rfl ?_
            refine wa_getI C 0 1 mW_0 rfl rfl (by decide) okX12 gw_1233 dX12_areNear_92 (fun r_41 => ?_)
            obtain ⟨q_42, h⟩ := h
            refine wa_irem C dX12_areNear_95 rx2 r_1 q_42 ?_
            refine wa_iload C 6 rfl dX12_areNear_96 ?_
            refine wa_iconst C (z := 3) dX12_areNear_98 rfl ?_
            refine wa_irem C dX12_areNear_99 rx6_18 (inR_k 3 rfl) (by decide) ?_
            refine wa_iconst C (z := 1) dX12_areNear_100 rfl ?_
            refine wa_isub C dX12_areNear_101 ?_
            refine wa_aload_n C 0 rfl dX12_areNear_102 rfl ?_
            refine wa_getI C 0 1 mW_0 rfl rfl (by decide) okX12 gw_1233 dX12_areNear_103 (fun r_43 => ?_)
            refine wa_imul C dX12_areNear_106 ?_
            refine wa_iadd C dX12_areNear_107 ?_
            obtain ⟨r_44, h⟩ := h
            obtain ⟨r_45, h⟩ := h
            refine wa_callSi C (As := [.int (iI M_shape), .int (iI x3_4), .int (iI x4_8), .int (iI ((x2.tdiv M_w) + (((x6_18.tdiv 3) - 1) * M_h))), .int (iI ((x2.tmod M_w) + (((x6_18.tmod 3) - 1) * M_w)))]) (rest := []) (c_X12_touch l K ad M_shape x3_4 x4_8 ((x2.tdiv M_w) + (((x6_18.tdiv 3) - 1) * M_h)) ((x2.tmod M_w) + (((x6_18.tmod 3) - 1) * M_w)) r_9 rx3_4 rx4_8 r_44 r_45 _ h) gw_1361 gw_1359 gw_1360 gw_12 q_X12_touch rfl rfl rfl ⟨by decide, by decide⟩ rfl (Nat.le_of_ble_eq_true rfl) dX12_areNear_108 (fun c_46 u9 rc_46 hp => ?_)
            obtain ⟨bc_46, rfl, h⟩ := hp
            replace h := h bc_46
            refine wa_if_eq C (tgt := 118) (inR_b bc_46) dX12_areNear_111 (by decide) (fun c_47 => ?_) (fun c_47 => ?_)
            · replace h := h.1 c_47
              refine wa_iconst C (z := 0) dX12_areNear_118 rfl ?_
              refine wa_sub C [0, 1, 2, 3, 4, 6] rfl ?_
              exact k_29 0 (inR_k 0 rfl) h
            · replace h := h.2 c_47
              refine wa_sub C [0, 1, 2, 3, 4, 6] rfl ?_
              exact k_35 h
    refine wa_sub C [4, 5, 6, 3, 2, 1, 0] rfl ?_
    exact k_16 n_13 0 0 (inR_k 0 rfl) (inR_k 0 rfl) h0Inv_12
  · replace h := h.2 c_11
    refine wa_aload_n C 2 rfl dX12_areNear_24 rfl ?_
    refine wa_getI C 0 4 mW_0 rfl rfl (by decide) okX12 gw_1236 dX12_areNear_25 (fun r_48 => ?_)
    refine wa_iload_n C 1 rfl dX12_areNear_28 rfl ?_
    refine wa_iload C 0 rfl dX12_areNear_29 ?_
    refine wa_iload_n C 4 rfl dX12_areNear_31 rfl ?_
    refine wa_aload_n C 2 rfl dX12_areNear_32 rfl ?_
    refine wa_getI C 0 1 mW_0 rfl rfl (by decide) okX12 gw_1233 dX12_areNear_33 (fun r_49 => ?_)
    obtain ⟨q_50, h⟩ := h
    refine wa_idiv C dX12_areNear_36 rx2 r_1 q_50 ?_
    refine wa_iload_n C 4 rfl dX12_areNear_37 rfl ?_
    refine wa_aload_n C 2 rfl dX12_areNear_38 rfl ?_
    refine wa_getI C 0 1 mW_0 rfl rfl (by decide) okX12 gw_1233 dX12_areNear_39 (fun r_51 => ?_)
    obtain ⟨q_52, h⟩ := h
    refine wa_irem C dX12_areNear_42 rx2 r_1 q_52 ?_
    obtain ⟨r_53, h⟩ := h
    obtain ⟨r_54, h⟩ := h
    refine wa_callSi C (As := [.int (iI M_shape), .int (iI x3_4), .int (iI x4_8), .int (iI (x2.tdiv M_w)), .int (iI (x2.tmod M_w))]) (rest := []) (c_X12_touch l K ad M_shape x3_4 x4_8 (x2.tdiv M_w) (x2.tmod M_w) r_9 rx3_4 rx4_8 r_53 r_54 _ h) gw_1361 gw_1359 gw_1360 gw_12 q_X12_touch rfl rfl rfl ⟨by decide, by decide⟩ rfl (Nat.le_of_ble_eq_true rfl) dX12_areNear_43 (fun c_55 u9 rc_55 hp => ?_)
    obtain ⟨bc_55, rfl, h⟩ := hp
    replace h := h bc_55
    exact ret dX12_areNear_46 bc_55 ⟨bc_55, rfl, h⟩
def P_X12_noReason (post : (Int) → (Int) → (Int) → Prop) (M_grade : Int) (M_reasons : Int) (M_total : Int) : Prop :=
  post 0 0 0
set_option maxRecDepth 100000 in
set_option maxHeartbeats 4000000 in
theorem c_X12_noReason (l : Launch) (K : wK) (ad : Nat → Nat) {M_thrown : Int} {M_w : Int} {M_h : Int} {M_cells : Int} {M_shape : Int} {M_isBoard : Int} {M_isBlank : Int} {M_lives : Int} {M_moves : Int} {M_parts : Int} {M_numbers : Int} {M_grade : Int} {M_reasons : Int} {M_total : Int} {M_near : Int → Int} {M_degree : Int → Int} {M_mine : Int → Int} {M_state : Int → Int} {M_history : Int → Int64} {M_oldLives : Int → Int} {M_safe : Int → Int} {M_mined : Int → Int} {M_used : Int → Int} {M_partOf : Int → Int} {M_placeOf : Int → Int} {M_partSize : Int → Int} {M_ways : Int → Int} {M_with : Int → Int} {M_masks : Int → Int} {M_rests : Int → Int} {M_bits : Int → Int} {M_reach : Int → Int} {M_more : Int → Int} {M_reason : Int → Int} {M_big : Int → Int64} {M_region : Int → Int}   (post : (Int) → (Int) → (Int) → Prop) (h : P_X12_noReason post M_grade M_reasons M_total) : mV l yX12_noReason (Cond.code yX12_noReason cX12_noReason 1 none :: GT) ({ frames := 2, cells := 0, slots := 0, locals := 120 } : Room) [.ref (ad 0)] K ad (mW M_thrown M_w M_h M_cells M_shape M_isBoard M_isBlank M_lives M_moves M_parts M_numbers M_grade M_reasons M_total M_near M_degree M_mine M_state M_history M_oldLives M_safe M_mined M_used M_partOf M_placeOf M_partSize M_ways M_with M_masks M_rests M_bits M_reach M_more M_reason M_big M_region) (fun u9 => ∃ M_grade9 M_reasons9 M_total9, u9 = (mW M_thrown M_w M_h M_cells M_shape M_isBoard M_isBlank M_lives M_moves M_parts M_numbers M_grade9 M_reasons9 M_total9 M_near M_degree M_mine M_state M_history M_oldLives M_safe M_mined M_used M_partOf M_placeOf M_partSize M_ways M_with M_masks M_rests M_bits M_reach M_more M_reason M_big M_region) ∧ post M_grade9 M_reasons9 M_total9) := by
  refine mV_of (lv0 := [(0, .ref (ad 0))]) (by decide) (Nat.le_of_ble_eq_true rfl) rfl ?_
  intro p e s m args below meth c Q A C ret
  replace C : Cx p ({ frames := 2, cells := 0, slots := 0, locals := 120 } : Room) m c 0 0 cX12_noReason 1 s args RX12 K A := C
  unfold P_X12_noReason at h
  refine wa_aload_n C 0 rfl dX12_noReason_0 rfl ?_
  refine wa_iconst C (z := 0) dX12_noReason_1 rfl ?_
  refine wa_putI C (ws' := (mW M_thrown M_w M_h M_cells M_shape M_isBoard M_isBlank M_lives M_moves M_parts M_numbers 0 M_reasons M_total M_near M_degree M_mine M_state M_history M_oldLives M_safe M_mined M_used M_partOf M_placeOf M_partSize M_ways M_with M_masks M_rests M_bits M_reach M_more M_reason M_big M_region)) 0 30 mW_0 rfl (by decide) okX12 gw_1262 rfl rfl (Nat.le_of_ble_eq_true rfl) (inR_k 0 rfl) (mWp_0_30 _) dX12_noReason_2 ?_
  refine wa_aload_n C 0 rfl dX12_noReason_5 rfl ?_
  refine wa_iconst C (z := 0) dX12_noReason_6 rfl ?_
  refine wa_putI C (ws' := (mW M_thrown M_w M_h M_cells M_shape M_isBoard M_isBlank M_lives M_moves M_parts M_numbers 0 0 M_total M_near M_degree M_mine M_state M_history M_oldLives M_safe M_mined M_used M_partOf M_placeOf M_partSize M_ways M_with M_masks M_rests M_bits M_reach M_more M_reason M_big M_region)) 0 31 mW_0 rfl (by decide) okX12 gw_1263 rfl rfl (Nat.le_of_ble_eq_true rfl) (inR_k 0 rfl) (mWp_0_31 _) dX12_noReason_7 ?_
  refine wa_aload_n C 0 rfl dX12_noReason_10 rfl ?_
  refine wa_iconst C (z := 0) dX12_noReason_11 rfl ?_
  refine wa_putZ C (ws' := (mW M_thrown M_w M_h M_cells M_shape M_isBoard M_isBlank M_lives M_moves M_parts M_numbers 0 0 0 M_near M_degree M_mine M_state M_history M_oldLives M_safe M_mined M_used M_partOf M_placeOf M_partSize M_ways M_with M_masks M_rests M_bits M_reach M_more M_reason M_big M_region)) 0 32 mW_0 rfl (by decide) okX12 gw_1264 rfl rfl (Nat.le_of_ble_eq_true rfl) (Or.inl rfl) (mWp_0_32 _) dX12_noReason_12 ?_
  exact ret dX12_noReason_15 ⟨_, _, _, rfl, h⟩
def P_X12_closeAll (post : (Int → Int) → Prop) (M_cells : Int) (M_state : Int → Int) : Prop :=
  ∃ Inv_1 : Nat → (Int) → (Int → Int) → Prop, (∃ n_2 : Nat, Inv_1 n_2 0 M_state) ∧ ∀ (n_3 : Nat) (x1_6 : Int) (M_state_7 : Int → Int), inR x1_6 → Inv_1 n_3 x1_6 M_state_7 → ((M_cells ≤ x1_6 → (post M_state_7)) ∧ (¬ M_cells ≤ x1_6 → ((0 ≤ x1_6 ∧ x1_6 < 144) ∧ (∀ M_state_11 : Int → Int, M_state_11 = upZ M_state_7 x1_6 0 → (inR (x1_6 + 1) ∧ (∀ x1_13 : Int, x1_13 = (x1_6 + 1) → (∃ n_14 : Nat, n_14 < n_3 ∧ Inv_1 n_14 x1_13 M_state_11)))))))
set_option maxRecDepth 100000 in
set_option maxHeartbeats 4000000 in
theorem c_X12_closeAll (l : Launch) (K : wK) (ad : Nat → Nat) {M_thrown : Int} {M_w : Int} {M_h : Int} {M_cells : Int} {M_shape : Int} {M_isBoard : Int} {M_isBlank : Int} {M_lives : Int} {M_moves : Int} {M_parts : Int} {M_numbers : Int} {M_grade : Int} {M_reasons : Int} {M_total : Int} {M_near : Int → Int} {M_degree : Int → Int} {M_mine : Int → Int} {M_state : Int → Int} {M_history : Int → Int64} {M_oldLives : Int → Int} {M_safe : Int → Int} {M_mined : Int → Int} {M_used : Int → Int} {M_partOf : Int → Int} {M_placeOf : Int → Int} {M_partSize : Int → Int} {M_ways : Int → Int} {M_with : Int → Int} {M_masks : Int → Int} {M_rests : Int → Int} {M_bits : Int → Int} {M_reach : Int → Int} {M_more : Int → Int} {M_reason : Int → Int} {M_big : Int → Int64} {M_region : Int → Int}   (post : (Int → Int) → Prop) (h : P_X12_closeAll post M_cells M_state) : mV l yX12_closeAll (Cond.code yX12_closeAll cX12_closeAll 2 none :: GT) ({ frames := 2, cells := 0, slots := 0, locals := 120 } : Room) [.ref (ad 0)] K ad (mW M_thrown M_w M_h M_cells M_shape M_isBoard M_isBlank M_lives M_moves M_parts M_numbers M_grade M_reasons M_total M_near M_degree M_mine M_state M_history M_oldLives M_safe M_mined M_used M_partOf M_placeOf M_partSize M_ways M_with M_masks M_rests M_bits M_reach M_more M_reason M_big M_region) (fun u9 => ∃ M_state9, u9 = (mW M_thrown M_w M_h M_cells M_shape M_isBoard M_isBlank M_lives M_moves M_parts M_numbers M_grade M_reasons M_total M_near M_degree M_mine M_state9 M_history M_oldLives M_safe M_mined M_used M_partOf M_placeOf M_partSize M_ways M_with M_masks M_rests M_bits M_reach M_more M_reason M_big M_region) ∧ post M_state9) := by
  refine mV_of (lv0 := [(0, .ref (ad 0))]) (by decide) (Nat.le_of_ble_eq_true rfl) rfl ?_
  intro p e s m args below meth c Q A C ret
  replace C : Cx p ({ frames := 2, cells := 0, slots := 0, locals := 120 } : Room) m c 0 0 cX12_closeAll 2 s args RX12 K A := C
  unfold P_X12_closeAll at h
  refine wa_iconst C (z := 0) dX12_closeAll_0 rfl ?_
  refine wa_istore_n C dX12_closeAll_1 rfl (by decide) rfl ?_
  obtain ⟨Inv_1, ⟨n_2, h0Inv_1⟩, hInv_1⟩ := h
  have k_5 : ∀ (n_3 : Nat) (x1_6 : Int) (M_state_7 : Int → Int), inR x1_6 → Inv_1 n_3 x1_6 M_state_7 → WA p l e ({ frames := 2, cells := 0, slots := 0, locals := 120 } : Room) s m args below meth c 0 0 Q K ad 2 A 2 [(0, .ref (ad 0)), (1, .int (iI x1_6))] [] (mW M_thrown M_w M_h M_cells M_shape M_isBoard M_isBlank M_lives M_moves M_parts M_numbers M_grade M_reasons M_total M_near M_degree M_mine M_state_7 M_history M_oldLives M_safe M_mined M_used M_partOf M_placeOf M_partSize M_ways M_with M_masks M_rests M_bits M_reach M_more M_reason M_big M_region) := by
    intro n_3
    induction n_3 using Nat.strongRecOn with
    | ind n_3 ih_4 =>
      intro x1_6 M_state_7 rx1_6 h
      replace h := hInv_1 n_3 x1_6 M_state_7 rx1_6 h
      refine wa_iload_n C 1 rfl dX12_closeAll_2 rfl ?_
      refine wa_aload_n C 0 rfl dX12_closeAll_3 rfl ?_
      refine wa_getI C 0 3 mW_0 rfl rfl (by decide) okX12 gw_1235 dX12_closeAll_4 (fun r_8 => ?_)
      refine wa_icmp_ge C (tgt := 23) rx1_6 r_8 dX12_closeAll_7 (by decide) (fun c_9 => ?_) (fun c_9 => ?_)
      · replace h := h.1 c_9
        exact ret dX12_closeAll_23 ⟨_, rfl, h⟩
      · replace h := h.2 c_9
        refine wa_aload_n C 0 rfl dX12_closeAll_10 rfl ?_
        refine wa_getR C 0 10 mW_0 rfl rfl (by decide) okX12 gw_1242 dX12_closeAll_11 ?_
        refine wa_iload_n C 1 rfl dX12_closeAll_14 rfl ?_
        refine wa_iconst C (z := 0) dX12_closeAll_15 rfl ?_
        obtain ⟨t_10, h⟩ := h
        refine wa_iast C (ws' := fun w9 => (mW M_thrown M_w M_h M_cells M_shape M_isBoard M_isBlank M_lives M_moves M_parts M_numbers M_grade M_reasons M_total M_near M_degree M_mine w9 M_history M_oldLives M_safe M_mined M_used M_partOf M_placeOf M_partSize M_ways M_with M_masks M_rests M_bits M_reach M_more M_reason M_big M_region)) 4 mW_4 dX12_closeAll_16 t_10.1 t_10.2 (inR_k 0 rfl) mWs_4 (fun M_state_11 eM_state_11 => ?_)
        replace h := h M_state_11 eM_state_11
        obtain ⟨r_12, h⟩ := h
        refine wa_iinc C (lv' := fun w9 => [(1, .int (iI w9)), (0, .ref (ad 0))]) 1 rfl dX12_closeAll_17 (by decide) (fun _ => rfl) (fun x1_13 ex1_13 => ?_)
        replace h := h x1_13 ex1_13
        have rx1_13 : inR x1_13 := by rw [ex1_13]; exact r_12
        refine wa_goto C (tgt := 2) dX12_closeAll_20 (by decide) ?_
        obtain ⟨n_14, ln_14, h⟩ := h
        refine wa_sub C [1, 0] rfl ?_
        exact ih_4 n_14 ln_14 x1_13 M_state_11 rx1_13 h
  refine wa_sub C [1, 0] rfl ?_
  exact k_5 n_2 0 M_state (inR_k 0 rfl) h0Inv_1
def P_X12_setUp (post : (Int) → (Int) → (Int) → (Int) → (Int) → (Int) → (Int) → (Int) → (Int) → (Int) → (Int → Int) → (Int → Int) → (Int → Int) → (Int → Int) → Prop) (M_w : Int) (M_h : Int) (M_cells : Int) (M_shape : Int) (M_isBoard : Int) (M_lives : Int) (M_moves : Int) (M_grade : Int) (M_reasons : Int) (M_total : Int) (M_near : Int → Int) (M_degree : Int → Int) (M_mine : Int → Int) (M_state : Int → Int) (x1 : Int) (x2 : Int) (x3 : Int) : Prop :=
  inR (x1 * x2) ∧ (∀ M_cells_4 : Int, M_cells_4 = (x1 * x2) → (∃ Inv_5 : Nat → (Int) → (Int → Int) → (Int → Int) → (Int → Int) → Prop, (∃ n_6 : Nat, Inv_5 n_6 0 M_near M_degree M_mine) ∧ ∀ (n_7 : Nat) (x4_10 : Int) (M_near_11 : Int → Int) (M_degree_12 : Int → Int) (M_mine_13 : Int → Int), inR x4_10 → Inv_5 n_7 x4_10 M_near_11 M_degree_12 M_mine_13 → ((M_cells_4 ≤ x4_10 → (P_X12_noReason (fun (M_grade_16 : Int) (M_reasons_17 : Int) (M_total_18 : Int) => (P_X12_closeAll (fun (M_state_19 : Int → Int) => (post x1 x2 M_cells_4 x3 1 3 0 M_grade_16 M_reasons_17 M_total_18 M_near_11 M_degree_12 M_mine_13 M_state_19)) M_cells_4 M_state )) M_grade M_reasons M_total )) ∧ (¬ M_cells_4 ≤ x4_10 → ((0 ≤ x4_10 ∧ x4_10 < 144) ∧ (∀ M_degree_21 : Int → Int, M_degree_21 = upZ M_degree_12 x4_10 0 → ((0 ≤ x4_10 ∧ x4_10 < 144) ∧ (∀ M_mine_23 : Int → Int, M_mine_23 = upZ M_mine_13 x4_10 0 → (∃ Inv_24 : Nat → (Int) → (Int → Int) → (Int → Int) → Prop, (∃ n_25 : Nat, Inv_24 n_25 0 M_near_11 M_degree_21) ∧ ∀ (n_26 : Nat) (x5_29 : Int) (M_near_30 : Int → Int) (M_degree_31 : Int → Int), inR x5_29 → Inv_24 n_26 x5_29 M_near_30 M_degree_31 → ((M_cells_4 ≤ x5_29 → (inR (x4_10 + 1) ∧ (∀ x4_35 : Int, x4_35 = (x4_10 + 1) → (∃ n_36 : Nat, n_36 < n_7 ∧ Inv_5 n_36 x4_35 M_near_30 M_degree_31 M_mine_23)))) ∧ (¬ M_cells_4 ≤ x5_29 → (P_X12_areNear (fun (c_37 : Int) => (c_37 = 0 ∨ c_37 = 1) → (∃ J_38 : (Int → Int) → (Int → Int) → Prop, ((c_37 = 0 → (J_38 M_near_30 M_degree_31)) ∧ (¬ c_37 = 0 → ((0 ≤ x4_10 ∧ x4_10 < 144) ∧ (∀ v_47 : Int, v_47 = M_degree_31 x4_10 → inR v_47 → ((0 ≤ ((8 * x4_10) + v_47) ∧ ((8 * x4_10) + v_47) < 1152) ∧ (∀ M_near_49 : Int → Int, M_near_49 = upZ M_near_30 ((8 * x4_10) + v_47) x5_29 → ((0 ≤ x4_10 ∧ x4_10 < 144) ∧ (∀ v_51 : Int, v_51 = M_degree_31 x4_10 → inR v_51 → ((0 ≤ x4_10 ∧ x4_10 < 144) ∧ (inR (v_51 + 1) ∧ (∀ M_degree_54 : Int → Int, M_degree_54 = upZ M_degree_31 x4_10 (v_51 + 1) → (J_38 M_near_49 M_degree_54)))))))))))) ∧ (∀ (M_near_40 : Int → Int) (M_degree_41 : Int → Int), J_38 M_near_40 M_degree_41 → (inR (x5_29 + 1) ∧ (∀ x5_43 : Int, x5_43 = (x5_29 + 1) → (∃ n_44 : Nat, n_44 < n_26 ∧ Inv_24 n_44 x5_43 M_near_40 M_degree_41)))))) x1 x2 x3 x4_10 x5_29))))))))))))
set_option maxRecDepth 100000 in
set_option maxHeartbeats 4000000 in
theorem c_X12_setUp (l : Launch) (K : wK) (ad : Nat → Nat) {M_thrown : Int} {M_w : Int} {M_h : Int} {M_cells : Int} {M_shape : Int} {M_isBoard : Int} {M_isBlank : Int} {M_lives : Int} {M_moves : Int} {M_parts : Int} {M_numbers : Int} {M_grade : Int} {M_reasons : Int} {M_total : Int} {M_near : Int → Int} {M_degree : Int → Int} {M_mine : Int → Int} {M_state : Int → Int} {M_history : Int → Int64} {M_oldLives : Int → Int} {M_safe : Int → Int} {M_mined : Int → Int} {M_used : Int → Int} {M_partOf : Int → Int} {M_placeOf : Int → Int} {M_partSize : Int → Int} {M_ways : Int → Int} {M_with : Int → Int} {M_masks : Int → Int} {M_rests : Int → Int} {M_bits : Int → Int} {M_reach : Int → Int} {M_more : Int → Int} {M_reason : Int → Int} {M_big : Int → Int64} {M_region : Int → Int} (x1 : Int) (x2 : Int) (x3 : Int) (rx1 : inR x1) (rx2 : inR x2) (rx3 : inR x3) (post : (Int) → (Int) → (Int) → (Int) → (Int) → (Int) → (Int) → (Int) → (Int) → (Int) → (Int → Int) → (Int → Int) → (Int → Int) → (Int → Int) → Prop) (h : P_X12_setUp post M_w M_h M_cells M_shape M_isBoard M_lives M_moves M_grade M_reasons M_total M_near M_degree M_mine M_state x1 x2 x3) : mV l yX12_setUp (Cond.code yX12_setUp cX12_setUp 6 none :: GT) ({ frames := 5, cells := 0, slots := 0, locals := 300 } : Room) [.ref (ad 0), .int (iI x1), .int (iI x2), .int (iI x3)] K ad (mW M_thrown M_w M_h M_cells M_shape M_isBoard M_isBlank M_lives M_moves M_parts M_numbers M_grade M_reasons M_total M_near M_degree M_mine M_state M_history M_oldLives M_safe M_mined M_used M_partOf M_placeOf M_partSize M_ways M_with M_masks M_rests M_bits M_reach M_more M_reason M_big M_region) (fun u9 => ∃ M_w9 M_h9 M_cells9 M_shape9 M_isBoard9 M_lives9 M_moves9 M_grade9 M_reasons9 M_total9 M_near9 M_degree9 M_mine9 M_state9, u9 = (mW M_thrown M_w9 M_h9 M_cells9 M_shape9 M_isBoard9 M_isBlank M_lives9 M_moves9 M_parts M_numbers M_grade9 M_reasons9 M_total9 M_near9 M_degree9 M_mine9 M_state9 M_history M_oldLives M_safe M_mined M_used M_partOf M_placeOf M_partSize M_ways M_with M_masks M_rests M_bits M_reach M_more M_reason M_big M_region) ∧ post M_w9 M_h9 M_cells9 M_shape9 M_isBoard9 M_lives9 M_moves9 M_grade9 M_reasons9 M_total9 M_near9 M_degree9 M_mine9 M_state9) := by
  refine mV_of (lv0 := [(0, .ref (ad 0)), (1, .int (iI x1)), (2, .int (iI x2)), (3, .int (iI x3))]) (by decide) (Nat.le_of_ble_eq_true rfl) rfl ?_
  intro p e s m args below meth c Q A C ret
  replace C : Cx p ({ frames := 5, cells := 0, slots := 0, locals := 300 } : Room) m c 0 0 cX12_setUp 6 s args RX12 K A := C
  unfold P_X12_setUp at h
  refine wa_aload_n C 0 rfl dX12_setUp_0 rfl ?_
  refine wa_iload_n C 1 rfl dX12_setUp_1 rfl ?_
  refine wa_putI C (ws' := (mW M_thrown x1 M_h M_cells M_shape M_isBoard M_isBlank M_lives M_moves M_parts M_numbers M_grade M_reasons M_total M_near M_degree M_mine M_state M_history M_oldLives M_safe M_mined M_used M_partOf M_placeOf M_partSize M_ways M_with M_masks M_rests M_bits M_reach M_more M_reason M_big M_region)) 0 1 mW_0 rfl (by decide) okX12 gw_1233 rfl rfl (Nat.le_of_ble_eq_true rfl) rx1 (mWp_0_1 _) dX12_setUp_2 ?_
  refine wa_aload_n C 0 rfl dX12_setUp_5 rfl ?_
  refine wa_iload_n C 2 rfl dX12_setUp_6 rfl ?_
  refine wa_putI C (ws' := (mW M_thrown x1 x2 M_cells M_shape M_isBoard M_isBlank M_lives M_moves M_parts M_numbers M_grade M_reasons M_total M_near M_degree M_mine M_state M_history M_oldLives M_safe M_mined M_used M_partOf M_placeOf M_partSize M_ways M_with M_masks M_rests M_bits M_reach M_more M_reason M_big M_region)) 0 2 mW_0 rfl (by decide) okX12 gw_1234 rfl rfl (Nat.le_of_ble_eq_true rfl) rx2 (mWp_0_2 _) dX12_setUp_7 ?_
  refine wa_aload_n C 0 rfl dX12_setUp_10 rfl ?_
  refine wa_iload_n C 3 rfl dX12_setUp_11 rfl ?_
  refine wa_putI C (ws' := (mW M_thrown x1 x2 M_cells x3 M_isBoard M_isBlank M_lives M_moves M_parts M_numbers M_grade M_reasons M_total M_near M_degree M_mine M_state M_history M_oldLives M_safe M_mined M_used M_partOf M_placeOf M_partSize M_ways M_with M_masks M_rests M_bits M_reach M_more M_reason M_big M_region)) 0 4 mW_0 rfl (by decide) okX12 gw_1236 rfl rfl (Nat.le_of_ble_eq_true rfl) rx3 (mWp_0_4 _) dX12_setUp_12 ?_
  refine wa_aload_n C 0 rfl dX12_setUp_15 rfl ?_
  refine wa_aload_n C 0 rfl dX12_setUp_16 rfl ?_
  refine wa_getI C 0 1 mW_0 rfl rfl (by decide) okX12 gw_1233 dX12_setUp_17 (fun r_1 => ?_)
  refine wa_aload_n C 0 rfl dX12_setUp_20 rfl ?_
  refine wa_getI C 0 2 mW_0 rfl rfl (by decide) okX12 gw_1234 dX12_setUp_21 (fun r_2 => ?_)
  refine wa_imul C dX12_setUp_24 ?_
  obtain ⟨r_3, h⟩ := h
  refine wa_nmi (fun M_cells_4 eM_cells_4 => ?_)
  replace h := h M_cells_4 eM_cells_4
  have rM_cells_4 : inR M_cells_4 := by rw [eM_cells_4]; exact r_3
  refine wa_putI C (ws' := (mW M_thrown x1 x2 M_cells_4 x3 M_isBoard M_isBlank M_lives M_moves M_parts M_numbers M_grade M_reasons M_total M_near M_degree M_mine M_state M_history M_oldLives M_safe M_mined M_used M_partOf M_placeOf M_partSize M_ways M_with M_masks M_rests M_bits M_reach M_more M_reason M_big M_region)) 0 3 mW_0 rfl (by decide) okX12 gw_1235 rfl rfl (Nat.le_of_ble_eq_true rfl) rM_cells_4 (mWp_0_3 _) dX12_setUp_25 ?_
  refine wa_iconst C (z := 0) dX12_setUp_28 rfl ?_
  refine wa_istore C dX12_setUp_29 (by decide) rfl ?_
  obtain ⟨Inv_5, ⟨n_6, h0Inv_5⟩, hInv_5⟩ := h
  have k_9 : ∀ (n_7 : Nat) (x4_10 : Int) (M_near_11 : Int → Int) (M_degree_12 : Int → Int) (M_mine_13 : Int → Int), inR x4_10 → Inv_5 n_7 x4_10 M_near_11 M_degree_12 M_mine_13 → WA p l e ({ frames := 5, cells := 0, slots := 0, locals := 300 } : Room) s m args below meth c 0 0 Q K ad 6 A 31 [(0, .ref (ad 0)), (4, .int (iI x4_10))] [] (mW M_thrown x1 x2 M_cells_4 x3 M_isBoard M_isBlank M_lives M_moves M_parts M_numbers M_grade M_reasons M_total M_near_11 M_degree_12 M_mine_13 M_state M_history M_oldLives M_safe M_mined M_used M_partOf M_placeOf M_partSize M_ways M_with M_masks M_rests M_bits M_reach M_more M_reason M_big M_region) := by
    intro n_7
    induction n_7 using Nat.strongRecOn with
    | ind n_7 ih_8 =>
      intro x4_10 M_near_11 M_degree_12 M_mine_13 rx4_10 h
      replace h := hInv_5 n_7 x4_10 M_near_11 M_degree_12 M_mine_13 rx4_10 h
      refine wa_iload C 1 rfl dX12_setUp_31 ?_
      refine wa_aload_n C 0 rfl dX12_setUp_33 rfl ?_
      refine wa_getI C 0 3 mW_0 rfl rfl (by decide) okX12 gw_1235 dX12_setUp_34 (fun r_14 => ?_)
      refine wa_icmp_ge C (tgt := 122) rx4_10 rM_cells_4 dX12_setUp_37 (by decide) (fun c_15 => ?_) (fun c_15 => ?_)
      · replace h := h.1 c_15
        refine wa_aload_n C 0 rfl dX12_setUp_122 rfl ?_
        refine wa_callVv C (k := 0) (As := []) (rest := []) (c_X12_noReason l K ad  _ h) gw_1377 gw_1374 mW_0 rfl gw_1376 gs_55 gw_12 q_X12_noReason rfl rfl rfl ⟨by decide, by decide⟩ rfl (Nat.le_of_ble_eq_true rfl) dX12_setUp_123 (fun u9 hp => ?_)
        obtain ⟨M_grade_16, M_reasons_17, M_total_18, rfl, h⟩ := hp
        refine wa_aload_n C 0 rfl dX12_setUp_126 rfl ?_
        refine wa_iconst C (z := 0) dX12_setUp_127 rfl ?_
        refine wa_putI C (ws' := (mW M_thrown x1 x2 M_cells_4 x3 M_isBoard M_isBlank M_lives 0 M_parts M_numbers M_grade_16 M_reasons_17 M_total_18 M_near_11 M_degree_12 M_mine_13 M_state M_history M_oldLives M_safe M_mined M_used M_partOf M_placeOf M_partSize M_ways M_with M_masks M_rests M_bits M_reach M_more M_reason M_big M_region)) 0 12 mW_0 rfl (by decide) okX12 gw_1244 rfl rfl (Nat.le_of_ble_eq_true rfl) (inR_k 0 rfl) (mWp_0_12 _) dX12_setUp_128 ?_
        refine wa_aload_n C 0 rfl dX12_setUp_131 rfl ?_
        refine wa_iconst C (z := 3) dX12_setUp_132 rfl ?_
        refine wa_putI C (ws' := (mW M_thrown x1 x2 M_cells_4 x3 M_isBoard M_isBlank 3 0 M_parts M_numbers M_grade_16 M_reasons_17 M_total_18 M_near_11 M_degree_12 M_mine_13 M_state M_history M_oldLives M_safe M_mined M_used M_partOf M_placeOf M_partSize M_ways M_with M_masks M_rests M_bits M_reach M_more M_reason M_big M_region)) 0 11 mW_0 rfl (by decide) okX12 gw_1243 rfl rfl (Nat.le_of_ble_eq_true rfl) (inR_k 3 rfl) (mWp_0_11 _) dX12_setUp_133 ?_
        refine wa_aload_n C 0 rfl dX12_setUp_136 rfl ?_
        refine wa_callVv C (k := 0) (As := []) (rest := []) (c_X12_closeAll l K ad  _ h) gw_1381 gw_1378 mW_0 rfl gw_1380 gs_56 gw_12 q_X12_closeAll rfl rfl rfl ⟨by decide, by decide⟩ rfl (Nat.le_of_ble_eq_true rfl) dX12_setUp_137 (fun u9 hp => ?_)
        obtain ⟨M_state_19, rfl, h⟩ := hp
        refine wa_aload_n C 0 rfl dX12_setUp_140 rfl ?_
        refine wa_iconst C (z := 1) dX12_setUp_141 rfl ?_
        refine wa_putZ C (ws' := (mW M_thrown x1 x2 M_cells_4 x3 1 M_isBlank 3 0 M_parts M_numbers M_grade_16 M_reasons_17 M_total_18 M_near_11 M_degree_12 M_mine_13 M_state_19 M_history M_oldLives M_safe M_mined M_used M_partOf M_placeOf M_partSize M_ways M_with M_masks M_rests M_bits M_reach M_more M_reason M_big M_region)) 0 5 mW_0 rfl (by decide) okX12 gw_1237 rfl rfl (Nat.le_of_ble_eq_true rfl) (Or.inr rfl) (mWp_0_5 _) dX12_setUp_142 ?_
        exact ret dX12_setUp_145 ⟨_, _, _, _, _, _, _, _, _, _, _, _, _, _, rfl, h⟩
      · replace h := h.2 c_15
        refine wa_aload_n C 0 rfl dX12_setUp_40 rfl ?_
        refine wa_getR C 0 8 mW_0 rfl rfl (by decide) okX12 gw_1240 dX12_setUp_41 ?_
        refine wa_iload C 1 rfl dX12_setUp_44 ?_
        refine wa_iconst C (z := 0) dX12_setUp_46 rfl ?_
        obtain ⟨t_20, h⟩ := h
        refine wa_iast C (ws' := fun w9 => (mW M_thrown x1 x2 M_cells_4 x3 M_isBoard M_isBlank M_lives M_moves M_parts M_numbers M_grade M_reasons M_total M_near_11 w9 M_mine_13 M_state M_history M_oldLives M_safe M_mined M_used M_partOf M_placeOf M_partSize M_ways M_with M_masks M_rests M_bits M_reach M_more M_reason M_big M_region)) 2 mW_2 dX12_setUp_47 t_20.1 t_20.2 (inR_k 0 rfl) mWs_2 (fun M_degree_21 eM_degree_21 => ?_)
        replace h := h M_degree_21 eM_degree_21
        refine wa_aload_n C 0 rfl dX12_setUp_48 rfl ?_
        refine wa_getR C 0 9 mW_0 rfl rfl (by decide) okX12 gw_1241 dX12_setUp_49 ?_
        refine wa_iload C 1 rfl dX12_setUp_52 ?_
        refine wa_iconst C (z := 0) dX12_setUp_54 rfl ?_
        obtain ⟨t_22, h⟩ := h
        refine wa_bast C (ws' := fun w9 => (mW M_thrown x1 x2 M_cells_4 x3 M_isBoard M_isBlank M_lives M_moves M_parts M_numbers M_grade M_reasons M_total M_near_11 M_degree_21 w9 M_state M_history M_oldLives M_safe M_mined M_used M_partOf M_placeOf M_partSize M_ways M_with M_masks M_rests M_bits M_reach M_more M_reason M_big M_region)) 3 mW_3 dX12_setUp_55 t_22.1 t_22.2 (Or.inl rfl) mWs_3 (fun M_mine_23 eM_mine_23 => ?_)
        replace h := h M_mine_23 eM_mine_23
        refine wa_iconst C (z := 0) dX12_setUp_56 rfl ?_
        refine wa_istore C dX12_setUp_57 (by decide) rfl ?_
        obtain ⟨Inv_24, ⟨n_25, h0Inv_24⟩, hInv_24⟩ := h
        have k_28 : ∀ (n_26 : Nat) (x5_29 : Int) (M_near_30 : Int → Int) (M_degree_31 : Int → Int), inR x5_29 → Inv_24 n_26 x5_29 M_near_30 M_degree_31 → WA p l e ({ frames := 5, cells := 0, slots := 0, locals := 300 } : Room) s m args below meth c 0 0 Q K ad 6 A 59 [(0, .ref (ad 0)), (4, .int (iI x4_10)), (5, .int (iI x5_29))] [] (mW M_thrown x1 x2 M_cells_4 x3 M_isBoard M_isBlank M_lives M_moves M_parts M_numbers M_grade M_reasons M_total M_near_30 M_degree_31 M_mine_23 M_state M_history M_oldLives M_safe M_mined M_used M_partOf M_placeOf M_partSize M_ways M_with M_masks M_rests M_bits M_reach M_more M_reason M_big M_region) := by
          intro n_26
          induction n_26 using Nat.strongRecOn with
          | ind n_26 ih_27 =>
            intro x5_29 M_near_30 M_degree_31 rx5_29 h
            replace h := hInv_24 n_26 x5_29 M_near_30 M_degree_31 rx5_29 h
            refine wa_iload C 2 rfl dX12_setUp_59 ?_
            refine wa_aload_n C 0 rfl dX12_setUp_61 rfl ?_
            refine wa_getI C 0 3 mW_0 rfl rfl (by decide) okX12 gw_1235 dX12_setUp_62 (fun r_32 => ?_)
            refine wa_icmp_ge C (tgt := 116) rx5_29 rM_cells_4 dX12_setUp_65 (by decide) (fun c_33 => ?_) (fun c_33 => ?_)
            · replace h := h.1 c_33
              obtain ⟨r_34, h⟩ := h
              refine wa_iinc C (lv' := fun w9 => [(4, .int (iI w9)), (0, .ref (ad 0)), (5, .int (iI x5_29))]) 1 rfl dX12_setUp_116 (by decide) (fun _ => rfl) (fun x4_35 ex4_35 => ?_)
              replace h := h x4_35 ex4_35
              have rx4_35 : inR x4_35 := by rw [ex4_35]; exact r_34
              refine wa_goto C (tgt := 31) dX12_setUp_119 (by decide) ?_
              obtain ⟨n_36, ln_36, h⟩ := h
              refine wa_sub C [1, 0] rfl ?_
              exact ih_8 n_36 ln_36 x4_35 M_near_30 M_degree_31 M_mine_23 rx4_35 h
            · replace h := h.2 c_33
              refine wa_aload_n C 0 rfl dX12_setUp_68 rfl ?_
              refine wa_iload C 1 rfl dX12_setUp_69 ?_
              refine wa_iload C 2 rfl dX12_setUp_71 ?_
              refine wa_callVi C (k := 0) (As := [.int (iI x4_10), .int (iI x5_29)]) (rest := []) (c_X12_areNear l K ad x4_10 x5_29 rx4_10 rx5_29 _ h) gw_1373 gw_1370 mW_0 rfl gw_1372 gs_54 gw_12 q_X12_areNear rfl rfl rfl ⟨by decide, by decide⟩ rfl (Nat.le_of_ble_eq_true rfl) dX12_setUp_73 (fun c_37 u9 rc_37 hp => ?_)
              obtain ⟨bc_37, rfl, h⟩ := hp
              replace h := h bc_37
              obtain ⟨J_38, h, hJ_38⟩ := h
              have k_39 : ∀ (M_near_40 : Int → Int) (M_degree_41 : Int → Int), J_38 M_near_40 M_degree_41 → WA p l e ({ frames := 5, cells := 0, slots := 0, locals := 300 } : Room) s m args below meth c 0 0 Q K ad 6 A 110 [(0, .ref (ad 0)), (4, .int (iI x4_10)), (5, .int (iI x5_29))] [] (mW M_thrown x1 x2 M_cells_4 x3 M_isBoard M_isBlank M_lives M_moves M_parts M_numbers M_grade M_reasons M_total M_near_40 M_degree_41 M_mine_23 M_state M_history M_oldLives M_safe M_mined M_used M_partOf M_placeOf M_partSize M_ways M_with M_masks M_rests M_bits M_reach M_more M_reason M_big M_region) := by
                intro M_near_40 M_degree_41 h
                replace h := hJ_38 M_near_40 M_degree_41 h
                obtain ⟨r_42, h⟩ := h
                refine wa_iinc C (lv' := fun w9 => [(5, .int (iI w9)), (0, .ref (ad 0)), (4, .int (iI x4_10))]) 2 rfl dX12_setUp_110 (by decide) (fun _ => rfl) (fun x5_43 ex5_43 => ?_)
                replace h := h x5_43 ex5_43
                have rx5_43 : inR x5_43 := by rw [ex5_43]; exact r_42
                refine wa_goto C (tgt := 59) dX12_setUp_113 (by decide) ?_
                obtain ⟨n_44, ln_44, h⟩ := h
                refine wa_sub C [1, 2, 0] rfl ?_
                exact ih_27 n_44 ln_44 x5_43 M_near_40 M_degree_41 rx5_43 h
              refine wa_if_eq C (tgt := 110) (inR_b bc_37) dX12_setUp_76 (by decide) (fun c_45 => ?_) (fun c_45 => ?_)
              · replace h := h.1 c_45
                refine wa_sub C [0, 1, 2] rfl ?_
                exact k_39 M_near_30 M_degree_31 h
              · replace h := h.2 c_45
                refine wa_aload_n C 0 rfl dX12_setUp_79 rfl ?_
                refine wa_getR C 0 7 mW_0 rfl rfl (by decide) okX12 gw_1239 dX12_setUp_80 ?_
                refine wa_bipush C (z := 8) dX12_setUp_83 (by decide) ?_
                refine wa_iload C 1 rfl dX12_setUp_85 ?_
                refine wa_imul C dX12_setUp_87 ?_
                refine wa_aload_n C 0 rfl dX12_setUp_88 rfl ?_
                refine wa_getR C 0 8 mW_0 rfl rfl (by decide) okX12 gw_1240 dX12_setUp_89 ?_
                refine wa_iload C 1 rfl dX12_setUp_92 ?_
                obtain ⟨t_46, h⟩ := h
                refine wa_iald C 2 mW_2 dX12_setUp_94 t_46.1 t_46.2 (fun v_47 ev_47 rv_47 => ?_)
                replace h := h v_47 ev_47 rv_47
                refine wa_iadd C dX12_setUp_95 ?_
                refine wa_iload C 2 rfl dX12_setUp_96 ?_
                obtain ⟨t_48, h⟩ := h
                refine wa_iast C (ws' := fun w9 => (mW M_thrown x1 x2 M_cells_4 x3 M_isBoard M_isBlank M_lives M_moves M_parts M_numbers M_grade M_reasons M_total w9 M_degree_31 M_mine_23 M_state M_history M_oldLives M_safe M_mined M_used M_partOf M_placeOf M_partSize M_ways M_with M_masks M_rests M_bits M_reach M_more M_reason M_big M_region)) 1 mW_1 dX12_setUp_98 t_48.1 t_48.2 rx5_29 mWs_1 (fun M_near_49 eM_near_49 => ?_)
                replace h := h M_near_49 eM_near_49
                refine wa_aload_n C 0 rfl dX12_setUp_99 rfl ?_
                refine wa_getR C 0 8 mW_0 rfl rfl (by decide) okX12 gw_1240 dX12_setUp_100 ?_
                refine wa_iload C 1 rfl dX12_setUp_103 ?_
                refine wa_dup2 C dX12_setUp_105 rfl rfl ?_
                obtain ⟨t_50, h⟩ := h
                refine wa_iald C 2 mW_2 dX12_setUp_106 t_50.1 t_50.2 (fun v_51 ev_51 rv_51 => ?_)
                replace h := h v_51 ev_51 rv_51
                refine wa_iconst C (z := 1) dX12_setUp_107 rfl ?_
                refine wa_iadd C dX12_setUp_108 ?_
                obtain ⟨t_52, h⟩ := h
                obtain ⟨r_53, h⟩ := h
                refine wa_iast C (ws' := fun w9 => (mW M_thrown x1 x2 M_cells_4 x3 M_isBoard M_isBlank M_lives M_moves M_parts M_numbers M_grade M_reasons M_total M_near_49 w9 M_mine_23 M_state M_history M_oldLives M_safe M_mined M_used M_partOf M_placeOf M_partSize M_ways M_with M_masks M_rests M_bits M_reach M_more M_reason M_big M_region)) 2 mW_2 dX12_setUp_109 t_52.1 t_52.2 r_53 mWs_2 (fun M_degree_54 eM_degree_54 => ?_)
                replace h := h M_degree_54 eM_degree_54
                refine wa_sub C [0, 1, 2] rfl ?_
                exact k_39 M_near_49 M_degree_54 h
        refine wa_sub C [1, 2, 0] rfl ?_
        exact k_28 n_25 0 M_near_11 M_degree_21 (inR_k 0 rfl) h0Inv_24
  refine wa_sub C [1, 0] rfl ?_
  exact k_9 n_6 0 M_near M_degree M_mine (inR_k 0 rfl) h0Inv_5
def P_X12_numberOf (post : Int → Prop) (M_near : Int → Int) (M_degree : Int → Int) (M_mine : Int → Int) (x1 : Int) : Prop :=
  ∃ Inv_1 : Nat → (Int) → (Int) → Prop, (∃ n_2 : Nat, Inv_1 n_2 0 0) ∧ ∀ (n_3 : Nat) (x2_6 : Int) (x3_7 : Int), inR x2_6 → inR x3_7 → Inv_1 n_3 x2_6 x3_7 → ((0 ≤ x1 ∧ x1 < 144) ∧ (∀ v_9 : Int, v_9 = M_degree x1 → inR v_9 → ((v_9 ≤ x3_7 → (post x2_6)) ∧ (¬ v_9 ≤ x3_7 → ((0 ≤ ((8 * x1) + x3_7) ∧ ((8 * x1) + x3_7) < 1152) ∧ (∀ v_12 : Int, v_12 = M_near ((8 * x1) + x3_7) → inR v_12 → ((0 ≤ v_12 ∧ v_12 < 144) ∧ (∀ v_14 : Int, v_14 = M_mine v_12 → (v_14 = 0 ∨ v_14 = 1) → (∃ J_15 : (Int) → Prop, ((v_14 = 0 → (J_15 0)) ∧ (¬ v_14 = 0 → (J_15 1))) ∧ (∀ (z_17 : Int), inR z_17 → J_15 z_17 → (inR (x2_6 + z_17) ∧ (∀ x2_19 : Int, x2_19 = (x2_6 + z_17) → (inR (x3_7 + 1) ∧ (∀ x3_21 : Int, x3_21 = (x3_7 + 1) → (∃ n_22 : Nat, n_22 < n_3 ∧ Inv_1 n_22 x2_19 x3_21)))))))))))))))
set_option maxRecDepth 100000 in
set_option maxHeartbeats 4000000 in
theorem c_X12_numberOf (l : Launch) (K : wK) (ad : Nat → Nat) {M_thrown : Int} {M_w : Int} {M_h : Int} {M_cells : Int} {M_shape : Int} {M_isBoard : Int} {M_isBlank : Int} {M_lives : Int} {M_moves : Int} {M_parts : Int} {M_numbers : Int} {M_grade : Int} {M_reasons : Int} {M_total : Int} {M_near : Int → Int} {M_degree : Int → Int} {M_mine : Int → Int} {M_state : Int → Int} {M_history : Int → Int64} {M_oldLives : Int → Int} {M_safe : Int → Int} {M_mined : Int → Int} {M_used : Int → Int} {M_partOf : Int → Int} {M_placeOf : Int → Int} {M_partSize : Int → Int} {M_ways : Int → Int} {M_with : Int → Int} {M_masks : Int → Int} {M_rests : Int → Int} {M_bits : Int → Int} {M_reach : Int → Int} {M_more : Int → Int} {M_reason : Int → Int} {M_big : Int → Int64} {M_region : Int → Int} (x1 : Int) (rx1 : inR x1) (post : Int → Prop) (h : P_X12_numberOf post M_near M_degree M_mine x1) : mI l yX12_numberOf (Cond.code yX12_numberOf cX12_numberOf 4 (some .int) :: GT) ({ frames := 2, cells := 0, slots := 0, locals := 120 } : Room) [.ref (ad 0), .int (iI x1)] K ad (mW M_thrown M_w M_h M_cells M_shape M_isBoard M_isBlank M_lives M_moves M_parts M_numbers M_grade M_reasons M_total M_near M_degree M_mine M_state M_history M_oldLives M_safe M_mined M_used M_partOf M_placeOf M_partSize M_ways M_with M_masks M_rests M_bits M_reach M_more M_reason M_big M_region) (fun z9 u9 => u9 = (mW M_thrown M_w M_h M_cells M_shape M_isBoard M_isBlank M_lives M_moves M_parts M_numbers M_grade M_reasons M_total M_near M_degree M_mine M_state M_history M_oldLives M_safe M_mined M_used M_partOf M_placeOf M_partSize M_ways M_with M_masks M_rests M_bits M_reach M_more M_reason M_big M_region) ∧ post z9) := by
  refine mI_of (lv0 := [(0, .ref (ad 0)), (1, .int (iI x1))]) (by decide) (Nat.le_of_ble_eq_true rfl) rfl ?_
  intro p e s m args below meth c Q A C ret
  replace C : Cx p ({ frames := 2, cells := 0, slots := 0, locals := 120 } : Room) m c 0 0 cX12_numberOf 4 s args RX12 K A := C
  unfold P_X12_numberOf at h
  refine wa_iconst C (z := 0) dX12_numberOf_0 rfl ?_
  refine wa_istore_n C dX12_numberOf_1 rfl (by decide) rfl ?_
  refine wa_iconst C (z := 0) dX12_numberOf_2 rfl ?_
  refine wa_istore_n C dX12_numberOf_3 rfl (by decide) rfl ?_
  obtain ⟨Inv_1, ⟨n_2, h0Inv_1⟩, hInv_1⟩ := h
  have k_5 : ∀ (n_3 : Nat) (x2_6 : Int) (x3_7 : Int), inR x2_6 → inR x3_7 → Inv_1 n_3 x2_6 x3_7 → WA p l e ({ frames := 2, cells := 0, slots := 0, locals := 120 } : Room) s m args below meth c 0 0 Q K ad 4 A 4 [(0, .ref (ad 0)), (1, .int (iI x1)), (2, .int (iI x2_6)), (3, .int (iI x3_7))] [] (mW M_thrown M_w M_h M_cells M_shape M_isBoard M_isBlank M_lives M_moves M_parts M_numbers M_grade M_reasons M_total M_near M_degree M_mine M_state M_history M_oldLives M_safe M_mined M_used M_partOf M_placeOf M_partSize M_ways M_with M_masks M_rests M_bits M_reach M_more M_reason M_big M_region) := by
    intro n_3
    induction n_3 using Nat.strongRecOn with
    | ind n_3 ih_4 =>
      intro x2_6 x3_7 rx2_6 rx3_7 h
      replace h := hInv_1 n_3 x2_6 x3_7 rx2_6 rx3_7 h
      refine wa_iload_n C 3 rfl dX12_numberOf_4 rfl ?_
      refine wa_aload_n C 0 rfl dX12_numberOf_5 rfl ?_
      refine wa_getR C 0 8 mW_0 rfl rfl (by decide) okX12 gw_1240 dX12_numberOf_6 ?_
      refine wa_iload_n C 1 rfl dX12_numberOf_9 rfl ?_
      obtain ⟨t_8, h⟩ := h
      refine wa_iald C 2 mW_2 dX12_numberOf_10 t_8.1 t_8.2 (fun v_9 ev_9 rv_9 => ?_)
      replace h := h v_9 ev_9 rv_9
      refine wa_icmp_ge C (tgt := 47) rx3_7 rv_9 dX12_numberOf_11 (by decide) (fun c_10 => ?_) (fun c_10 => ?_)
      · replace h := h.1 c_10
        refine wa_iload_n C 2 rfl dX12_numberOf_47 rfl ?_
        exact ret dX12_numberOf_48 rx2_6 ⟨rfl, h⟩
      · replace h := h.2 c_10
        refine wa_iload_n C 2 rfl dX12_numberOf_14 rfl ?_
        refine wa_aload_n C 0 rfl dX12_numberOf_15 rfl ?_
        refine wa_getR C 0 9 mW_0 rfl rfl (by decide) okX12 gw_1241 dX12_numberOf_16 ?_
        refine wa_aload_n C 0 rfl dX12_numberOf_19 rfl ?_
        refine wa_getR C 0 7 mW_0 rfl rfl (by decide) okX12 gw_1239 dX12_numberOf_20 ?_
        refine wa_bipush C (z := 8) dX12_numberOf_23 (by decide) ?_
        refine wa_iload_n C 1 rfl dX12_numberOf_25 rfl ?_
        refine wa_imul C dX12_numberOf_26 ?_
        refine wa_iload_n C 3 rfl dX12_numberOf_27 rfl ?_
        refine wa_iadd C dX12_numberOf_28 ?_
        obtain ⟨t_11, h⟩ := h
        refine wa_iald C 1 mW_1 dX12_numberOf_29 t_11.1 t_11.2 (fun v_12 ev_12 rv_12 => ?_)
        replace h := h v_12 ev_12 rv_12
        obtain ⟨t_13, h⟩ := h
        refine wa_bald C 3 mW_3 dX12_numberOf_30 t_13.1 t_13.2 (fun v_14 ev_14 rv_14 => ?_)
        replace h := h v_14 ev_14 rv_14
        obtain ⟨J_15, h, hJ_15⟩ := h
        have k_16 : ∀ (z_17 : Int), inR z_17 → J_15 z_17 → WA p l e ({ frames := 2, cells := 0, slots := 0, locals := 120 } : Room) s m args below meth c 0 0 Q K ad 4 A 39 [(0, .ref (ad 0)), (1, .int (iI x1)), (3, .int (iI x3_7))] [.int (iI z_17), .int (iI x2_6)] (mW M_thrown M_w M_h M_cells M_shape M_isBoard M_isBlank M_lives M_moves M_parts M_numbers M_grade M_reasons M_total M_near M_degree M_mine M_state M_history M_oldLives M_safe M_mined M_used M_partOf M_placeOf M_partSize M_ways M_with M_masks M_rests M_bits M_reach M_more M_reason M_big M_region) := by
          intro z_17 rz_17 h
          replace h := hJ_15 z_17 rz_17 h
          refine wa_iadd C dX12_numberOf_39 ?_
          obtain ⟨r_18, h⟩ := h
          refine wa_nmi (fun x2_19 ex2_19 => ?_)
          replace h := h x2_19 ex2_19
          have rx2_19 : inR x2_19 := by rw [ex2_19]; exact r_18
          refine wa_istore_n C dX12_numberOf_40 rfl (by decide) rfl ?_
          obtain ⟨r_20, h⟩ := h
          refine wa_iinc C (lv' := fun w9 => [(3, .int (iI w9)), (2, .int (iI x2_19)), (0, .ref (ad 0)), (1, .int (iI x1))]) 3 rfl dX12_numberOf_41 (by decide) (fun _ => rfl) (fun x3_21 ex3_21 => ?_)
          replace h := h x3_21 ex3_21
          have rx3_21 : inR x3_21 := by rw [ex3_21]; exact r_20
          refine wa_goto C (tgt := 4) dX12_numberOf_44 (by decide) ?_
          obtain ⟨n_22, ln_22, h⟩ := h
          refine wa_sub C [2, 3, 1, 0] rfl ?_
          exact ih_4 n_22 ln_22 x2_19 x3_21 rx2_19 rx3_21 h
        refine wa_if_eq C (tgt := 38) (inR_b rv_14) dX12_numberOf_31 (by decide) (fun c_23 => ?_) (fun c_23 => ?_)
        · replace h := h.1 c_23
          refine wa_iconst C (z := 0) dX12_numberOf_38 rfl ?_
          refine wa_sub C [0, 1, 3] rfl ?_
          exact k_16 0 (inR_k 0 rfl) h
        · replace h := h.2 c_23
          refine wa_iconst C (z := 1) dX12_numberOf_34 rfl ?_
          refine wa_goto C (tgt := 39) dX12_numberOf_35 (by decide) ?_
          refine wa_sub C [0, 1, 3] rfl ?_
          exact k_16 1 (inR_k 1 rfl) h
  refine wa_sub C [2, 3, 1, 0] rfl ?_
  exact k_5 n_2 0 0 (inR_k 0 rfl) (inR_k 0 rfl) h0Inv_1
def P_X12_isUnknown (post : Int → Prop) (M_state : Int → Int) (x1 : Int) : Prop :=
  (0 ≤ x1 ∧ x1 < 144) ∧ (∀ v_2 : Int, v_2 = M_state x1 → inR v_2 → (∃ J_3 : (Int) → Prop, (∃ J_7 : Prop, ((v_2 = 0 → (J_7)) ∧ (¬ v_2 = 0 → ((0 ≤ x1 ∧ x1 < 144) ∧ (∀ v_11 : Int, v_11 = M_state x1 → inR v_11 → ((¬ v_11 = 2 → (J_3 0)) ∧ (v_11 = 2 → (J_7))))))) ∧ (J_7 → (J_3 1))) ∧ (∀ (z_5 : Int), inR z_5 → J_3 z_5 → ((z_5 = 0 ∨ z_5 = 1) ∧ (post z_5)))))
set_option maxRecDepth 100000 in
set_option maxHeartbeats 4000000 in
theorem c_X12_isUnknown (l : Launch) (K : wK) (ad : Nat → Nat) {M_thrown : Int} {M_w : Int} {M_h : Int} {M_cells : Int} {M_shape : Int} {M_isBoard : Int} {M_isBlank : Int} {M_lives : Int} {M_moves : Int} {M_parts : Int} {M_numbers : Int} {M_grade : Int} {M_reasons : Int} {M_total : Int} {M_near : Int → Int} {M_degree : Int → Int} {M_mine : Int → Int} {M_state : Int → Int} {M_history : Int → Int64} {M_oldLives : Int → Int} {M_safe : Int → Int} {M_mined : Int → Int} {M_used : Int → Int} {M_partOf : Int → Int} {M_placeOf : Int → Int} {M_partSize : Int → Int} {M_ways : Int → Int} {M_with : Int → Int} {M_masks : Int → Int} {M_rests : Int → Int} {M_bits : Int → Int} {M_reach : Int → Int} {M_more : Int → Int} {M_reason : Int → Int} {M_big : Int → Int64} {M_region : Int → Int} (x1 : Int) (rx1 : inR x1) (post : Int → Prop) (h : P_X12_isUnknown post M_state x1) : mI l yX12_isUnknown (Cond.code yX12_isUnknown cX12_isUnknown 2 (some .boolean) :: GT) ({ frames := 2, cells := 0, slots := 0, locals := 120 } : Room) [.ref (ad 0), .int (iI x1)] K ad (mW M_thrown M_w M_h M_cells M_shape M_isBoard M_isBlank M_lives M_moves M_parts M_numbers M_grade M_reasons M_total M_near M_degree M_mine M_state M_history M_oldLives M_safe M_mined M_used M_partOf M_placeOf M_partSize M_ways M_with M_masks M_rests M_bits M_reach M_more M_reason M_big M_region) (fun z9 u9 => (z9 = 0 ∨ z9 = 1) ∧ u9 = (mW M_thrown M_w M_h M_cells M_shape M_isBoard M_isBlank M_lives M_moves M_parts M_numbers M_grade M_reasons M_total M_near M_degree M_mine M_state M_history M_oldLives M_safe M_mined M_used M_partOf M_placeOf M_partSize M_ways M_with M_masks M_rests M_bits M_reach M_more M_reason M_big M_region) ∧ post z9) := by
  refine mZ_of (lv0 := [(0, .ref (ad 0)), (1, .int (iI x1))]) (by decide) (Nat.le_of_ble_eq_true rfl) rfl ?_
  intro p e s m args below meth c Q A C ret
  replace C : Cx p ({ frames := 2, cells := 0, slots := 0, locals := 120 } : Room) m c 0 0 cX12_isUnknown 2 s args RX12 K A := C
  unfold P_X12_isUnknown at h
  refine wa_aload_n C 0 rfl dX12_isUnknown_0 rfl ?_
  refine wa_getR C 0 10 mW_0 rfl rfl (by decide) okX12 gw_1242 dX12_isUnknown_1 ?_
  refine wa_iload_n C 1 rfl dX12_isUnknown_4 rfl ?_
  obtain ⟨t_1, h⟩ := h
  refine wa_iald C 4 mW_4 dX12_isUnknown_5 t_1.1 t_1.2 (fun v_2 ev_2 rv_2 => ?_)
  replace h := h v_2 ev_2 rv_2
  obtain ⟨J_3, h, hJ_3⟩ := h
  have k_4 : ∀ (z_5 : Int), inR z_5 → J_3 z_5 → WA p l e ({ frames := 2, cells := 0, slots := 0, locals := 120 } : Room) s m args below meth c 0 0 Q K ad 2 A 24 [] [.int (iI z_5)] (mW M_thrown M_w M_h M_cells M_shape M_isBoard M_isBlank M_lives M_moves M_parts M_numbers M_grade M_reasons M_total M_near M_degree M_mine M_state M_history M_oldLives M_safe M_mined M_used M_partOf M_placeOf M_partSize M_ways M_with M_masks M_rests M_bits M_reach M_more M_reason M_big M_region) := by
    intro z_5 rz_5 h
    replace h := hJ_3 z_5 rz_5 h
    obtain ⟨b_6, h⟩ := h
    exact ret dX12_isUnknown_24 b_6 ⟨b_6, rfl, h⟩
  obtain ⟨J_7, h, hJ_7⟩ := h
  have k_8 : J_7 → WA p l e ({ frames := 2, cells := 0, slots := 0, locals := 120 } : Room) s m args below meth c 0 0 Q K ad 2 A 19 [] [] (mW M_thrown M_w M_h M_cells M_shape M_isBoard M_isBlank M_lives M_moves M_parts M_numbers M_grade M_reasons M_total M_near M_degree M_mine M_state M_history M_oldLives M_safe M_mined M_used M_partOf M_placeOf M_partSize M_ways M_with M_masks M_rests M_bits M_reach M_more M_reason M_big M_region) := by
    intro h
    replace h := hJ_7 h
    refine wa_iconst C (z := 1) dX12_isUnknown_19 rfl ?_
    refine wa_goto C (tgt := 24) dX12_isUnknown_20 (by decide) ?_
    refine wa_sub C [] rfl ?_
    exact k_4 1 (inR_k 1 rfl) h
  refine wa_if_eq C (tgt := 19) rv_2 dX12_isUnknown_6 (by decide) (fun c_9 => ?_) (fun c_9 => ?_)
  · replace h := h.1 c_9
    refine wa_sub C [] rfl ?_
    exact k_8 h
  · replace h := h.2 c_9
    refine wa_aload_n C 0 rfl dX12_isUnknown_9 rfl ?_
    refine wa_getR C 0 10 mW_0 rfl rfl (by decide) okX12 gw_1242 dX12_isUnknown_10 ?_
    refine wa_iload_n C 1 rfl dX12_isUnknown_13 rfl ?_
    obtain ⟨t_10, h⟩ := h
    refine wa_iald C 4 mW_4 dX12_isUnknown_14 t_10.1 t_10.2 (fun v_11 ev_11 rv_11 => ?_)
    replace h := h v_11 ev_11 rv_11
    refine wa_iconst C (z := 2) dX12_isUnknown_15 rfl ?_
    refine wa_icmp_ne C (tgt := 23) rv_11 (inR_k 2 rfl) dX12_isUnknown_16 (by decide) (fun c_12 => ?_) (fun c_12 => ?_)
    · replace h := h.1 c_12
      refine wa_iconst C (z := 0) dX12_isUnknown_23 rfl ?_
      refine wa_sub C [] rfl ?_
      exact k_4 0 (inR_k 0 rfl) h
    · replace h := h.2 c_12
      refine wa_sub C [] rfl ?_
      exact k_8 h
def P_X12_around (post : Int → Prop) (M_near : Int → Int) (M_degree : Int → Int) (M_state : Int → Int) (x1 : Int) (x2 : Int) : Prop :=
  ∃ Inv_1 : Nat → (Int) → (Int) → Prop, (∃ n_2 : Nat, Inv_1 n_2 0 0) ∧ ∀ (n_3 : Nat) (x3_6 : Int) (x4_7 : Int), inR x3_6 → inR x4_7 → Inv_1 n_3 x3_6 x4_7 → ((0 ≤ x1 ∧ x1 < 144) ∧ (∀ v_9 : Int, v_9 = M_degree x1 → inR v_9 → ((v_9 ≤ x4_7 → (post x3_6)) ∧ (¬ v_9 ≤ x4_7 → ((0 ≤ ((8 * x1) + x4_7) ∧ ((8 * x1) + x4_7) < 1152) ∧ (∀ v_12 : Int, v_12 = M_near ((8 * x1) + x4_7) → inR v_12 → ((0 ≤ v_12 ∧ v_12 < 144) ∧ (∀ v_14 : Int, v_14 = M_state v_12 → inR v_14 → (∃ J_15 : (Int) → Prop, ((¬ v_14 = x2 → (J_15 0)) ∧ (v_14 = x2 → (J_15 1))) ∧ (∀ (z_17 : Int), inR z_17 → J_15 z_17 → (inR (x3_6 + z_17) ∧ (∀ x3_19 : Int, x3_19 = (x3_6 + z_17) → (inR (x4_7 + 1) ∧ (∀ x4_21 : Int, x4_21 = (x4_7 + 1) → (∃ n_22 : Nat, n_22 < n_3 ∧ Inv_1 n_22 x3_19 x4_21)))))))))))))))
set_option maxRecDepth 100000 in
set_option maxHeartbeats 4000000 in
theorem c_X12_around (l : Launch) (K : wK) (ad : Nat → Nat) {M_thrown : Int} {M_w : Int} {M_h : Int} {M_cells : Int} {M_shape : Int} {M_isBoard : Int} {M_isBlank : Int} {M_lives : Int} {M_moves : Int} {M_parts : Int} {M_numbers : Int} {M_grade : Int} {M_reasons : Int} {M_total : Int} {M_near : Int → Int} {M_degree : Int → Int} {M_mine : Int → Int} {M_state : Int → Int} {M_history : Int → Int64} {M_oldLives : Int → Int} {M_safe : Int → Int} {M_mined : Int → Int} {M_used : Int → Int} {M_partOf : Int → Int} {M_placeOf : Int → Int} {M_partSize : Int → Int} {M_ways : Int → Int} {M_with : Int → Int} {M_masks : Int → Int} {M_rests : Int → Int} {M_bits : Int → Int} {M_reach : Int → Int} {M_more : Int → Int} {M_reason : Int → Int} {M_big : Int → Int64} {M_region : Int → Int} (x1 : Int) (x2 : Int) (rx1 : inR x1) (rx2 : inR x2) (post : Int → Prop) (h : P_X12_around post M_near M_degree M_state x1 x2) : mI l yX12_around (Cond.code yX12_around cX12_around 5 (some .int) :: GT) ({ frames := 2, cells := 0, slots := 0, locals := 120 } : Room) [.ref (ad 0), .int (iI x1), .int (iI x2)] K ad (mW M_thrown M_w M_h M_cells M_shape M_isBoard M_isBlank M_lives M_moves M_parts M_numbers M_grade M_reasons M_total M_near M_degree M_mine M_state M_history M_oldLives M_safe M_mined M_used M_partOf M_placeOf M_partSize M_ways M_with M_masks M_rests M_bits M_reach M_more M_reason M_big M_region) (fun z9 u9 => u9 = (mW M_thrown M_w M_h M_cells M_shape M_isBoard M_isBlank M_lives M_moves M_parts M_numbers M_grade M_reasons M_total M_near M_degree M_mine M_state M_history M_oldLives M_safe M_mined M_used M_partOf M_placeOf M_partSize M_ways M_with M_masks M_rests M_bits M_reach M_more M_reason M_big M_region) ∧ post z9) := by
  refine mI_of (lv0 := [(0, .ref (ad 0)), (1, .int (iI x1)), (2, .int (iI x2))]) (by decide) (Nat.le_of_ble_eq_true rfl) rfl ?_
  intro p e s m args below meth c Q A C ret
  replace C : Cx p ({ frames := 2, cells := 0, slots := 0, locals := 120 } : Room) m c 0 0 cX12_around 5 s args RX12 K A := C
  unfold P_X12_around at h
  refine wa_iconst C (z := 0) dX12_around_0 rfl ?_
  refine wa_istore_n C dX12_around_1 rfl (by decide) rfl ?_
  refine wa_iconst C (z := 0) dX12_around_2 rfl ?_
  refine wa_istore C dX12_around_3 (by decide) rfl ?_
  obtain ⟨Inv_1, ⟨n_2, h0Inv_1⟩, hInv_1⟩ := h
  have k_5 : ∀ (n_3 : Nat) (x3_6 : Int) (x4_7 : Int), inR x3_6 → inR x4_7 → Inv_1 n_3 x3_6 x4_7 → WA p l e ({ frames := 2, cells := 0, slots := 0, locals := 120 } : Room) s m args below meth c 0 0 Q K ad 5 A 5 [(0, .ref (ad 0)), (1, .int (iI x1)), (2, .int (iI x2)), (3, .int (iI x3_6)), (4, .int (iI x4_7))] [] (mW M_thrown M_w M_h M_cells M_shape M_isBoard M_isBlank M_lives M_moves M_parts M_numbers M_grade M_reasons M_total M_near M_degree M_mine M_state M_history M_oldLives M_safe M_mined M_used M_partOf M_placeOf M_partSize M_ways M_with M_masks M_rests M_bits M_reach M_more M_reason M_big M_region) := by
    intro n_3
    induction n_3 using Nat.strongRecOn with
    | ind n_3 ih_4 =>
      intro x3_6 x4_7 rx3_6 rx4_7 h
      replace h := hInv_1 n_3 x3_6 x4_7 rx3_6 rx4_7 h
      refine wa_iload C 4 rfl dX12_around_5 ?_
      refine wa_aload_n C 0 rfl dX12_around_7 rfl ?_
      refine wa_getR C 0 8 mW_0 rfl rfl (by decide) okX12 gw_1240 dX12_around_8 ?_
      refine wa_iload_n C 1 rfl dX12_around_11 rfl ?_
      obtain ⟨t_8, h⟩ := h
      refine wa_iald C 2 mW_2 dX12_around_12 t_8.1 t_8.2 (fun v_9 ev_9 rv_9 => ?_)
      replace h := h v_9 ev_9 rv_9
      refine wa_icmp_ge C (tgt := 51) rx4_7 rv_9 dX12_around_13 (by decide) (fun c_10 => ?_) (fun c_10 => ?_)
      · replace h := h.1 c_10
        refine wa_iload_n C 3 rfl dX12_around_51 rfl ?_
        exact ret dX12_around_52 rx3_6 ⟨rfl, h⟩
      · replace h := h.2 c_10
        refine wa_iload_n C 3 rfl dX12_around_16 rfl ?_
        refine wa_aload_n C 0 rfl dX12_around_17 rfl ?_
        refine wa_getR C 0 10 mW_0 rfl rfl (by decide) okX12 gw_1242 dX12_around_18 ?_
        refine wa_aload_n C 0 rfl dX12_around_21 rfl ?_
        refine wa_getR C 0 7 mW_0 rfl rfl (by decide) okX12 gw_1239 dX12_around_22 ?_
        refine wa_bipush C (z := 8) dX12_around_25 (by decide) ?_
        refine wa_iload_n C 1 rfl dX12_around_27 rfl ?_
        refine wa_imul C dX12_around_28 ?_
        refine wa_iload C 4 rfl dX12_around_29 ?_
        refine wa_iadd C dX12_around_31 ?_
        obtain ⟨t_11, h⟩ := h
        refine wa_iald C 1 mW_1 dX12_around_32 t_11.1 t_11.2 (fun v_12 ev_12 rv_12 => ?_)
        replace h := h v_12 ev_12 rv_12
        obtain ⟨t_13, h⟩ := h
        refine wa_iald C 4 mW_4 dX12_around_33 t_13.1 t_13.2 (fun v_14 ev_14 rv_14 => ?_)
        replace h := h v_14 ev_14 rv_14
        refine wa_iload_n C 2 rfl dX12_around_34 rfl ?_
        obtain ⟨J_15, h, hJ_15⟩ := h
        have k_16 : ∀ (z_17 : Int), inR z_17 → J_15 z_17 → WA p l e ({ frames := 2, cells := 0, slots := 0, locals := 120 } : Room) s m args below meth c 0 0 Q K ad 5 A 43 [(0, .ref (ad 0)), (1, .int (iI x1)), (2, .int (iI x2)), (4, .int (iI x4_7))] [.int (iI z_17), .int (iI x3_6)] (mW M_thrown M_w M_h M_cells M_shape M_isBoard M_isBlank M_lives M_moves M_parts M_numbers M_grade M_reasons M_total M_near M_degree M_mine M_state M_history M_oldLives M_safe M_mined M_used M_partOf M_placeOf M_partSize M_ways M_with M_masks M_rests M_bits M_reach M_more M_reason M_big M_region) := by
          intro z_17 rz_17 h
          replace h := hJ_15 z_17 rz_17 h
          refine wa_iadd C dX12_around_43 ?_
          obtain ⟨r_18, h⟩ := h
          refine wa_nmi (fun x3_19 ex3_19 => ?_)
          replace h := h x3_19 ex3_19
          have rx3_19 : inR x3_19 := by rw [ex3_19]; exact r_18
          refine wa_istore_n C dX12_around_44 rfl (by decide) rfl ?_
          obtain ⟨r_20, h⟩ := h
          refine wa_iinc C (lv' := fun w9 => [(4, .int (iI w9)), (3, .int (iI x3_19)), (0, .ref (ad 0)), (1, .int (iI x1)), (2, .int (iI x2))]) 4 rfl dX12_around_45 (by decide) (fun _ => rfl) (fun x4_21 ex4_21 => ?_)
          replace h := h x4_21 ex4_21
          have rx4_21 : inR x4_21 := by rw [ex4_21]; exact r_20
          refine wa_goto C (tgt := 5) dX12_around_48 (by decide) ?_
          obtain ⟨n_22, ln_22, h⟩ := h
          refine wa_sub C [2, 3, 4, 1, 0] rfl ?_
          exact ih_4 n_22 ln_22 x3_19 x4_21 rx3_19 rx4_21 h
        refine wa_icmp_ne C (tgt := 42) rv_14 rx2 dX12_around_35 (by decide) (fun c_23 => ?_) (fun c_23 => ?_)
        · replace h := h.1 c_23
          refine wa_iconst C (z := 0) dX12_around_42 rfl ?_
          refine wa_sub C [0, 1, 2, 4] rfl ?_
          exact k_16 0 (inR_k 0 rfl) h
        · replace h := h.2 c_23
          refine wa_iconst C (z := 1) dX12_around_38 rfl ?_
          refine wa_goto C (tgt := 43) dX12_around_39 (by decide) ?_
          refine wa_sub C [0, 1, 2, 4] rfl ?_
          exact k_16 1 (inR_k 1 rfl) h
  refine wa_sub C [2, 3, 4, 1, 0] rfl ?_
  exact k_5 n_2 0 0 (inR_k 0 rfl) (inR_k 0 rfl) h0Inv_1
def P_X12_mines (post : Int → Prop) (M_cells : Int) (M_mine : Int → Int) : Prop :=
  ∃ Inv_1 : Nat → (Int) → (Int) → Prop, (∃ n_2 : Nat, Inv_1 n_2 0 0) ∧ ∀ (n_3 : Nat) (x1_6 : Int) (x2_7 : Int), inR x1_6 → inR x2_7 → Inv_1 n_3 x1_6 x2_7 → ((M_cells ≤ x2_7 → (post x1_6)) ∧ (¬ M_cells ≤ x2_7 → ((0 ≤ x2_7 ∧ x2_7 < 144) ∧ (∀ v_11 : Int, v_11 = M_mine x2_7 → (v_11 = 0 ∨ v_11 = 1) → (∃ J_12 : (Int) → Prop, ((v_11 = 0 → (J_12 0)) ∧ (¬ v_11 = 0 → (J_12 1))) ∧ (∀ (z_14 : Int), inR z_14 → J_12 z_14 → (inR (x1_6 + z_14) ∧ (∀ x1_16 : Int, x1_16 = (x1_6 + z_14) → (inR (x2_7 + 1) ∧ (∀ x2_18 : Int, x2_18 = (x2_7 + 1) → (∃ n_19 : Nat, n_19 < n_3 ∧ Inv_1 n_19 x1_16 x2_18)))))))))))
set_option maxRecDepth 100000 in
set_option maxHeartbeats 4000000 in
theorem c_X12_mines (l : Launch) (K : wK) (ad : Nat → Nat) {M_thrown : Int} {M_w : Int} {M_h : Int} {M_cells : Int} {M_shape : Int} {M_isBoard : Int} {M_isBlank : Int} {M_lives : Int} {M_moves : Int} {M_parts : Int} {M_numbers : Int} {M_grade : Int} {M_reasons : Int} {M_total : Int} {M_near : Int → Int} {M_degree : Int → Int} {M_mine : Int → Int} {M_state : Int → Int} {M_history : Int → Int64} {M_oldLives : Int → Int} {M_safe : Int → Int} {M_mined : Int → Int} {M_used : Int → Int} {M_partOf : Int → Int} {M_placeOf : Int → Int} {M_partSize : Int → Int} {M_ways : Int → Int} {M_with : Int → Int} {M_masks : Int → Int} {M_rests : Int → Int} {M_bits : Int → Int} {M_reach : Int → Int} {M_more : Int → Int} {M_reason : Int → Int} {M_big : Int → Int64} {M_region : Int → Int}   (post : Int → Prop) (h : P_X12_mines post M_cells M_mine) : mI l yX12_mines (Cond.code yX12_mines cX12_mines 3 (some .int) :: GT) ({ frames := 2, cells := 0, slots := 0, locals := 120 } : Room) [.ref (ad 0)] K ad (mW M_thrown M_w M_h M_cells M_shape M_isBoard M_isBlank M_lives M_moves M_parts M_numbers M_grade M_reasons M_total M_near M_degree M_mine M_state M_history M_oldLives M_safe M_mined M_used M_partOf M_placeOf M_partSize M_ways M_with M_masks M_rests M_bits M_reach M_more M_reason M_big M_region) (fun z9 u9 => u9 = (mW M_thrown M_w M_h M_cells M_shape M_isBoard M_isBlank M_lives M_moves M_parts M_numbers M_grade M_reasons M_total M_near M_degree M_mine M_state M_history M_oldLives M_safe M_mined M_used M_partOf M_placeOf M_partSize M_ways M_with M_masks M_rests M_bits M_reach M_more M_reason M_big M_region) ∧ post z9) := by
  refine mI_of (lv0 := [(0, .ref (ad 0))]) (by decide) (Nat.le_of_ble_eq_true rfl) rfl ?_
  intro p e s m args below meth c Q A C ret
  replace C : Cx p ({ frames := 2, cells := 0, slots := 0, locals := 120 } : Room) m c 0 0 cX12_mines 3 s args RX12 K A := C
  unfold P_X12_mines at h
  refine wa_iconst C (z := 0) dX12_mines_0 rfl ?_
  refine wa_istore_n C dX12_mines_1 rfl (by decide) rfl ?_
  refine wa_iconst C (z := 0) dX12_mines_2 rfl ?_
  refine wa_istore_n C dX12_mines_3 rfl (by decide) rfl ?_
  obtain ⟨Inv_1, ⟨n_2, h0Inv_1⟩, hInv_1⟩ := h
  have k_5 : ∀ (n_3 : Nat) (x1_6 : Int) (x2_7 : Int), inR x1_6 → inR x2_7 → Inv_1 n_3 x1_6 x2_7 → WA p l e ({ frames := 2, cells := 0, slots := 0, locals := 120 } : Room) s m args below meth c 0 0 Q K ad 3 A 4 [(0, .ref (ad 0)), (1, .int (iI x1_6)), (2, .int (iI x2_7))] [] (mW M_thrown M_w M_h M_cells M_shape M_isBoard M_isBlank M_lives M_moves M_parts M_numbers M_grade M_reasons M_total M_near M_degree M_mine M_state M_history M_oldLives M_safe M_mined M_used M_partOf M_placeOf M_partSize M_ways M_with M_masks M_rests M_bits M_reach M_more M_reason M_big M_region) := by
    intro n_3
    induction n_3 using Nat.strongRecOn with
    | ind n_3 ih_4 =>
      intro x1_6 x2_7 rx1_6 rx2_7 h
      replace h := hInv_1 n_3 x1_6 x2_7 rx1_6 rx2_7 h
      refine wa_iload_n C 2 rfl dX12_mines_4 rfl ?_
      refine wa_aload_n C 0 rfl dX12_mines_5 rfl ?_
      refine wa_getI C 0 3 mW_0 rfl rfl (by decide) okX12 gw_1235 dX12_mines_6 (fun r_8 => ?_)
      refine wa_icmp_ge C (tgt := 35) rx2_7 r_8 dX12_mines_9 (by decide) (fun c_9 => ?_) (fun c_9 => ?_)
      · replace h := h.1 c_9
        refine wa_iload_n C 1 rfl dX12_mines_35 rfl ?_
        exact ret dX12_mines_36 rx1_6 ⟨rfl, h⟩
      · replace h := h.2 c_9
        refine wa_iload_n C 1 rfl dX12_mines_12 rfl ?_
        refine wa_aload_n C 0 rfl dX12_mines_13 rfl ?_
        refine wa_getR C 0 9 mW_0 rfl rfl (by decide) okX12 gw_1241 dX12_mines_14 ?_
        refine wa_iload_n C 2 rfl dX12_mines_17 rfl ?_
        obtain ⟨t_10, h⟩ := h
        refine wa_bald C 3 mW_3 dX12_mines_18 t_10.1 t_10.2 (fun v_11 ev_11 rv_11 => ?_)
        replace h := h v_11 ev_11 rv_11
        obtain ⟨J_12, h, hJ_12⟩ := h
        have k_13 : ∀ (z_14 : Int), inR z_14 → J_12 z_14 → WA p l e ({ frames := 2, cells := 0, slots := 0, locals := 120 } : Room) s m args below meth c 0 0 Q K ad 3 A 27 [(0, .ref (ad 0)), (2, .int (iI x2_7))] [.int (iI z_14), .int (iI x1_6)] (mW M_thrown M_w M_h M_cells M_shape M_isBoard M_isBlank M_lives M_moves M_parts M_numbers M_grade M_reasons M_total M_near M_degree M_mine M_state M_history M_oldLives M_safe M_mined M_used M_partOf M_placeOf M_partSize M_ways M_with M_masks M_rests M_bits M_reach M_more M_reason M_big M_region) := by
          intro z_14 rz_14 h
          replace h := hJ_12 z_14 rz_14 h
          refine wa_iadd C dX12_mines_27 ?_
          obtain ⟨r_15, h⟩ := h
          refine wa_nmi (fun x1_16 ex1_16 => ?_)
          replace h := h x1_16 ex1_16
          have rx1_16 : inR x1_16 := by rw [ex1_16]; exact r_15
          refine wa_istore_n C dX12_mines_28 rfl (by decide) rfl ?_
          obtain ⟨r_17, h⟩ := h
          refine wa_iinc C (lv' := fun w9 => [(2, .int (iI w9)), (1, .int (iI x1_16)), (0, .ref (ad 0))]) 2 rfl dX12_mines_29 (by decide) (fun _ => rfl) (fun x2_18 ex2_18 => ?_)
          replace h := h x2_18 ex2_18
          have rx2_18 : inR x2_18 := by rw [ex2_18]; exact r_17
          refine wa_goto C (tgt := 4) dX12_mines_32 (by decide) ?_
          obtain ⟨n_19, ln_19, h⟩ := h
          refine wa_sub C [2, 1, 0] rfl ?_
          exact ih_4 n_19 ln_19 x1_16 x2_18 rx1_16 rx2_18 h
        refine wa_if_eq C (tgt := 26) (inR_b rv_11) dX12_mines_19 (by decide) (fun c_20 => ?_) (fun c_20 => ?_)
        · replace h := h.1 c_20
          refine wa_iconst C (z := 0) dX12_mines_26 rfl ?_
          refine wa_sub C [0, 2] rfl ?_
          exact k_13 0 (inR_k 0 rfl) h
        · replace h := h.2 c_20
          refine wa_iconst C (z := 1) dX12_mines_22 rfl ?_
          refine wa_goto C (tgt := 27) dX12_mines_23 (by decide) ?_
          refine wa_sub C [0, 2] rfl ?_
          exact k_13 1 (inR_k 1 rfl) h
  refine wa_sub C [2, 1, 0] rfl ?_
  exact k_5 n_2 0 0 (inR_k 0 rfl) (inR_k 0 rfl) h0Inv_1
def P_X12_many (post : Int → Prop) (M_cells : Int) (M_state : Int → Int) (x1 : Int) : Prop :=
  ∃ Inv_1 : Nat → (Int) → (Int) → Prop, (∃ n_2 : Nat, Inv_1 n_2 0 0) ∧ ∀ (n_3 : Nat) (x2_6 : Int) (x3_7 : Int), inR x2_6 → inR x3_7 → Inv_1 n_3 x2_6 x3_7 → ((M_cells ≤ x3_7 → (post x2_6)) ∧ (¬ M_cells ≤ x3_7 → ((0 ≤ x3_7 ∧ x3_7 < 144) ∧ (∀ v_11 : Int, v_11 = M_state x3_7 → inR v_11 → (∃ J_12 : (Int) → Prop, ((¬ v_11 = x1 → (J_12 0)) ∧ (v_11 = x1 → (J_12 1))) ∧ (∀ (z_14 : Int), inR z_14 → J_12 z_14 → (inR (x2_6 + z_14) ∧ (∀ x2_16 : Int, x2_16 = (x2_6 + z_14) → (inR (x3_7 + 1) ∧ (∀ x3_18 : Int, x3_18 = (x3_7 + 1) → (∃ n_19 : Nat, n_19 < n_3 ∧ Inv_1 n_19 x2_16 x3_18)))))))))))
set_option maxRecDepth 100000 in
set_option maxHeartbeats 4000000 in
theorem c_X12_many (l : Launch) (K : wK) (ad : Nat → Nat) {M_thrown : Int} {M_w : Int} {M_h : Int} {M_cells : Int} {M_shape : Int} {M_isBoard : Int} {M_isBlank : Int} {M_lives : Int} {M_moves : Int} {M_parts : Int} {M_numbers : Int} {M_grade : Int} {M_reasons : Int} {M_total : Int} {M_near : Int → Int} {M_degree : Int → Int} {M_mine : Int → Int} {M_state : Int → Int} {M_history : Int → Int64} {M_oldLives : Int → Int} {M_safe : Int → Int} {M_mined : Int → Int} {M_used : Int → Int} {M_partOf : Int → Int} {M_placeOf : Int → Int} {M_partSize : Int → Int} {M_ways : Int → Int} {M_with : Int → Int} {M_masks : Int → Int} {M_rests : Int → Int} {M_bits : Int → Int} {M_reach : Int → Int} {M_more : Int → Int} {M_reason : Int → Int} {M_big : Int → Int64} {M_region : Int → Int} (x1 : Int) (rx1 : inR x1) (post : Int → Prop) (h : P_X12_many post M_cells M_state x1) : mI l yX12_many (Cond.code yX12_many cX12_many 4 (some .int) :: GT) ({ frames := 2, cells := 0, slots := 0, locals := 120 } : Room) [.ref (ad 0), .int (iI x1)] K ad (mW M_thrown M_w M_h M_cells M_shape M_isBoard M_isBlank M_lives M_moves M_parts M_numbers M_grade M_reasons M_total M_near M_degree M_mine M_state M_history M_oldLives M_safe M_mined M_used M_partOf M_placeOf M_partSize M_ways M_with M_masks M_rests M_bits M_reach M_more M_reason M_big M_region) (fun z9 u9 => u9 = (mW M_thrown M_w M_h M_cells M_shape M_isBoard M_isBlank M_lives M_moves M_parts M_numbers M_grade M_reasons M_total M_near M_degree M_mine M_state M_history M_oldLives M_safe M_mined M_used M_partOf M_placeOf M_partSize M_ways M_with M_masks M_rests M_bits M_reach M_more M_reason M_big M_region) ∧ post z9) := by
  refine mI_of (lv0 := [(0, .ref (ad 0)), (1, .int (iI x1))]) (by decide) (Nat.le_of_ble_eq_true rfl) rfl ?_
  intro p e s m args below meth c Q A C ret
  replace C : Cx p ({ frames := 2, cells := 0, slots := 0, locals := 120 } : Room) m c 0 0 cX12_many 4 s args RX12 K A := C
  unfold P_X12_many at h
  refine wa_iconst C (z := 0) dX12_many_0 rfl ?_
  refine wa_istore_n C dX12_many_1 rfl (by decide) rfl ?_
  refine wa_iconst C (z := 0) dX12_many_2 rfl ?_
  refine wa_istore_n C dX12_many_3 rfl (by decide) rfl ?_
  obtain ⟨Inv_1, ⟨n_2, h0Inv_1⟩, hInv_1⟩ := h
  have k_5 : ∀ (n_3 : Nat) (x2_6 : Int) (x3_7 : Int), inR x2_6 → inR x3_7 → Inv_1 n_3 x2_6 x3_7 → WA p l e ({ frames := 2, cells := 0, slots := 0, locals := 120 } : Room) s m args below meth c 0 0 Q K ad 4 A 4 [(0, .ref (ad 0)), (1, .int (iI x1)), (2, .int (iI x2_6)), (3, .int (iI x3_7))] [] (mW M_thrown M_w M_h M_cells M_shape M_isBoard M_isBlank M_lives M_moves M_parts M_numbers M_grade M_reasons M_total M_near M_degree M_mine M_state M_history M_oldLives M_safe M_mined M_used M_partOf M_placeOf M_partSize M_ways M_with M_masks M_rests M_bits M_reach M_more M_reason M_big M_region) := by
    intro n_3
    induction n_3 using Nat.strongRecOn with
    | ind n_3 ih_4 =>
      intro x2_6 x3_7 rx2_6 rx3_7 h
      replace h := hInv_1 n_3 x2_6 x3_7 rx2_6 rx3_7 h
      refine wa_iload_n C 3 rfl dX12_many_4 rfl ?_
      refine wa_aload_n C 0 rfl dX12_many_5 rfl ?_
      refine wa_getI C 0 3 mW_0 rfl rfl (by decide) okX12 gw_1235 dX12_many_6 (fun r_8 => ?_)
      refine wa_icmp_ge C (tgt := 36) rx3_7 r_8 dX12_many_9 (by decide) (fun c_9 => ?_) (fun c_9 => ?_)
      · replace h := h.1 c_9
        refine wa_iload_n C 2 rfl dX12_many_36 rfl ?_
        exact ret dX12_many_37 rx2_6 ⟨rfl, h⟩
      · replace h := h.2 c_9
        refine wa_iload_n C 2 rfl dX12_many_12 rfl ?_
        refine wa_aload_n C 0 rfl dX12_many_13 rfl ?_
        refine wa_getR C 0 10 mW_0 rfl rfl (by decide) okX12 gw_1242 dX12_many_14 ?_
        refine wa_iload_n C 3 rfl dX12_many_17 rfl ?_
        obtain ⟨t_10, h⟩ := h
        refine wa_iald C 4 mW_4 dX12_many_18 t_10.1 t_10.2 (fun v_11 ev_11 rv_11 => ?_)
        replace h := h v_11 ev_11 rv_11
        refine wa_iload_n C 1 rfl dX12_many_19 rfl ?_
        obtain ⟨J_12, h, hJ_12⟩ := h
        have k_13 : ∀ (z_14 : Int), inR z_14 → J_12 z_14 → WA p l e ({ frames := 2, cells := 0, slots := 0, locals := 120 } : Room) s m args below meth c 0 0 Q K ad 4 A 28 [(0, .ref (ad 0)), (1, .int (iI x1)), (3, .int (iI x3_7))] [.int (iI z_14), .int (iI x2_6)] (mW M_thrown M_w M_h M_cells M_shape M_isBoard M_isBlank M_lives M_moves M_parts M_numbers M_grade M_reasons M_total M_near M_degree M_mine M_state M_history M_oldLives M_safe M_mined M_used M_partOf M_placeOf M_partSize M_ways M_with M_masks M_rests M_bits M_reach M_more M_reason M_big M_region) := by
          intro z_14 rz_14 h
          replace h := hJ_12 z_14 rz_14 h
          refine wa_iadd C dX12_many_28 ?_
          obtain ⟨r_15, h⟩ := h
          refine wa_nmi (fun x2_16 ex2_16 => ?_)
          replace h := h x2_16 ex2_16
          have rx2_16 : inR x2_16 := by rw [ex2_16]; exact r_15
          refine wa_istore_n C dX12_many_29 rfl (by decide) rfl ?_
          obtain ⟨r_17, h⟩ := h
          refine wa_iinc C (lv' := fun w9 => [(3, .int (iI w9)), (2, .int (iI x2_16)), (0, .ref (ad 0)), (1, .int (iI x1))]) 3 rfl dX12_many_30 (by decide) (fun _ => rfl) (fun x3_18 ex3_18 => ?_)
          replace h := h x3_18 ex3_18
          have rx3_18 : inR x3_18 := by rw [ex3_18]; exact r_17
          refine wa_goto C (tgt := 4) dX12_many_33 (by decide) ?_
          obtain ⟨n_19, ln_19, h⟩ := h
          refine wa_sub C [2, 3, 1, 0] rfl ?_
          exact ih_4 n_19 ln_19 x2_16 x3_18 rx2_16 rx3_18 h
        refine wa_icmp_ne C (tgt := 27) rv_11 rx1 dX12_many_20 (by decide) (fun c_20 => ?_) (fun c_20 => ?_)
        · replace h := h.1 c_20
          refine wa_iconst C (z := 0) dX12_many_27 rfl ?_
          refine wa_sub C [0, 1, 3] rfl ?_
          exact k_13 0 (inR_k 0 rfl) h
        · replace h := h.2 c_20
          refine wa_iconst C (z := 1) dX12_many_23 rfl ?_
          refine wa_goto C (tgt := 28) dX12_many_24 (by decide) ?_
          refine wa_sub C [0, 1, 3] rfl ?_
          exact k_13 1 (inR_k 1 rfl) h
  refine wa_sub C [2, 3, 1, 0] rfl ?_
  exact k_5 n_2 0 0 (inR_k 0 rfl) (inR_k 0 rfl) h0Inv_1
def P_X12_minesLeft (post : Int → Prop) (M_cells : Int) (M_mine : Int → Int) (M_state : Int → Int) : Prop :=
  P_X12_mines (fun (c_1 : Int) => inR c_1 → (P_X12_many (fun (c_2 : Int) => inR c_2 → (inR (c_1 - c_2) ∧ (post (c_1 - c_2)))) M_cells M_state 3)) M_cells M_mine 
set_option maxRecDepth 100000 in
set_option maxHeartbeats 4000000 in
theorem c_X12_minesLeft (l : Launch) (K : wK) (ad : Nat → Nat) {M_thrown : Int} {M_w : Int} {M_h : Int} {M_cells : Int} {M_shape : Int} {M_isBoard : Int} {M_isBlank : Int} {M_lives : Int} {M_moves : Int} {M_parts : Int} {M_numbers : Int} {M_grade : Int} {M_reasons : Int} {M_total : Int} {M_near : Int → Int} {M_degree : Int → Int} {M_mine : Int → Int} {M_state : Int → Int} {M_history : Int → Int64} {M_oldLives : Int → Int} {M_safe : Int → Int} {M_mined : Int → Int} {M_used : Int → Int} {M_partOf : Int → Int} {M_placeOf : Int → Int} {M_partSize : Int → Int} {M_ways : Int → Int} {M_with : Int → Int} {M_masks : Int → Int} {M_rests : Int → Int} {M_bits : Int → Int} {M_reach : Int → Int} {M_more : Int → Int} {M_reason : Int → Int} {M_big : Int → Int64} {M_region : Int → Int}   (post : Int → Prop) (h : P_X12_minesLeft post M_cells M_mine M_state) : mI l yX12_minesLeft (Cond.code yX12_minesLeft cX12_minesLeft 1 (some .int) :: GT) ({ frames := 3, cells := 0, slots := 0, locals := 180 } : Room) [.ref (ad 0)] K ad (mW M_thrown M_w M_h M_cells M_shape M_isBoard M_isBlank M_lives M_moves M_parts M_numbers M_grade M_reasons M_total M_near M_degree M_mine M_state M_history M_oldLives M_safe M_mined M_used M_partOf M_placeOf M_partSize M_ways M_with M_masks M_rests M_bits M_reach M_more M_reason M_big M_region) (fun z9 u9 => u9 = (mW M_thrown M_w M_h M_cells M_shape M_isBoard M_isBlank M_lives M_moves M_parts M_numbers M_grade M_reasons M_total M_near M_degree M_mine M_state M_history M_oldLives M_safe M_mined M_used M_partOf M_placeOf M_partSize M_ways M_with M_masks M_rests M_bits M_reach M_more M_reason M_big M_region) ∧ post z9) := by
  refine mI_of (lv0 := [(0, .ref (ad 0))]) (by decide) (Nat.le_of_ble_eq_true rfl) rfl ?_
  intro p e s m args below meth c Q A C ret
  replace C : Cx p ({ frames := 3, cells := 0, slots := 0, locals := 180 } : Room) m c 0 0 cX12_minesLeft 1 s args RX12 K A := C
  unfold P_X12_minesLeft at h
  refine wa_aload_n C 0 rfl dX12_minesLeft_0 rfl ?_
  refine wa_callVi C (k := 0) (As := []) (rest := []) (c_X12_mines l K ad  _ h) gw_1503 gw_1500 mW_0 rfl gw_1502 gs_86 gw_12 q_X12_mines rfl rfl rfl ⟨by decide, by decide⟩ rfl (Nat.le_of_ble_eq_true rfl) dX12_minesLeft_1 (fun c_1 u9 rc_1 hp => ?_)
  obtain ⟨rfl, h⟩ := hp
  replace h := h rc_1
  refine wa_aload_n C 0 rfl dX12_minesLeft_4 rfl ?_
  refine wa_iconst C (z := 3) dX12_minesLeft_5 rfl ?_
  refine wa_callVi C (k := 0) (As := [.int (iI 3)]) (rest := [.int (iI c_1)]) (c_X12_many l K ad 3 (inR_k 3 rfl) _ h) gw_1507 gw_1504 mW_0 rfl gw_1506 gs_87 gw_12 q_X12_many rfl rfl rfl ⟨by decide, by decide⟩ rfl (Nat.le_of_ble_eq_true rfl) dX12_minesLeft_6 (fun c_2 u9 rc_2 hp => ?_)
  obtain ⟨rfl, h⟩ := hp
  replace h := h rc_2
  refine wa_isub C dX12_minesLeft_9 ?_
  obtain ⟨r_3, h⟩ := h
  exact ret dX12_minesLeft_10 r_3 ⟨rfl, h⟩
def P_X12_isSolved (post : Int → Prop) (M_cells : Int) (M_mine : Int → Int) (M_state : Int → Int) : Prop :=
  ∃ Inv_1 : Nat → (Int) → (Int) → Prop, (∃ n_2 : Nat, Inv_1 n_2 1 0) ∧ ∀ (n_3 : Nat) (x1_6 : Int) (x2_7 : Int), inR x1_6 → inR x2_7 → Inv_1 n_3 x1_6 x2_7 → ((M_cells ≤ x2_7 → ((x1_6 = 0 ∨ x1_6 = 1) ∧ (post x1_6))) ∧ (¬ M_cells ≤ x2_7 → (∃ J_11 : (Int) → Prop, (∃ J_17 : Prop, ((x1_6 = 0 → (J_17)) ∧ (¬ x1_6 = 0 → ((0 ≤ x2_7 ∧ x2_7 < 144) ∧ (∀ v_21 : Int, v_21 = M_mine x2_7 → (v_21 = 0 ∨ v_21 = 1) → (∃ J_22 : Prop, ((¬ v_21 = 0 → (J_22)) ∧ (v_21 = 0 → ((0 ≤ x2_7 ∧ x2_7 < 144) ∧ (∀ v_26 : Int, v_26 = M_state x2_7 → inR v_26 → ((¬ v_26 = 1 → (J_17)) ∧ (v_26 = 1 → (J_22))))))) ∧ (J_22 → (J_11 1))))))) ∧ (J_17 → (J_11 0))) ∧ (∀ (z_13 : Int), inR z_13 → J_11 z_13 → (inR (x2_7 + 1) ∧ (∀ x2_15 : Int, x2_15 = (x2_7 + 1) → (∃ n_16 : Nat, n_16 < n_3 ∧ Inv_1 n_16 z_13 x2_15)))))))
set_option maxRecDepth 100000 in
set_option maxHeartbeats 4000000 in
theorem c_X12_isSolved (l : Launch) (K : wK) (ad : Nat → Nat) {M_thrown : Int} {M_w : Int} {M_h : Int} {M_cells : Int} {M_shape : Int} {M_isBoard : Int} {M_isBlank : Int} {M_lives : Int} {M_moves : Int} {M_parts : Int} {M_numbers : Int} {M_grade : Int} {M_reasons : Int} {M_total : Int} {M_near : Int → Int} {M_degree : Int → Int} {M_mine : Int → Int} {M_state : Int → Int} {M_history : Int → Int64} {M_oldLives : Int → Int} {M_safe : Int → Int} {M_mined : Int → Int} {M_used : Int → Int} {M_partOf : Int → Int} {M_placeOf : Int → Int} {M_partSize : Int → Int} {M_ways : Int → Int} {M_with : Int → Int} {M_masks : Int → Int} {M_rests : Int → Int} {M_bits : Int → Int} {M_reach : Int → Int} {M_more : Int → Int} {M_reason : Int → Int} {M_big : Int → Int64} {M_region : Int → Int}   (post : Int → Prop) (h : P_X12_isSolved post M_cells M_mine M_state) : mI l yX12_isSolved (Cond.code yX12_isSolved cX12_isSolved 3 (some .boolean) :: GT) ({ frames := 2, cells := 0, slots := 0, locals := 120 } : Room) [.ref (ad 0)] K ad (mW M_thrown M_w M_h M_cells M_shape M_isBoard M_isBlank M_lives M_moves M_parts M_numbers M_grade M_reasons M_total M_near M_degree M_mine M_state M_history M_oldLives M_safe M_mined M_used M_partOf M_placeOf M_partSize M_ways M_with M_masks M_rests M_bits M_reach M_more M_reason M_big M_region) (fun z9 u9 => (z9 = 0 ∨ z9 = 1) ∧ u9 = (mW M_thrown M_w M_h M_cells M_shape M_isBoard M_isBlank M_lives M_moves M_parts M_numbers M_grade M_reasons M_total M_near M_degree M_mine M_state M_history M_oldLives M_safe M_mined M_used M_partOf M_placeOf M_partSize M_ways M_with M_masks M_rests M_bits M_reach M_more M_reason M_big M_region) ∧ post z9) := by
  refine mZ_of (lv0 := [(0, .ref (ad 0))]) (by decide) (Nat.le_of_ble_eq_true rfl) rfl ?_
  intro p e s m args below meth c Q A C ret
  replace C : Cx p ({ frames := 2, cells := 0, slots := 0, locals := 120 } : Room) m c 0 0 cX12_isSolved 3 s args RX12 K A := C
  unfold P_X12_isSolved at h
  refine wa_iconst C (z := 1) dX12_isSolved_0 rfl ?_
  refine wa_istore_n C dX12_isSolved_1 rfl (by decide) rfl ?_
  refine wa_iconst C (z := 0) dX12_isSolved_2 rfl ?_
  refine wa_istore_n C dX12_isSolved_3 rfl (by decide) rfl ?_
  obtain ⟨Inv_1, ⟨n_2, h0Inv_1⟩, hInv_1⟩ := h
  have k_5 : ∀ (n_3 : Nat) (x1_6 : Int) (x2_7 : Int), inR x1_6 → inR x2_7 → Inv_1 n_3 x1_6 x2_7 → WA p l e ({ frames := 2, cells := 0, slots := 0, locals := 120 } : Room) s m args below meth c 0 0 Q K ad 3 A 4 [(0, .ref (ad 0)), (1, .int (iI x1_6)), (2, .int (iI x2_7))] [] (mW M_thrown M_w M_h M_cells M_shape M_isBoard M_isBlank M_lives M_moves M_parts M_numbers M_grade M_reasons M_total M_near M_degree M_mine M_state M_history M_oldLives M_safe M_mined M_used M_partOf M_placeOf M_partSize M_ways M_with M_masks M_rests M_bits M_reach M_more M_reason M_big M_region) := by
    intro n_3
    induction n_3 using Nat.strongRecOn with
    | ind n_3 ih_4 =>
      intro x1_6 x2_7 rx1_6 rx2_7 h
      replace h := hInv_1 n_3 x1_6 x2_7 rx1_6 rx2_7 h
      refine wa_iload_n C 2 rfl dX12_isSolved_4 rfl ?_
      refine wa_aload_n C 0 rfl dX12_isSolved_5 rfl ?_
      refine wa_getI C 0 3 mW_0 rfl rfl (by decide) okX12 gw_1235 dX12_isSolved_6 (fun r_8 => ?_)
      refine wa_icmp_ge C (tgt := 47) rx2_7 r_8 dX12_isSolved_9 (by decide) (fun c_9 => ?_) (fun c_9 => ?_)
      · replace h := h.1 c_9
        refine wa_iload_n C 1 rfl dX12_isSolved_47 rfl ?_
        obtain ⟨b_10, h⟩ := h
        exact ret dX12_isSolved_48 b_10 ⟨b_10, rfl, h⟩
      · replace h := h.2 c_9
        refine wa_iload_n C 1 rfl dX12_isSolved_12 rfl ?_
        obtain ⟨J_11, h, hJ_11⟩ := h
        have k_12 : ∀ (z_13 : Int), inR z_13 → J_11 z_13 → WA p l e ({ frames := 2, cells := 0, slots := 0, locals := 120 } : Room) s m args below meth c 0 0 Q K ad 3 A 40 [(0, .ref (ad 0)), (2, .int (iI x2_7))] [.int (iI z_13)] (mW M_thrown M_w M_h M_cells M_shape M_isBoard M_isBlank M_lives M_moves M_parts M_numbers M_grade M_reasons M_total M_near M_degree M_mine M_state M_history M_oldLives M_safe M_mined M_used M_partOf M_placeOf M_partSize M_ways M_with M_masks M_rests M_bits M_reach M_more M_reason M_big M_region) := by
          intro z_13 rz_13 h
          replace h := hJ_11 z_13 rz_13 h
          refine wa_istore_n C dX12_isSolved_40 rfl (by decide) rfl ?_
          obtain ⟨r_14, h⟩ := h
          refine wa_iinc C (lv' := fun w9 => [(2, .int (iI w9)), (1, .int (iI z_13)), (0, .ref (ad 0))]) 2 rfl dX12_isSolved_41 (by decide) (fun _ => rfl) (fun x2_15 ex2_15 => ?_)
          replace h := h x2_15 ex2_15
          have rx2_15 : inR x2_15 := by rw [ex2_15]; exact r_14
          refine wa_goto C (tgt := 4) dX12_isSolved_44 (by decide) ?_
          obtain ⟨n_16, ln_16, h⟩ := h
          refine wa_sub C [2, 1, 0] rfl ?_
          exact ih_4 n_16 ln_16 z_13 x2_15 rz_13 rx2_15 h
        obtain ⟨J_17, h, hJ_17⟩ := h
        have k_18 : J_17 → WA p l e ({ frames := 2, cells := 0, slots := 0, locals := 120 } : Room) s m args below meth c 0 0 Q K ad 3 A 39 [(0, .ref (ad 0)), (2, .int (iI x2_7))] [] (mW M_thrown M_w M_h M_cells M_shape M_isBoard M_isBlank M_lives M_moves M_parts M_numbers M_grade M_reasons M_total M_near M_degree M_mine M_state M_history M_oldLives M_safe M_mined M_used M_partOf M_placeOf M_partSize M_ways M_with M_masks M_rests M_bits M_reach M_more M_reason M_big M_region) := by
          intro h
          replace h := hJ_17 h
          refine wa_iconst C (z := 0) dX12_isSolved_39 rfl ?_
          refine wa_sub C [0, 1] rfl ?_
          exact k_12 0 (inR_k 0 rfl) h
        refine wa_if_eq C (tgt := 39) rx1_6 dX12_isSolved_13 (by decide) (fun c_19 => ?_) (fun c_19 => ?_)
        · replace h := h.1 c_19
          refine wa_sub C [0, 2] rfl ?_
          exact k_18 h
        · replace h := h.2 c_19
          refine wa_aload_n C 0 rfl dX12_isSolved_16 rfl ?_
          refine wa_getR C 0 9 mW_0 rfl rfl (by decide) okX12 gw_1241 dX12_isSolved_17 ?_
          refine wa_iload_n C 2 rfl dX12_isSolved_20 rfl ?_
          obtain ⟨t_20, h⟩ := h
          refine wa_bald C 3 mW_3 dX12_isSolved_21 t_20.1 t_20.2 (fun v_21 ev_21 rv_21 => ?_)
          replace h := h v_21 ev_21 rv_21
          obtain ⟨J_22, h, hJ_22⟩ := h
          have k_23 : J_22 → WA p l e ({ frames := 2, cells := 0, slots := 0, locals := 120 } : Room) s m args below meth c 0 0 Q K ad 3 A 35 [(0, .ref (ad 0)), (2, .int (iI x2_7))] [] (mW M_thrown M_w M_h M_cells M_shape M_isBoard M_isBlank M_lives M_moves M_parts M_numbers M_grade M_reasons M_total M_near M_degree M_mine M_state M_history M_oldLives M_safe M_mined M_used M_partOf M_placeOf M_partSize M_ways M_with M_masks M_rests M_bits M_reach M_more M_reason M_big M_region) := by
            intro h
            replace h := hJ_22 h
            refine wa_iconst C (z := 1) dX12_isSolved_35 rfl ?_
            refine wa_goto C (tgt := 40) dX12_isSolved_36 (by decide) ?_
            refine wa_sub C [0, 1] rfl ?_
            exact k_12 1 (inR_k 1 rfl) h
          refine wa_if_ne C (tgt := 35) (inR_b rv_21) dX12_isSolved_22 (by decide) (fun c_24 => ?_) (fun c_24 => ?_)
          · replace h := h.1 c_24
            refine wa_sub C [0, 2] rfl ?_
            exact k_23 h
          · replace h := h.2 c_24
            refine wa_aload_n C 0 rfl dX12_isSolved_25 rfl ?_
            refine wa_getR C 0 10 mW_0 rfl rfl (by decide) okX12 gw_1242 dX12_isSolved_26 ?_
            refine wa_iload_n C 2 rfl dX12_isSolved_29 rfl ?_
            obtain ⟨t_25, h⟩ := h
            refine wa_iald C 4 mW_4 dX12_isSolved_30 t_25.1 t_25.2 (fun v_26 ev_26 rv_26 => ?_)
            replace h := h v_26 ev_26 rv_26
            refine wa_iconst C (z := 1) dX12_isSolved_31 rfl ?_
            refine wa_icmp_ne C (tgt := 39) rv_26 (inR_k 1 rfl) dX12_isSolved_32 (by decide) (fun c_27 => ?_) (fun c_27 => ?_)
            · replace h := h.1 c_27
              refine wa_sub C [0, 2] rfl ?_
              exact k_18 h
            · replace h := h.2 c_27
              refine wa_sub C [0, 2] rfl ?_
              exact k_23 h
  refine wa_sub C [2, 1, 0] rfl ?_
  exact k_5 n_2 1 0 (inR_k 1 rfl) (inR_k 0 rfl) h0Inv_1
def P_X12_uncover (post : (Int) → (Int → Int) → Prop) (M_cells : Int) (M_lives : Int) (M_near : Int → Int) (M_degree : Int → Int) (M_mine : Int → Int) (M_state : Int → Int) (x1 : Int) : Prop :=
  (0 ≤ x1 ∧ x1 < 144) ∧ (∀ v_2 : Int, v_2 = M_mine x1 → (v_2 = 0 ∨ v_2 = 1) → ((v_2 = 0 → ((0 ≤ x1 ∧ x1 < 144) ∧ (∀ M_state_5 : Int → Int, M_state_5 = upZ M_state x1 1 → (∃ Inv_6 : Nat → (Int) → (Int → Int) → Prop, (∃ n_7 : Nat, Inv_6 n_7 1 M_state_5) ∧ ∀ (n_8 : Nat) (x2_11 : Int) (M_state_12 : Int → Int), inR x2_11 → Inv_6 n_8 x2_11 M_state_12 → ((x2_11 = 0 → (post M_lives M_state_12)) ∧ (¬ x2_11 = 0 → (∃ Inv_14 : Nat → (Int) → (Int) → (Int → Int) → Prop, (∃ n_15 : Nat, Inv_14 n_15 0 0 M_state_12) ∧ ∀ (n_16 : Nat) (x2_19 : Int) (x3_20 : Int) (M_state_21 : Int → Int), inR x2_19 → inR x3_20 → Inv_14 n_16 x2_19 x3_20 M_state_21 → ((M_cells ≤ x3_20 → (∃ n_24 : Nat, n_24 < n_8 ∧ Inv_6 n_24 x2_19 M_state_21)) ∧ (¬ M_cells ≤ x3_20 → (∃ Inv_25 : Nat → (Int) → (Int) → (Int → Int) → Prop, (∃ n_26 : Nat, Inv_25 n_26 x2_19 0 M_state_21) ∧ ∀ (n_27 : Nat) (x2_30 : Int) (x4_31 : Int) (M_state_32 : Int → Int), inR x2_30 → inR x4_31 → Inv_25 n_27 x2_30 x4_31 M_state_32 → ((0 ≤ x3_20 ∧ x3_20 < 144) ∧ (∀ v_34 : Int, v_34 = M_degree x3_20 → inR v_34 → (∃ J_35 : Prop, ((v_34 ≤ x4_31 → (J_35)) ∧ (¬ v_34 ≤ x4_31 → ((0 ≤ x3_20 ∧ x3_20 < 144) ∧ (∀ v_42 : Int, v_42 = M_state_32 x3_20 → inR v_42 → ((¬ v_42 = 1 → (J_35)) ∧ (v_42 = 1 → (P_X12_numberOf (fun (c_44 : Int) => inR c_44 → ((¬ c_44 = 0 → (J_35)) ∧ (c_44 = 0 → ((0 ≤ ((8 * x3_20) + x4_31) ∧ ((8 * x3_20) + x4_31) < 1152) ∧ (∀ v_47 : Int, v_47 = M_near ((8 * x3_20) + x4_31) → inR v_47 → (P_X12_isUnknown (fun (c_48 : Int) => (c_48 = 0 ∨ c_48 = 1) → (∃ J_49 : (Int) → (Int → Int) → Prop, ((c_48 = 0 → (J_49 x2_30 M_state_32)) ∧ (¬ c_48 = 0 → ((0 ≤ v_47 ∧ v_47 < 144) ∧ (∀ v_58 : Int, v_58 = M_mine v_47 → (v_58 = 0 ∨ v_58 = 1) → ((¬ v_58 = 0 → (J_49 x2_30 M_state_32)) ∧ (v_58 = 0 → ((0 ≤ v_47 ∧ v_47 < 144) ∧ (∀ M_state_61 : Int → Int, M_state_61 = upZ M_state_32 v_47 1 → (J_49 1 M_state_61))))))))) ∧ (∀ (x2_51 : Int) (M_state_52 : Int → Int), inR x2_51 → J_49 x2_51 M_state_52 → (inR (x4_31 + 1) ∧ (∀ x4_54 : Int, x4_54 = (x4_31 + 1) → (∃ n_55 : Nat, n_55 < n_27 ∧ Inv_25 n_55 x2_51 x4_54 M_state_52)))))) M_state_32 v_47)))))) M_near M_degree M_mine x3_20))))))) ∧ (J_35 → (inR (x3_20 + 1) ∧ (∀ x3_38 : Int, x3_38 = (x3_20 + 1) → (∃ n_39 : Nat, n_39 < n_16 ∧ Inv_14 n_39 x2_30 x3_38 M_state_32))))))))))))))))) ∧ (¬ v_2 = 0 → ((0 ≤ x1 ∧ x1 < 144) ∧ (∀ M_state_63 : Int → Int, M_state_63 = upZ M_state x1 3 → (inR (M_lives - 1) ∧ (∀ M_lives_66 : Int, M_lives_66 = (M_lives - 1) → (post M_lives_66 M_state_63))))))))
set_option maxRecDepth 100000 in
set_option maxHeartbeats 4000000 in
theorem c_X12_uncover (l : Launch) (K : wK) (ad : Nat → Nat) {M_thrown : Int} {M_w : Int} {M_h : Int} {M_cells : Int} {M_shape : Int} {M_isBoard : Int} {M_isBlank : Int} {M_lives : Int} {M_moves : Int} {M_parts : Int} {M_numbers : Int} {M_grade : Int} {M_reasons : Int} {M_total : Int} {M_near : Int → Int} {M_degree : Int → Int} {M_mine : Int → Int} {M_state : Int → Int} {M_history : Int → Int64} {M_oldLives : Int → Int} {M_safe : Int → Int} {M_mined : Int → Int} {M_used : Int → Int} {M_partOf : Int → Int} {M_placeOf : Int → Int} {M_partSize : Int → Int} {M_ways : Int → Int} {M_with : Int → Int} {M_masks : Int → Int} {M_rests : Int → Int} {M_bits : Int → Int} {M_reach : Int → Int} {M_more : Int → Int} {M_reason : Int → Int} {M_big : Int → Int64} {M_region : Int → Int} (x1 : Int) (rx1 : inR x1) (post : (Int) → (Int → Int) → Prop) (h : P_X12_uncover post M_cells M_lives M_near M_degree M_mine M_state x1) : mV l yX12_uncover (Cond.code yX12_uncover cX12_uncover 6 none :: GT) ({ frames := 3, cells := 0, slots := 0, locals := 180 } : Room) [.ref (ad 0), .int (iI x1)] K ad (mW M_thrown M_w M_h M_cells M_shape M_isBoard M_isBlank M_lives M_moves M_parts M_numbers M_grade M_reasons M_total M_near M_degree M_mine M_state M_history M_oldLives M_safe M_mined M_used M_partOf M_placeOf M_partSize M_ways M_with M_masks M_rests M_bits M_reach M_more M_reason M_big M_region) (fun u9 => ∃ M_lives9 M_state9, u9 = (mW M_thrown M_w M_h M_cells M_shape M_isBoard M_isBlank M_lives9 M_moves M_parts M_numbers M_grade M_reasons M_total M_near M_degree M_mine M_state9 M_history M_oldLives M_safe M_mined M_used M_partOf M_placeOf M_partSize M_ways M_with M_masks M_rests M_bits M_reach M_more M_reason M_big M_region) ∧ post M_lives9 M_state9) := by
  refine mV_of (lv0 := [(0, .ref (ad 0)), (1, .int (iI x1))]) (by decide) (Nat.le_of_ble_eq_true rfl) rfl ?_
  intro p e s m args below meth c Q A C ret
  replace C : Cx p ({ frames := 3, cells := 0, slots := 0, locals := 180 } : Room) m c 0 0 cX12_uncover 6 s args RX12 K A := C
  unfold P_X12_uncover at h
  refine wa_aload_n C 0 rfl dX12_uncover_0 rfl ?_
  refine wa_getR C 0 9 mW_0 rfl rfl (by decide) okX12 gw_1241 dX12_uncover_1 ?_
  refine wa_iload_n C 1 rfl dX12_uncover_4 rfl ?_
  obtain ⟨t_1, h⟩ := h
  refine wa_bald C 3 mW_3 dX12_uncover_5 t_1.1 t_1.2 (fun v_2 ev_2 rv_2 => ?_)
  replace h := h v_2 ev_2 rv_2
  refine wa_if_eq C (tgt := 27) (inR_b rv_2) dX12_uncover_6 (by decide) (fun c_3 => ?_) (fun c_3 => ?_)
  · replace h := h.1 c_3
    refine wa_aload_n C 0 rfl dX12_uncover_27 rfl ?_
    refine wa_getR C 0 10 mW_0 rfl rfl (by decide) okX12 gw_1242 dX12_uncover_28 ?_
    refine wa_iload_n C 1 rfl dX12_uncover_31 rfl ?_
    refine wa_iconst C (z := 1) dX12_uncover_32 rfl ?_
    obtain ⟨t_4, h⟩ := h
    refine wa_iast C (ws' := fun w9 => (mW M_thrown M_w M_h M_cells M_shape M_isBoard M_isBlank M_lives M_moves M_parts M_numbers M_grade M_reasons M_total M_near M_degree M_mine w9 M_history M_oldLives M_safe M_mined M_used M_partOf M_placeOf M_partSize M_ways M_with M_masks M_rests M_bits M_reach M_more M_reason M_big M_region)) 4 mW_4 dX12_uncover_33 t_4.1 t_4.2 (inR_k 1 rfl) mWs_4 (fun M_state_5 eM_state_5 => ?_)
    replace h := h M_state_5 eM_state_5
    refine wa_iconst C (z := 1) dX12_uncover_34 rfl ?_
    refine wa_istore_n C dX12_uncover_35 rfl (by decide) rfl ?_
    obtain ⟨Inv_6, ⟨n_7, h0Inv_6⟩, hInv_6⟩ := h
    have k_10 : ∀ (n_8 : Nat) (x2_11 : Int) (M_state_12 : Int → Int), inR x2_11 → Inv_6 n_8 x2_11 M_state_12 → WA p l e ({ frames := 3, cells := 0, slots := 0, locals := 180 } : Room) s m args below meth c 0 0 Q K ad 6 A 36 [(0, .ref (ad 0)), (2, .int (iI x2_11))] [] (mW M_thrown M_w M_h M_cells M_shape M_isBoard M_isBlank M_lives M_moves M_parts M_numbers M_grade M_reasons M_total M_near M_degree M_mine M_state_12 M_history M_oldLives M_safe M_mined M_used M_partOf M_placeOf M_partSize M_ways M_with M_masks M_rests M_bits M_reach M_more M_reason M_big M_region) := by
      intro n_8
      induction n_8 using Nat.strongRecOn with
      | ind n_8 ih_9 =>
        intro x2_11 M_state_12 rx2_11 h
        replace h := hInv_6 n_8 x2_11 M_state_12 rx2_11 h
        refine wa_iload_n C 1 rfl dX12_uncover_36 rfl ?_
        refine wa_if_eq C (tgt := 142) rx2_11 dX12_uncover_37 (by decide) (fun c_13 => ?_) (fun c_13 => ?_)
        · replace h := h.1 c_13
          exact ret dX12_uncover_142 ⟨_, _, rfl, h⟩
        · replace h := h.2 c_13
          refine wa_iconst C (z := 0) dX12_uncover_40 rfl ?_
          refine wa_istore_n C dX12_uncover_41 rfl (by decide) rfl ?_
          refine wa_iconst C (z := 0) dX12_uncover_42 rfl ?_
          refine wa_istore_n C dX12_uncover_43 rfl (by decide) rfl ?_
          obtain ⟨Inv_14, ⟨n_15, h0Inv_14⟩, hInv_14⟩ := h
          have k_18 : ∀ (n_16 : Nat) (x2_19 : Int) (x3_20 : Int) (M_state_21 : Int → Int), inR x2_19 → inR x3_20 → Inv_14 n_16 x2_19 x3_20 M_state_21 → WA p l e ({ frames := 3, cells := 0, slots := 0, locals := 180 } : Room) s m args below meth c 0 0 Q K ad 6 A 44 [(0, .ref (ad 0)), (2, .int (iI x2_19)), (3, .int (iI x3_20))] [] (mW M_thrown M_w M_h M_cells M_shape M_isBoard M_isBlank M_lives M_moves M_parts M_numbers M_grade M_reasons M_total M_near M_degree M_mine M_state_21 M_history M_oldLives M_safe M_mined M_used M_partOf M_placeOf M_partSize M_ways M_with M_masks M_rests M_bits M_reach M_more M_reason M_big M_region) := by
            intro n_16
            induction n_16 using Nat.strongRecOn with
            | ind n_16 ih_17 =>
              intro x2_19 x3_20 M_state_21 rx2_19 rx3_20 h
              replace h := hInv_14 n_16 x2_19 x3_20 M_state_21 rx2_19 rx3_20 h
              refine wa_iload_n C 2 rfl dX12_uncover_44 rfl ?_
              refine wa_aload_n C 0 rfl dX12_uncover_45 rfl ?_
              refine wa_getI C 0 3 mW_0 rfl rfl (by decide) okX12 gw_1235 dX12_uncover_46 (fun r_22 => ?_)
              refine wa_icmp_ge C (tgt := 139) rx3_20 r_22 dX12_uncover_49 (by decide) (fun c_23 => ?_) (fun c_23 => ?_)
              · replace h := h.1 c_23
                refine wa_goto C (tgt := 36) dX12_uncover_139 (by decide) ?_
                obtain ⟨n_24, ln_24, h⟩ := h
                refine wa_sub C [0, 1] rfl ?_
                exact ih_9 n_24 ln_24 x2_19 M_state_21 rx2_19 h
              · replace h := h.2 c_23
                refine wa_iconst C (z := 0) dX12_uncover_52 rfl ?_
                refine wa_istore C dX12_uncover_53 (by decide) rfl ?_
                obtain ⟨Inv_25, ⟨n_26, h0Inv_25⟩, hInv_25⟩ := h
                have k_29 : ∀ (n_27 : Nat) (x2_30 : Int) (x4_31 : Int) (M_state_32 : Int → Int), inR x2_30 → inR x4_31 → Inv_25 n_27 x2_30 x4_31 M_state_32 → WA p l e ({ frames := 3, cells := 0, slots := 0, locals := 180 } : Room) s m args below meth c 0 0 Q K ad 6 A 55 [(0, .ref (ad 0)), (2, .int (iI x2_30)), (3, .int (iI x3_20)), (4, .int (iI x4_31))] [] (mW M_thrown M_w M_h M_cells M_shape M_isBoard M_isBlank M_lives M_moves M_parts M_numbers M_grade M_reasons M_total M_near M_degree M_mine M_state_32 M_history M_oldLives M_safe M_mined M_used M_partOf M_placeOf M_partSize M_ways M_with M_masks M_rests M_bits M_reach M_more M_reason M_big M_region) := by
                  intro n_27
                  induction n_27 using Nat.strongRecOn with
                  | ind n_27 ih_28 =>
                    intro x2_30 x4_31 M_state_32 rx2_30 rx4_31 h
                    replace h := hInv_25 n_27 x2_30 x4_31 M_state_32 rx2_30 rx4_31 h
                    refine wa_iload C 3 rfl dX12_uncover_55 ?_
                    refine wa_aload_n C 0 rfl dX12_uncover_57 rfl ?_
                    refine wa_getR C 0 8 mW_0 rfl rfl (by decide) okX12 gw_1240 dX12_uncover_58 ?_
                    refine wa_iload_n C 2 rfl dX12_uncover_61 rfl ?_
                    obtain ⟨t_33, h⟩ := h
                    refine wa_iald C 2 mW_2 dX12_uncover_62 t_33.1 t_33.2 (fun v_34 ev_34 rv_34 => ?_)
                    replace h := h v_34 ev_34 rv_34
                    obtain ⟨J_35, h, hJ_35⟩ := h
                    have k_36 : J_35 → WA p l e ({ frames := 3, cells := 0, slots := 0, locals := 180 } : Room) s m args below meth c 0 0 Q K ad 6 A 133 [(0, .ref (ad 0)), (2, .int (iI x2_30)), (3, .int (iI x3_20))] [] (mW M_thrown M_w M_h M_cells M_shape M_isBoard M_isBlank M_lives M_moves M_parts M_numbers M_grade M_reasons M_total M_near M_degree M_mine M_state_32 M_history M_oldLives M_safe M_mined M_used M_partOf M_placeOf M_partSize M_ways M_with M_masks M_rests M_bits M_reach M_more M_reason M_big M_region) := by
                      intro h
                      replace h := hJ_35 h
                      obtain ⟨r_37, h⟩ := h
                      refine wa_iinc C (lv' := fun w9 => [(3, .int (iI w9)), (0, .ref (ad 0)), (2, .int (iI x2_30))]) 2 rfl dX12_uncover_133 (by decide) (fun _ => rfl) (fun x3_38 ex3_38 => ?_)
                      replace h := h x3_38 ex3_38
                      have rx3_38 : inR x3_38 := by rw [ex3_38]; exact r_37
                      refine wa_goto C (tgt := 44) dX12_uncover_136 (by decide) ?_
                      obtain ⟨n_39, ln_39, h⟩ := h
                      refine wa_sub C [1, 2, 0] rfl ?_
                      exact ih_17 n_39 ln_39 x2_30 x3_38 M_state_32 rx2_30 rx3_38 h
                    refine wa_icmp_ge C (tgt := 133) rx4_31 rv_34 dX12_uncover_63 (by decide) (fun c_40 => ?_) (fun c_40 => ?_)
                    · replace h := h.1 c_40
                      refine wa_sub C [0, 1, 2] rfl ?_
                      exact k_36 h
                    · replace h := h.2 c_40
                      refine wa_aload_n C 0 rfl dX12_uncover_66 rfl ?_
                      refine wa_getR C 0 10 mW_0 rfl rfl (by decide) okX12 gw_1242 dX12_uncover_67 ?_
                      refine wa_iload_n C 2 rfl dX12_uncover_70 rfl ?_
                      obtain ⟨t_41, h⟩ := h
                      refine wa_iald C 4 mW_4 dX12_uncover_71 t_41.1 t_41.2 (fun v_42 ev_42 rv_42 => ?_)
                      replace h := h v_42 ev_42 rv_42
                      refine wa_iconst C (z := 1) dX12_uncover_72 rfl ?_
                      refine wa_icmp_ne C (tgt := 133) rv_42 (inR_k 1 rfl) dX12_uncover_73 (by decide) (fun c_43 => ?_) (fun c_43 => ?_)
                      · replace h := h.1 c_43
                        refine wa_sub C [0, 1, 2] rfl ?_
                        exact k_36 h
                      · replace h := h.2 c_43
                        refine wa_aload_n C 0 rfl dX12_uncover_76 rfl ?_
                        refine wa_iload_n C 2 rfl dX12_uncover_77 rfl ?_
                        refine wa_callVi C (k := 0) (As := [.int (iI x3_20)]) (rest := []) (c_X12_numberOf l K ad x3_20 rx3_20 _ h) gw_1407 gw_1404 mW_0 rfl gw_1406 gs_62 gw_12 q_X12_numberOf rfl rfl rfl ⟨by decide, by decide⟩ rfl (Nat.le_of_ble_eq_true rfl) dX12_uncover_78 (fun c_44 u9 rc_44 hp => ?_)
                        obtain ⟨rfl, h⟩ := hp
                        replace h := h rc_44
                        refine wa_if_ne C (tgt := 133) rc_44 dX12_uncover_81 (by decide) (fun c_45 => ?_) (fun c_45 => ?_)
                        · replace h := h.1 c_45
                          refine wa_sub C [0, 1, 2] rfl ?_
                          exact k_36 h
                        · replace h := h.2 c_45
                          refine wa_aload_n C 0 rfl dX12_uncover_84 rfl ?_
                          refine wa_getR C 0 7 mW_0 rfl rfl (by decide) okX12 gw_1239 dX12_uncover_85 ?_
                          refine wa_bipush C (z := 8) dX12_uncover_88 (by decide) ?_
                          refine wa_iload_n C 2 rfl dX12_uncover_90 rfl ?_
                          refine wa_imul C dX12_uncover_91 ?_
                          refine wa_iload C 3 rfl dX12_uncover_92 ?_
                          refine wa_iadd C dX12_uncover_94 ?_
                          obtain ⟨t_46, h⟩ := h
                          refine wa_iald C 1 mW_1 dX12_uncover_95 t_46.1 t_46.2 (fun v_47 ev_47 rv_47 => ?_)
                          replace h := h v_47 ev_47 rv_47
                          refine wa_istore C dX12_uncover_96 (by decide) rfl ?_
                          refine wa_aload_n C 1 rfl dX12_uncover_98 rfl ?_
                          refine wa_iload C 0 rfl dX12_uncover_99 ?_
                          refine wa_callVi C (k := 0) (As := [.int (iI v_47)]) (rest := []) (c_X12_isUnknown l K ad v_47 rv_47 _ h) gw_1411 gw_1408 mW_0 rfl gw_1410 gs_63 gw_12 q_X12_isUnknown rfl rfl rfl ⟨by decide, by decide⟩ rfl (Nat.le_of_ble_eq_true rfl) dX12_uncover_101 (fun c_48 u9 rc_48 hp => ?_)
                          obtain ⟨bc_48, rfl, h⟩ := hp
                          replace h := h bc_48
                          obtain ⟨J_49, h, hJ_49⟩ := h
                          have k_50 : ∀ (x2_51 : Int) (M_state_52 : Int → Int), inR x2_51 → J_49 x2_51 M_state_52 → WA p l e ({ frames := 3, cells := 0, slots := 0, locals := 180 } : Room) s m args below meth c 0 0 Q K ad 6 A 127 [(0, .ref (ad 0)), (2, .int (iI x2_51)), (3, .int (iI x3_20)), (4, .int (iI x4_31))] [] (mW M_thrown M_w M_h M_cells M_shape M_isBoard M_isBlank M_lives M_moves M_parts M_numbers M_grade M_reasons M_total M_near M_degree M_mine M_state_52 M_history M_oldLives M_safe M_mined M_used M_partOf M_placeOf M_partSize M_ways M_with M_masks M_rests M_bits M_reach M_more M_reason M_big M_region) := by
                            intro x2_51 M_state_52 rx2_51 h
                            replace h := hJ_49 x2_51 M_state_52 rx2_51 h
                            obtain ⟨r_53, h⟩ := h
                            refine wa_iinc C (lv' := fun w9 => [(4, .int (iI w9)), (0, .ref (ad 0)), (2, .int (iI x2_51)), (3, .int (iI x3_20))]) 3 rfl dX12_uncover_127 (by decide) (fun _ => rfl) (fun x4_54 ex4_54 => ?_)
                            replace h := h x4_54 ex4_54
                            have rx4_54 : inR x4_54 := by rw [ex4_54]; exact r_53
                            refine wa_goto C (tgt := 55) dX12_uncover_130 (by decide) ?_
                            obtain ⟨n_55, ln_55, h⟩ := h
                            refine wa_sub C [1, 2, 3, 0] rfl ?_
                            exact ih_28 n_55 ln_55 x2_51 x4_54 M_state_52 rx2_51 rx4_54 h
                          refine wa_if_eq C (tgt := 127) (inR_b bc_48) dX12_uncover_104 (by decide) (fun c_56 => ?_) (fun c_56 => ?_)
                          · replace h := h.1 c_56
                            refine wa_sub C [1, 2, 3, 4] rfl ?_
                            exact k_50 x2_30 M_state_32 rx2_30 h
                          · replace h := h.2 c_56
                            refine wa_aload_n C 1 rfl dX12_uncover_107 rfl ?_
                            refine wa_getR C 0 9 mW_0 rfl rfl (by decide) okX12 gw_1241 dX12_uncover_108 ?_
                            refine wa_iload C 0 rfl dX12_uncover_111 ?_
                            obtain ⟨t_57, h⟩ := h
                            refine wa_bald C 3 mW_3 dX12_uncover_113 t_57.1 t_57.2 (fun v_58 ev_58 rv_58 => ?_)
                            replace h := h v_58 ev_58 rv_58
                            refine wa_if_ne C (tgt := 127) (inR_b rv_58) dX12_uncover_114 (by decide) (fun c_59 => ?_) (fun c_59 => ?_)
                            · replace h := h.1 c_59
                              refine wa_sub C [1, 2, 3, 4] rfl ?_
                              exact k_50 x2_30 M_state_32 rx2_30 h
                            · replace h := h.2 c_59
                              refine wa_aload_n C 1 rfl dX12_uncover_117 rfl ?_
                              refine wa_getR C 0 10 mW_0 rfl rfl (by decide) okX12 gw_1242 dX12_uncover_118 ?_
                              refine wa_iload C 0 rfl dX12_uncover_121 ?_
                              refine wa_iconst C (z := 1) dX12_uncover_123 rfl ?_
                              obtain ⟨t_60, h⟩ := h
                              refine wa_iast C (ws' := fun w9 => (mW M_thrown M_w M_h M_cells M_shape M_isBoard M_isBlank M_lives M_moves M_parts M_numbers M_grade M_reasons M_total M_near M_degree M_mine w9 M_history M_oldLives M_safe M_mined M_used M_partOf M_placeOf M_partSize M_ways M_with M_masks M_rests M_bits M_reach M_more M_reason M_big M_region)) 4 mW_4 dX12_uncover_124 t_60.1 t_60.2 (inR_k 1 rfl) mWs_4 (fun M_state_61 eM_state_61 => ?_)
                              replace h := h M_state_61 eM_state_61
                              refine wa_iconst C (z := 1) dX12_uncover_125 rfl ?_
                              refine wa_istore_n C dX12_uncover_126 rfl (by decide) rfl ?_
                              refine wa_sub C [2, 0, 3, 4] rfl ?_
                              exact k_50 1 M_state_61 (inR_k 1 rfl) h
                refine wa_sub C [1, 2, 3, 0] rfl ?_
                exact k_29 n_26 x2_19 0 M_state_21 rx2_19 (inR_k 0 rfl) h0Inv_25
          refine wa_sub C [2, 1, 0] rfl ?_
          exact k_18 n_15 0 0 M_state_12 (inR_k 0 rfl) (inR_k 0 rfl) h0Inv_14
    refine wa_sub C [1, 0] rfl ?_
    exact k_10 n_7 1 M_state_5 (inR_k 1 rfl) h0Inv_6
  · replace h := h.2 c_3
    refine wa_aload_n C 0 rfl dX12_uncover_9 rfl ?_
    refine wa_getR C 0 10 mW_0 rfl rfl (by decide) okX12 gw_1242 dX12_uncover_10 ?_
    refine wa_iload_n C 1 rfl dX12_uncover_13 rfl ?_
    refine wa_iconst C (z := 3) dX12_uncover_14 rfl ?_
    obtain ⟨t_62, h⟩ := h
    refine wa_iast C (ws' := fun w9 => (mW M_thrown M_w M_h M_cells M_shape M_isBoard M_isBlank M_lives M_moves M_parts M_numbers M_grade M_reasons M_total M_near M_degree M_mine w9 M_history M_oldLives M_safe M_mined M_used M_partOf M_placeOf M_partSize M_ways M_with M_masks M_rests M_bits M_reach M_more M_reason M_big M_region)) 4 mW_4 dX12_uncover_15 t_62.1 t_62.2 (inR_k 3 rfl) mWs_4 (fun M_state_63 eM_state_63 => ?_)
    replace h := h M_state_63 eM_state_63
    refine wa_aload_n C 0 rfl dX12_uncover_16 rfl ?_
    refine wa_dup C dX12_uncover_17 rfl ?_
    refine wa_getI C 0 11 mW_0 rfl rfl (by decide) okX12 gw_1243 dX12_uncover_18 (fun r_64 => ?_)
    refine wa_iconst C (z := 1) dX12_uncover_21 rfl ?_
    refine wa_isub C dX12_uncover_22 ?_
    obtain ⟨r_65, h⟩ := h
    refine wa_nmi (fun M_lives_66 eM_lives_66 => ?_)
    replace h := h M_lives_66 eM_lives_66
    have rM_lives_66 : inR M_lives_66 := by rw [eM_lives_66]; exact r_65
    refine wa_putI C (ws' := (mW M_thrown M_w M_h M_cells M_shape M_isBoard M_isBlank M_lives_66 M_moves M_parts M_numbers M_grade M_reasons M_total M_near M_degree M_mine M_state_63 M_history M_oldLives M_safe M_mined M_used M_partOf M_placeOf M_partSize M_ways M_with M_masks M_rests M_bits M_reach M_more M_reason M_big M_region)) 0 11 mW_0 rfl (by decide) okX12 gw_1243 rfl rfl (Nat.le_of_ble_eq_true rfl) rM_lives_66 (mWp_0_11 _) dX12_uncover_23 ?_
    exact ret dX12_uncover_26 ⟨_, _, rfl, h⟩
def P_X12_isKept (post : Int → Prop) (M_near : Int → Int) (M_degree : Int → Int) (x1 : Int) (x2 : Int) : Prop :=
  ∃ J_1 : (Int) → Prop, ((¬ x2 = x1 → (J_1 0)) ∧ (x2 = x1 → (J_1 1))) ∧ (∀ (z_3 : Int), inR z_3 → J_1 z_3 → (∃ Inv_4 : Nat → (Int) → (Int) → Prop, (∃ n_5 : Nat, Inv_4 n_5 z_3 0) ∧ ∀ (n_6 : Nat) (x3_9 : Int) (x4_10 : Int), inR x3_9 → inR x4_10 → Inv_4 n_6 x3_9 x4_10 → ((0 ≤ x1 ∧ x1 < 144) ∧ (∀ v_12 : Int, v_12 = M_degree x1 → inR v_12 → ((v_12 ≤ x4_10 → ((x3_9 = 0 ∨ x3_9 = 1) ∧ (post x3_9))) ∧ (¬ v_12 ≤ x4_10 → (∃ J_15 : (Int) → Prop, (∃ J_21 : Prop, ((¬ x3_9 = 0 → (J_21)) ∧ (x3_9 = 0 → ((0 ≤ ((8 * x1) + x4_10) ∧ ((8 * x1) + x4_10) < 1152) ∧ (∀ v_25 : Int, v_25 = M_near ((8 * x1) + x4_10) → inR v_25 → ((¬ v_25 = x2 → (J_15 0)) ∧ (v_25 = x2 → (J_21))))))) ∧ (J_21 → (J_15 1))) ∧ (∀ (z_17 : Int), inR z_17 → J_15 z_17 → (inR (x4_10 + 1) ∧ (∀ x4_19 : Int, x4_19 = (x4_10 + 1) → (∃ n_20 : Nat, n_20 < n_6 ∧ Inv_4 n_20 z_17 x4_19)))))))))))
set_option maxRecDepth 100000 in
set_option maxHeartbeats 4000000 in
theorem c_X12_isKept (l : Launch) (K : wK) (ad : Nat → Nat) {M_thrown : Int} {M_w : Int} {M_h : Int} {M_cells : Int} {M_shape : Int} {M_isBoard : Int} {M_isBlank : Int} {M_lives : Int} {M_moves : Int} {M_parts : Int} {M_numbers : Int} {M_grade : Int} {M_reasons : Int} {M_total : Int} {M_near : Int → Int} {M_degree : Int → Int} {M_mine : Int → Int} {M_state : Int → Int} {M_history : Int → Int64} {M_oldLives : Int → Int} {M_safe : Int → Int} {M_mined : Int → Int} {M_used : Int → Int} {M_partOf : Int → Int} {M_placeOf : Int → Int} {M_partSize : Int → Int} {M_ways : Int → Int} {M_with : Int → Int} {M_masks : Int → Int} {M_rests : Int → Int} {M_bits : Int → Int} {M_reach : Int → Int} {M_more : Int → Int} {M_reason : Int → Int} {M_big : Int → Int64} {M_region : Int → Int} (x1 : Int) (x2 : Int) (rx1 : inR x1) (rx2 : inR x2) (post : Int → Prop) (h : P_X12_isKept post M_near M_degree x1 x2) : mI l yX12_isKept (Cond.code yX12_isKept cX12_isKept 5 (some .boolean) :: GT) ({ frames := 2, cells := 0, slots := 0, locals := 120 } : Room) [.ref (ad 0), .int (iI x1), .int (iI x2)] K ad (mW M_thrown M_w M_h M_cells M_shape M_isBoard M_isBlank M_lives M_moves M_parts M_numbers M_grade M_reasons M_total M_near M_degree M_mine M_state M_history M_oldLives M_safe M_mined M_used M_partOf M_placeOf M_partSize M_ways M_with M_masks M_rests M_bits M_reach M_more M_reason M_big M_region) (fun z9 u9 => (z9 = 0 ∨ z9 = 1) ∧ u9 = (mW M_thrown M_w M_h M_cells M_shape M_isBoard M_isBlank M_lives M_moves M_parts M_numbers M_grade M_reasons M_total M_near M_degree M_mine M_state M_history M_oldLives M_safe M_mined M_used M_partOf M_placeOf M_partSize M_ways M_with M_masks M_rests M_bits M_reach M_more M_reason M_big M_region) ∧ post z9) := by
  refine mZ_of (lv0 := [(0, .ref (ad 0)), (1, .int (iI x1)), (2, .int (iI x2))]) (by decide) (Nat.le_of_ble_eq_true rfl) rfl ?_
  intro p e s m args below meth c Q A C ret
  replace C : Cx p ({ frames := 2, cells := 0, slots := 0, locals := 120 } : Room) m c 0 0 cX12_isKept 5 s args RX12 K A := C
  unfold P_X12_isKept at h
  refine wa_iload_n C 2 rfl dX12_isKept_0 rfl ?_
  refine wa_iload_n C 1 rfl dX12_isKept_1 rfl ?_
  obtain ⟨J_1, h, hJ_1⟩ := h
  have k_2 : ∀ (z_3 : Int), inR z_3 → J_1 z_3 → WA p l e ({ frames := 2, cells := 0, slots := 0, locals := 120 } : Room) s m args below meth c 0 0 Q K ad 5 A 10 [(0, .ref (ad 0)), (1, .int (iI x1)), (2, .int (iI x2))] [.int (iI z_3)] (mW M_thrown M_w M_h M_cells M_shape M_isBoard M_isBlank M_lives M_moves M_parts M_numbers M_grade M_reasons M_total M_near M_degree M_mine M_state M_history M_oldLives M_safe M_mined M_used M_partOf M_placeOf M_partSize M_ways M_with M_masks M_rests M_bits M_reach M_more M_reason M_big M_region) := by
    intro z_3 rz_3 h
    replace h := hJ_1 z_3 rz_3 h
    refine wa_istore_n C dX12_isKept_10 rfl (by decide) rfl ?_
    refine wa_iconst C (z := 0) dX12_isKept_11 rfl ?_
    refine wa_istore C dX12_isKept_12 (by decide) rfl ?_
    obtain ⟨Inv_4, ⟨n_5, h0Inv_4⟩, hInv_4⟩ := h
    have k_8 : ∀ (n_6 : Nat) (x3_9 : Int) (x4_10 : Int), inR x3_9 → inR x4_10 → Inv_4 n_6 x3_9 x4_10 → WA p l e ({ frames := 2, cells := 0, slots := 0, locals := 120 } : Room) s m args below meth c 0 0 Q K ad 5 A 14 [(0, .ref (ad 0)), (1, .int (iI x1)), (2, .int (iI x2)), (3, .int (iI x3_9)), (4, .int (iI x4_10))] [] (mW M_thrown M_w M_h M_cells M_shape M_isBoard M_isBlank M_lives M_moves M_parts M_numbers M_grade M_reasons M_total M_near M_degree M_mine M_state M_history M_oldLives M_safe M_mined M_used M_partOf M_placeOf M_partSize M_ways M_with M_masks M_rests M_bits M_reach M_more M_reason M_big M_region) := by
      intro n_6
      induction n_6 using Nat.strongRecOn with
      | ind n_6 ih_7 =>
        intro x3_9 x4_10 rx3_9 rx4_10 h
        replace h := hInv_4 n_6 x3_9 x4_10 rx3_9 rx4_10 h
        refine wa_iload C 4 rfl dX12_isKept_14 ?_
        refine wa_aload_n C 0 rfl dX12_isKept_16 rfl ?_
        refine wa_getR C 0 8 mW_0 rfl rfl (by decide) okX12 gw_1240 dX12_isKept_17 ?_
        refine wa_iload_n C 1 rfl dX12_isKept_20 rfl ?_
        obtain ⟨t_11, h⟩ := h
        refine wa_iald C 2 mW_2 dX12_isKept_21 t_11.1 t_11.2 (fun v_12 ev_12 rv_12 => ?_)
        replace h := h v_12 ev_12 rv_12
        refine wa_icmp_ge C (tgt := 57) rx4_10 rv_12 dX12_isKept_22 (by decide) (fun c_13 => ?_) (fun c_13 => ?_)
        · replace h := h.1 c_13
          refine wa_iload_n C 3 rfl dX12_isKept_57 rfl ?_
          obtain ⟨b_14, h⟩ := h
          exact ret dX12_isKept_58 b_14 ⟨b_14, rfl, h⟩
        · replace h := h.2 c_13
          refine wa_iload_n C 3 rfl dX12_isKept_25 rfl ?_
          obtain ⟨J_15, h, hJ_15⟩ := h
          have k_16 : ∀ (z_17 : Int), inR z_17 → J_15 z_17 → WA p l e ({ frames := 2, cells := 0, slots := 0, locals := 120 } : Room) s m args below meth c 0 0 Q K ad 5 A 50 [(0, .ref (ad 0)), (1, .int (iI x1)), (2, .int (iI x2)), (4, .int (iI x4_10))] [.int (iI z_17)] (mW M_thrown M_w M_h M_cells M_shape M_isBoard M_isBlank M_lives M_moves M_parts M_numbers M_grade M_reasons M_total M_near M_degree M_mine M_state M_history M_oldLives M_safe M_mined M_used M_partOf M_placeOf M_partSize M_ways M_with M_masks M_rests M_bits M_reach M_more M_reason M_big M_region) := by
            intro z_17 rz_17 h
            replace h := hJ_15 z_17 rz_17 h
            refine wa_istore_n C dX12_isKept_50 rfl (by decide) rfl ?_
            obtain ⟨r_18, h⟩ := h
            refine wa_iinc C (lv' := fun w9 => [(4, .int (iI w9)), (3, .int (iI z_17)), (0, .ref (ad 0)), (1, .int (iI x1)), (2, .int (iI x2))]) 4 rfl dX12_isKept_51 (by decide) (fun _ => rfl) (fun x4_19 ex4_19 => ?_)
            replace h := h x4_19 ex4_19
            have rx4_19 : inR x4_19 := by rw [ex4_19]; exact r_18
            refine wa_goto C (tgt := 14) dX12_isKept_54 (by decide) ?_
            obtain ⟨n_20, ln_20, h⟩ := h
            refine wa_sub C [2, 3, 4, 1, 0] rfl ?_
            exact ih_7 n_20 ln_20 z_17 x4_19 rz_17 rx4_19 h
          obtain ⟨J_21, h, hJ_21⟩ := h
          have k_22 : J_21 → WA p l e ({ frames := 2, cells := 0, slots := 0, locals := 120 } : Room) s m args below meth c 0 0 Q K ad 5 A 45 [(0, .ref (ad 0)), (1, .int (iI x1)), (2, .int (iI x2)), (4, .int (iI x4_10))] [] (mW M_thrown M_w M_h M_cells M_shape M_isBoard M_isBlank M_lives M_moves M_parts M_numbers M_grade M_reasons M_total M_near M_degree M_mine M_state M_history M_oldLives M_safe M_mined M_used M_partOf M_placeOf M_partSize M_ways M_with M_masks M_rests M_bits M_reach M_more M_reason M_big M_region) := by
            intro h
            replace h := hJ_21 h
            refine wa_iconst C (z := 1) dX12_isKept_45 rfl ?_
            refine wa_goto C (tgt := 50) dX12_isKept_46 (by decide) ?_
            refine wa_sub C [0, 1, 2, 3] rfl ?_
            exact k_16 1 (inR_k 1 rfl) h
          refine wa_if_ne C (tgt := 45) rx3_9 dX12_isKept_26 (by decide) (fun c_23 => ?_) (fun c_23 => ?_)
          · replace h := h.1 c_23
            refine wa_sub C [0, 1, 2, 4] rfl ?_
            exact k_22 h
          · replace h := h.2 c_23
            refine wa_aload_n C 0 rfl dX12_isKept_29 rfl ?_
            refine wa_getR C 0 7 mW_0 rfl rfl (by decide) okX12 gw_1239 dX12_isKept_30 ?_
            refine wa_bipush C (z := 8) dX12_isKept_33 (by decide) ?_
            refine wa_iload_n C 1 rfl dX12_isKept_35 rfl ?_
            refine wa_imul C dX12_isKept_36 ?_
            refine wa_iload C 4 rfl dX12_isKept_37 ?_
            refine wa_iadd C dX12_isKept_39 ?_
            obtain ⟨t_24, h⟩ := h
            refine wa_iald C 1 mW_1 dX12_isKept_40 t_24.1 t_24.2 (fun v_25 ev_25 rv_25 => ?_)
            replace h := h v_25 ev_25 rv_25
            refine wa_iload_n C 2 rfl dX12_isKept_41 rfl ?_
            refine wa_icmp_ne C (tgt := 49) rv_25 rx2 dX12_isKept_42 (by decide) (fun c_26 => ?_) (fun c_26 => ?_)
            · replace h := h.1 c_26
              refine wa_iconst C (z := 0) dX12_isKept_49 rfl ?_
              refine wa_sub C [0, 1, 2, 4] rfl ?_
              exact k_16 0 (inR_k 0 rfl) h
            · replace h := h.2 c_26
              refine wa_sub C [0, 1, 2, 4] rfl ?_
              exact k_22 h
    refine wa_sub C [2, 3, 4, 1, 0] rfl ?_
    exact k_8 n_5 z_3 0 rz_3 (inR_k 0 rfl) h0Inv_4
  refine wa_icmp_ne C (tgt := 9) rx2 rx1 dX12_isKept_2 (by decide) (fun c_27 => ?_) (fun c_27 => ?_)
  · replace h := h.1 c_27
    refine wa_iconst C (z := 0) dX12_isKept_9 rfl ?_
    refine wa_sub C [0, 1, 2] rfl ?_
    exact k_2 0 (inR_k 0 rfl) h
  · replace h := h.2 c_27
    refine wa_iconst C (z := 1) dX12_isKept_5 rfl ?_
    refine wa_goto C (tgt := 10) dX12_isKept_6 (by decide) ?_
    refine wa_sub C [0, 1, 2] rfl ?_
    exact k_2 1 (inR_k 1 rfl) h
def P_X12_freeAround (post : Int → Prop) (M_cells : Int) (M_near : Int → Int) (M_degree : Int → Int) (M_mine : Int → Int) (x1 : Int) : Prop :=
  ∃ Inv_1 : Nat → (Int) → (Int) → Prop, (∃ n_2 : Nat, Inv_1 n_2 0 0) ∧ ∀ (n_3 : Nat) (x2_6 : Int) (x3_7 : Int), inR x2_6 → inR x3_7 → Inv_1 n_3 x2_6 x3_7 → ((M_cells ≤ x3_7 → (post x2_6)) ∧ (¬ M_cells ≤ x3_7 → ((0 ≤ x3_7 ∧ x3_7 < 144) ∧ (∀ v_11 : Int, v_11 = M_mine x3_7 → (v_11 = 0 ∨ v_11 = 1) → (∃ J_12 : (Int) → Prop, (∃ J_20 : Prop, ((¬ v_11 = 0 → (J_20)) ∧ (v_11 = 0 → (P_X12_isKept (fun (c_23 : Int) => (c_23 = 0 ∨ c_23 = 1) → ((¬ c_23 = 0 → (J_20)) ∧ (c_23 = 0 → (J_12 1)))) M_near M_degree x1 x3_7))) ∧ (J_20 → (J_12 0))) ∧ (∀ (z_14 : Int), inR z_14 → J_12 z_14 → (inR (x2_6 + z_14) ∧ (∀ x2_16 : Int, x2_16 = (x2_6 + z_14) → (inR (x3_7 + 1) ∧ (∀ x3_18 : Int, x3_18 = (x3_7 + 1) → (∃ n_19 : Nat, n_19 < n_3 ∧ Inv_1 n_19 x2_16 x3_18)))))))))))
set_option maxRecDepth 100000 in
set_option maxHeartbeats 4000000 in
theorem c_X12_freeAround (l : Launch) (K : wK) (ad : Nat → Nat) {M_thrown : Int} {M_w : Int} {M_h : Int} {M_cells : Int} {M_shape : Int} {M_isBoard : Int} {M_isBlank : Int} {M_lives : Int} {M_moves : Int} {M_parts : Int} {M_numbers : Int} {M_grade : Int} {M_reasons : Int} {M_total : Int} {M_near : Int → Int} {M_degree : Int → Int} {M_mine : Int → Int} {M_state : Int → Int} {M_history : Int → Int64} {M_oldLives : Int → Int} {M_safe : Int → Int} {M_mined : Int → Int} {M_used : Int → Int} {M_partOf : Int → Int} {M_placeOf : Int → Int} {M_partSize : Int → Int} {M_ways : Int → Int} {M_with : Int → Int} {M_masks : Int → Int} {M_rests : Int → Int} {M_bits : Int → Int} {M_reach : Int → Int} {M_more : Int → Int} {M_reason : Int → Int} {M_big : Int → Int64} {M_region : Int → Int} (x1 : Int) (rx1 : inR x1) (post : Int → Prop) (h : P_X12_freeAround post M_cells M_near M_degree M_mine x1) : mI l yX12_freeAround (Cond.code yX12_freeAround cX12_freeAround 4 (some .int) :: GT) ({ frames := 3, cells := 0, slots := 0, locals := 180 } : Room) [.ref (ad 0), .int (iI x1)] K ad (mW M_thrown M_w M_h M_cells M_shape M_isBoard M_isBlank M_lives M_moves M_parts M_numbers M_grade M_reasons M_total M_near M_degree M_mine M_state M_history M_oldLives M_safe M_mined M_used M_partOf M_placeOf M_partSize M_ways M_with M_masks M_rests M_bits M_reach M_more M_reason M_big M_region) (fun z9 u9 => u9 = (mW M_thrown M_w M_h M_cells M_shape M_isBoard M_isBlank M_lives M_moves M_parts M_numbers M_grade M_reasons M_total M_near M_degree M_mine M_state M_history M_oldLives M_safe M_mined M_used M_partOf M_placeOf M_partSize M_ways M_with M_masks M_rests M_bits M_reach M_more M_reason M_big M_region) ∧ post z9) := by
  refine mI_of (lv0 := [(0, .ref (ad 0)), (1, .int (iI x1))]) (by decide) (Nat.le_of_ble_eq_true rfl) rfl ?_
  intro p e s m args below meth c Q A C ret
  replace C : Cx p ({ frames := 3, cells := 0, slots := 0, locals := 180 } : Room) m c 0 0 cX12_freeAround 4 s args RX12 K A := C
  unfold P_X12_freeAround at h
  refine wa_iconst C (z := 0) dX12_freeAround_0 rfl ?_
  refine wa_istore_n C dX12_freeAround_1 rfl (by decide) rfl ?_
  refine wa_iconst C (z := 0) dX12_freeAround_2 rfl ?_
  refine wa_istore_n C dX12_freeAround_3 rfl (by decide) rfl ?_
  obtain ⟨Inv_1, ⟨n_2, h0Inv_1⟩, hInv_1⟩ := h
  have k_5 : ∀ (n_3 : Nat) (x2_6 : Int) (x3_7 : Int), inR x2_6 → inR x3_7 → Inv_1 n_3 x2_6 x3_7 → WA p l e ({ frames := 3, cells := 0, slots := 0, locals := 180 } : Room) s m args below meth c 0 0 Q K ad 4 A 4 [(0, .ref (ad 0)), (1, .int (iI x1)), (2, .int (iI x2_6)), (3, .int (iI x3_7))] [] (mW M_thrown M_w M_h M_cells M_shape M_isBoard M_isBlank M_lives M_moves M_parts M_numbers M_grade M_reasons M_total M_near M_degree M_mine M_state M_history M_oldLives M_safe M_mined M_used M_partOf M_placeOf M_partSize M_ways M_with M_masks M_rests M_bits M_reach M_more M_reason M_big M_region) := by
    intro n_3
    induction n_3 using Nat.strongRecOn with
    | ind n_3 ih_4 =>
      intro x2_6 x3_7 rx2_6 rx3_7 h
      replace h := hInv_1 n_3 x2_6 x3_7 rx2_6 rx3_7 h
      refine wa_iload_n C 3 rfl dX12_freeAround_4 rfl ?_
      refine wa_aload_n C 0 rfl dX12_freeAround_5 rfl ?_
      refine wa_getI C 0 3 mW_0 rfl rfl (by decide) okX12 gw_1235 dX12_freeAround_6 (fun r_8 => ?_)
      refine wa_icmp_ge C (tgt := 44) rx3_7 r_8 dX12_freeAround_9 (by decide) (fun c_9 => ?_) (fun c_9 => ?_)
      · replace h := h.1 c_9
        refine wa_iload_n C 2 rfl dX12_freeAround_44 rfl ?_
        exact ret dX12_freeAround_45 rx2_6 ⟨rfl, h⟩
      · replace h := h.2 c_9
        refine wa_iload_n C 2 rfl dX12_freeAround_12 rfl ?_
        refine wa_aload_n C 0 rfl dX12_freeAround_13 rfl ?_
        refine wa_getR C 0 9 mW_0 rfl rfl (by decide) okX12 gw_1241 dX12_freeAround_14 ?_
        refine wa_iload_n C 3 rfl dX12_freeAround_17 rfl ?_
        obtain ⟨t_10, h⟩ := h
        refine wa_bald C 3 mW_3 dX12_freeAround_18 t_10.1 t_10.2 (fun v_11 ev_11 rv_11 => ?_)
        replace h := h v_11 ev_11 rv_11
        obtain ⟨J_12, h, hJ_12⟩ := h
        have k_13 : ∀ (z_14 : Int), inR z_14 → J_12 z_14 → WA p l e ({ frames := 3, cells := 0, slots := 0, locals := 180 } : Room) s m args below meth c 0 0 Q K ad 4 A 36 [(0, .ref (ad 0)), (1, .int (iI x1)), (3, .int (iI x3_7))] [.int (iI z_14), .int (iI x2_6)] (mW M_thrown M_w M_h M_cells M_shape M_isBoard M_isBlank M_lives M_moves M_parts M_numbers M_grade M_reasons M_total M_near M_degree M_mine M_state M_history M_oldLives M_safe M_mined M_used M_partOf M_placeOf M_partSize M_ways M_with M_masks M_rests M_bits M_reach M_more M_reason M_big M_region) := by
          intro z_14 rz_14 h
          replace h := hJ_12 z_14 rz_14 h
          refine wa_iadd C dX12_freeAround_36 ?_
          obtain ⟨r_15, h⟩ := h
          refine wa_nmi (fun x2_16 ex2_16 => ?_)
          replace h := h x2_16 ex2_16
          have rx2_16 : inR x2_16 := by rw [ex2_16]; exact r_15
          refine wa_istore_n C dX12_freeAround_37 rfl (by decide) rfl ?_
          obtain ⟨r_17, h⟩ := h
          refine wa_iinc C (lv' := fun w9 => [(3, .int (iI w9)), (2, .int (iI x2_16)), (0, .ref (ad 0)), (1, .int (iI x1))]) 3 rfl dX12_freeAround_38 (by decide) (fun _ => rfl) (fun x3_18 ex3_18 => ?_)
          replace h := h x3_18 ex3_18
          have rx3_18 : inR x3_18 := by rw [ex3_18]; exact r_17
          refine wa_goto C (tgt := 4) dX12_freeAround_41 (by decide) ?_
          obtain ⟨n_19, ln_19, h⟩ := h
          refine wa_sub C [2, 3, 1, 0] rfl ?_
          exact ih_4 n_19 ln_19 x2_16 x3_18 rx2_16 rx3_18 h
        obtain ⟨J_20, h, hJ_20⟩ := h
        have k_21 : J_20 → WA p l e ({ frames := 3, cells := 0, slots := 0, locals := 180 } : Room) s m args below meth c 0 0 Q K ad 4 A 35 [(0, .ref (ad 0)), (1, .int (iI x1)), (3, .int (iI x3_7))] [.int (iI x2_6)] (mW M_thrown M_w M_h M_cells M_shape M_isBoard M_isBlank M_lives M_moves M_parts M_numbers M_grade M_reasons M_total M_near M_degree M_mine M_state M_history M_oldLives M_safe M_mined M_used M_partOf M_placeOf M_partSize M_ways M_with M_masks M_rests M_bits M_reach M_more M_reason M_big M_region) := by
          intro h
          replace h := hJ_20 h
          refine wa_iconst C (z := 0) dX12_freeAround_35 rfl ?_
          refine wa_sub C [0, 1, 2] rfl ?_
          exact k_13 0 (inR_k 0 rfl) h
        refine wa_if_ne C (tgt := 35) (inR_b rv_11) dX12_freeAround_19 (by decide) (fun c_22 => ?_) (fun c_22 => ?_)
        · replace h := h.1 c_22
          refine wa_sub C [0, 1, 3] rfl ?_
          exact k_21 h
        · replace h := h.2 c_22
          refine wa_aload_n C 0 rfl dX12_freeAround_22 rfl ?_
          refine wa_iload_n C 1 rfl dX12_freeAround_23 rfl ?_
          refine wa_iload_n C 3 rfl dX12_freeAround_24 rfl ?_
          refine wa_callVi C (k := 0) (As := [.int (iI x1), .int (iI x3_7)]) (rest := [.int (iI x2_6)]) (c_X12_isKept l K ad x1 x3_7 rx1 rx3_7 _ h) gw_1395 gw_1392 mW_0 rfl gw_1394 gs_59 gw_12 q_X12_isKept rfl rfl rfl ⟨by decide, by decide⟩ rfl (Nat.le_of_ble_eq_true rfl) dX12_freeAround_25 (fun c_23 u9 rc_23 hp => ?_)
          obtain ⟨bc_23, rfl, h⟩ := hp
          replace h := h bc_23
          refine wa_if_ne C (tgt := 35) (inR_b bc_23) dX12_freeAround_28 (by decide) (fun c_24 => ?_) (fun c_24 => ?_)
          · replace h := h.1 c_24
            refine wa_sub C [0, 1, 3] rfl ?_
            exact k_21 h
          · replace h := h.2 c_24
            refine wa_iconst C (z := 1) dX12_freeAround_31 rfl ?_
            refine wa_goto C (tgt := 36) dX12_freeAround_32 (by decide) ?_
            refine wa_sub C [0, 1, 3] rfl ?_
            exact k_13 1 (inR_k 1 rfl) h
  refine wa_sub C [2, 3, 1, 0] rfl ?_
  exact k_5 n_2 0 0 (inR_k 0 rfl) (inR_k 0 rfl) h0Inv_1
def P_X12_lay (post : (Int → Int) → Prop) (M_cells : Int) (M_near : Int → Int) (M_degree : Int → Int) (M_mine : Int → Int) (x1 : Int) (x2 : Int) (x3 : Int) : Prop :=
  ∀ x4_1 : Int, x4_1 = (andI x3 2147483647) → (∃ Inv_2 : Nat → (Int) → (Int) → (Int → Int) → Prop, (∃ n_3 : Nat, Inv_2 n_3 x4_1 0 M_mine) ∧ ∀ (n_4 : Nat) (x4_7 : Int) (x5_8 : Int) (M_mine_9 : Int → Int), inR x4_7 → inR x5_8 → Inv_2 n_4 x4_7 x5_8 M_mine_9 → ((x2 ≤ x5_8 → (post M_mine_9)) ∧ (¬ x2 ≤ x5_8 → (∀ x4_11 : Int, x4_11 = (andI ((1103515245 * x4_7) + 12345) 2147483647) → (P_X12_freeAround (fun (c_12 : Int) => inR c_12 → (inR (x4_11.tdiv 65536) ∧ (c_12 ≠ 0 ∧ (inR ((x4_11.tdiv 65536).tmod c_12) ∧ (∀ x6_16 : Int, x6_16 = ((x4_11.tdiv 65536).tmod c_12) → (∃ Inv_17 : Nat → (Int) → (Int) → (Int) → Prop, (∃ n_18 : Nat, Inv_17 n_18 x6_16 (-1) 0) ∧ ∀ (n_19 : Nat) (x6_22 : Int) (x7_23 : Int) (x8_24 : Int), inR x6_22 → inR x7_23 → inR x8_24 → Inv_17 n_19 x6_22 x7_23 x8_24 → (∃ J_26 : Prop, ((M_cells ≤ x8_24 → (J_26)) ∧ (¬ M_cells ≤ x8_24 → ((0 ≤ x7_23 → (J_26)) ∧ (¬ 0 ≤ x7_23 → ((0 ≤ x8_24 ∧ x8_24 < 144) ∧ (∀ v_36 : Int, v_36 = M_mine_9 x8_24 → (v_36 = 0 ∨ v_36 = 1) → (∃ J_37 : (Int) → (Int) → Prop, ((¬ v_36 = 0 → (J_37 x6_22 x7_23)) ∧ (v_36 = 0 → (P_X12_isKept (fun (c_45 : Int) => (c_45 = 0 ∨ c_45 = 1) → ((¬ c_45 = 0 → (J_37 x6_22 x7_23)) ∧ (c_45 = 0 → (∃ J_47 : (Int) → Prop, ((¬ x6_22 = 0 → (J_47 x7_23)) ∧ (x6_22 = 0 → (J_47 x8_24))) ∧ (∀ (x7_49 : Int), inR x7_49 → J_47 x7_49 → (inR (x6_22 + (-1)) ∧ (∀ x6_51 : Int, x6_51 = (x6_22 + (-1)) → (J_37 x6_51 x7_49)))))))) M_near M_degree x1 x8_24))) ∧ (∀ (x6_39 : Int) (x7_40 : Int), inR x6_39 → inR x7_40 → J_37 x6_39 x7_40 → (inR (x8_24 + 1) ∧ (∀ x8_42 : Int, x8_42 = (x8_24 + 1) → (∃ n_43 : Nat, n_43 < n_19 ∧ Inv_17 n_43 x6_39 x7_40 x8_42))))))))))) ∧ (J_26 → ((0 ≤ x7_23 ∧ x7_23 < 144) ∧ (∀ M_mine_29 : Int → Int, M_mine_29 = upZ M_mine_9 x7_23 1 → (inR (x5_8 + 1) ∧ (∀ x5_31 : Int, x5_31 = (x5_8 + 1) → (∃ n_32 : Nat, n_32 < n_4 ∧ Inv_2 n_32 x4_11 x5_31 M_mine_29))))))))))))) M_cells M_near M_degree M_mine_9 x1)))))
set_option maxRecDepth 100000 in
set_option maxHeartbeats 4000000 in
theorem c_X12_lay (l : Launch) (K : wK) (ad : Nat → Nat) {M_thrown : Int} {M_w : Int} {M_h : Int} {M_cells : Int} {M_shape : Int} {M_isBoard : Int} {M_isBlank : Int} {M_lives : Int} {M_moves : Int} {M_parts : Int} {M_numbers : Int} {M_grade : Int} {M_reasons : Int} {M_total : Int} {M_near : Int → Int} {M_degree : Int → Int} {M_mine : Int → Int} {M_state : Int → Int} {M_history : Int → Int64} {M_oldLives : Int → Int} {M_safe : Int → Int} {M_mined : Int → Int} {M_used : Int → Int} {M_partOf : Int → Int} {M_placeOf : Int → Int} {M_partSize : Int → Int} {M_ways : Int → Int} {M_with : Int → Int} {M_masks : Int → Int} {M_rests : Int → Int} {M_bits : Int → Int} {M_reach : Int → Int} {M_more : Int → Int} {M_reason : Int → Int} {M_big : Int → Int64} {M_region : Int → Int} (x1 : Int) (x2 : Int) (x3 : Int) (rx1 : inR x1) (rx2 : inR x2) (rx3 : inR x3) (post : (Int → Int) → Prop) (h : P_X12_lay post M_cells M_near M_degree M_mine x1 x2 x3) : mV l yX12_lay (Cond.code yX12_lay cX12_lay 9 none :: GT) ({ frames := 4, cells := 0, slots := 0, locals := 240 } : Room) [.ref (ad 0), .int (iI x1), .int (iI x2), .int (iI x3)] K ad (mW M_thrown M_w M_h M_cells M_shape M_isBoard M_isBlank M_lives M_moves M_parts M_numbers M_grade M_reasons M_total M_near M_degree M_mine M_state M_history M_oldLives M_safe M_mined M_used M_partOf M_placeOf M_partSize M_ways M_with M_masks M_rests M_bits M_reach M_more M_reason M_big M_region) (fun u9 => ∃ M_mine9, u9 = (mW M_thrown M_w M_h M_cells M_shape M_isBoard M_isBlank M_lives M_moves M_parts M_numbers M_grade M_reasons M_total M_near M_degree M_mine9 M_state M_history M_oldLives M_safe M_mined M_used M_partOf M_placeOf M_partSize M_ways M_with M_masks M_rests M_bits M_reach M_more M_reason M_big M_region) ∧ post M_mine9) := by
  refine mV_of (lv0 := [(0, .ref (ad 0)), (1, .int (iI x1)), (2, .int (iI x2)), (3, .int (iI x3))]) (by decide) (Nat.le_of_ble_eq_true rfl) rfl ?_
  intro p e s m args below meth c Q A C ret
  replace C : Cx p ({ frames := 4, cells := 0, slots := 0, locals := 240 } : Room) m c 0 0 cX12_lay 9 s args RX12 K A := C
  unfold P_X12_lay at h
  refine wa_iload_n C 3 rfl dX12_lay_0 rfl ?_
  refine wa_ldc C (z := 2147483647) gw_1386 rfl dX12_lay_1 ?_
  refine wa_iand C dX12_lay_3 ?_
  refine wa_nmi (fun x4_1 ex4_1 => ?_)
  replace h := h x4_1 ex4_1
  have rx4_1 : inR x4_1 := by rw [ex4_1]; exact (andI_r _ _)
  refine wa_istore C dX12_lay_4 (by decide) rfl ?_
  refine wa_iconst C (z := 0) dX12_lay_6 rfl ?_
  refine wa_istore C dX12_lay_7 (by decide) rfl ?_
  obtain ⟨Inv_2, ⟨n_3, h0Inv_2⟩, hInv_2⟩ := h
  have k_6 : ∀ (n_4 : Nat) (x4_7 : Int) (x5_8 : Int) (M_mine_9 : Int → Int), inR x4_7 → inR x5_8 → Inv_2 n_4 x4_7 x5_8 M_mine_9 → WA p l e ({ frames := 4, cells := 0, slots := 0, locals := 240 } : Room) s m args below meth c 0 0 Q K ad 9 A 9 [(0, .ref (ad 0)), (1, .int (iI x1)), (2, .int (iI x2)), (4, .int (iI x4_7)), (5, .int (iI x5_8))] [] (mW M_thrown M_w M_h M_cells M_shape M_isBoard M_isBlank M_lives M_moves M_parts M_numbers M_grade M_reasons M_total M_near M_degree M_mine_9 M_state M_history M_oldLives M_safe M_mined M_used M_partOf M_placeOf M_partSize M_ways M_with M_masks M_rests M_bits M_reach M_more M_reason M_big M_region) := by
    intro n_4
    induction n_4 using Nat.strongRecOn with
    | ind n_4 ih_5 =>
      intro x4_7 x5_8 M_mine_9 rx4_7 rx5_8 h
      replace h := hInv_2 n_4 x4_7 x5_8 M_mine_9 rx4_7 rx5_8 h
      refine wa_iload C 4 rfl dX12_lay_9 ?_
      refine wa_iload_n C 2 rfl dX12_lay_11 rfl ?_
      refine wa_icmp_ge C (tgt := 114) rx5_8 rx2 dX12_lay_12 (by decide) (fun c_10 => ?_) (fun c_10 => ?_)
      · replace h := h.1 c_10
        exact ret dX12_lay_114 ⟨_, rfl, h⟩
      · replace h := h.2 c_10
        refine wa_ldc C (z := 1103515245) gw_1387 rfl dX12_lay_15 ?_
        refine wa_iload C 3 rfl dX12_lay_17 ?_
        refine wa_imul C dX12_lay_19 ?_
        refine wa_sipush C (z := 12345) dX12_lay_20 (by decide) ?_
        refine wa_iadd C dX12_lay_23 ?_
        refine wa_ldc C (z := 2147483647) gw_1386 rfl dX12_lay_24 ?_
        refine wa_iand C dX12_lay_26 ?_
        refine wa_nmi (fun x4_11 ex4_11 => ?_)
        replace h := h x4_11 ex4_11
        have rx4_11 : inR x4_11 := by rw [ex4_11]; exact (andI_r _ _)
        refine wa_istore C dX12_lay_27 (by decide) rfl ?_
        refine wa_iload C 0 rfl dX12_lay_29 ?_
        refine wa_ldc C (z := 65536) gw_1231 rfl dX12_lay_31 ?_
        refine wa_idiv C dX12_lay_33 rx4_11 (inR_k 65536 rfl) (by decide) ?_
        refine wa_aload_n C 1 rfl dX12_lay_34 rfl ?_
        refine wa_iload_n C 2 rfl dX12_lay_35 rfl ?_
        refine wa_callVi C (k := 0) (As := [.int (iI x1)]) (rest := [.int (iI (x4_11.tdiv 65536))]) (c_X12_freeAround l K ad x1 rx1 _ h) gw_1391 gw_1388 mW_0 rfl gw_1390 gs_58 gw_12 q_X12_freeAround rfl rfl rfl ⟨by decide, by decide⟩ rfl (Nat.le_of_ble_eq_true rfl) dX12_lay_36 (fun c_12 u9 rc_12 hp => ?_)
        obtain ⟨rfl, h⟩ := hp
        replace h := h rc_12
        obtain ⟨r_13, h⟩ := h
        obtain ⟨q_14, h⟩ := h
        refine wa_irem C dX12_lay_39 r_13 rc_12 q_14 ?_
        obtain ⟨r_15, h⟩ := h
        refine wa_nmi (fun x6_16 ex6_16 => ?_)
        replace h := h x6_16 ex6_16
        have rx6_16 : inR x6_16 := by rw [ex6_16]; exact r_15
        refine wa_istore C dX12_lay_40 (by decide) rfl ?_
        refine wa_iconst C (z := -1) dX12_lay_42 rfl ?_
        refine wa_istore C dX12_lay_43 (by decide) rfl ?_
        refine wa_iconst C (z := 0) dX12_lay_45 rfl ?_
        refine wa_istore C dX12_lay_46 (by decide) rfl ?_
        obtain ⟨Inv_17, ⟨n_18, h0Inv_17⟩, hInv_17⟩ := h
        have k_21 : ∀ (n_19 : Nat) (x6_22 : Int) (x7_23 : Int) (x8_24 : Int), inR x6_22 → inR x7_23 → inR x8_24 → Inv_17 n_19 x6_22 x7_23 x8_24 → WA p l e ({ frames := 4, cells := 0, slots := 0, locals := 240 } : Room) s m args below meth c 0 0 Q K ad 9 A 48 [(0, .ref (ad 0)), (1, .int (iI x1)), (2, .int (iI x2)), (4, .int (iI x4_11)), (5, .int (iI x5_8)), (6, .int (iI x6_22)), (7, .int (iI x7_23)), (8, .int (iI x8_24))] [] (mW M_thrown M_w M_h M_cells M_shape M_isBoard M_isBlank M_lives M_moves M_parts M_numbers M_grade M_reasons M_total M_near M_degree M_mine_9 M_state M_history M_oldLives M_safe M_mined M_used M_partOf M_placeOf M_partSize M_ways M_with M_masks M_rests M_bits M_reach M_more M_reason M_big M_region) := by
          intro n_19
          induction n_19 using Nat.strongRecOn with
          | ind n_19 ih_20 =>
            intro x6_22 x7_23 x8_24 rx6_22 rx7_23 rx8_24 h
            replace h := hInv_17 n_19 x6_22 x7_23 x8_24 rx6_22 rx7_23 rx8_24 h
            refine wa_iload C 7 rfl dX12_lay_48 ?_
            refine wa_aload_n C 0 rfl dX12_lay_50 rfl ?_
            refine wa_getI C 0 3 mW_0 rfl rfl (by decide) okX12 gw_1235 dX12_lay_51 (fun r_25 => ?_)
            obtain ⟨J_26, h, hJ_26⟩ := h
            have k_27 : J_26 → WA p l e ({ frames := 4, cells := 0, slots := 0, locals := 240 } : Room) s m args below meth c 0 0 Q K ad 9 A 100 [(0, .ref (ad 0)), (1, .int (iI x1)), (2, .int (iI x2)), (4, .int (iI x4_11)), (5, .int (iI x5_8)), (7, .int (iI x7_23))] [] (mW M_thrown M_w M_h M_cells M_shape M_isBoard M_isBlank M_lives M_moves M_parts M_numbers M_grade M_reasons M_total M_near M_degree M_mine_9 M_state M_history M_oldLives M_safe M_mined M_used M_partOf M_placeOf M_partSize M_ways M_with M_masks M_rests M_bits M_reach M_more M_reason M_big M_region) := by
              intro h
              replace h := hJ_26 h
              refine wa_aload_n C 0 rfl dX12_lay_100 rfl ?_
              refine wa_getR C 0 9 mW_0 rfl rfl (by decide) okX12 gw_1241 dX12_lay_101 ?_
              refine wa_iload C 5 rfl dX12_lay_104 ?_
              refine wa_iconst C (z := 1) dX12_lay_106 rfl ?_
              obtain ⟨t_28, h⟩ := h
              refine wa_bast C (ws' := fun w9 => (mW M_thrown M_w M_h M_cells M_shape M_isBoard M_isBlank M_lives M_moves M_parts M_numbers M_grade M_reasons M_total M_near M_degree w9 M_state M_history M_oldLives M_safe M_mined M_used M_partOf M_placeOf M_partSize M_ways M_with M_masks M_rests M_bits M_reach M_more M_reason M_big M_region)) 3 mW_3 dX12_lay_107 t_28.1 t_28.2 (Or.inr rfl) mWs_3 (fun M_mine_29 eM_mine_29 => ?_)
              replace h := h M_mine_29 eM_mine_29
              obtain ⟨r_30, h⟩ := h
              refine wa_iinc C (lv' := fun w9 => [(5, .int (iI w9)), (0, .ref (ad 0)), (1, .int (iI x1)), (2, .int (iI x2)), (4, .int (iI x4_11)), (7, .int (iI x7_23))]) 4 rfl dX12_lay_108 (by decide) (fun _ => rfl) (fun x5_31 ex5_31 => ?_)
              replace h := h x5_31 ex5_31
              have rx5_31 : inR x5_31 := by rw [ex5_31]; exact r_30
              refine wa_goto C (tgt := 9) dX12_lay_111 (by decide) ?_
              obtain ⟨n_32, ln_32, h⟩ := h
              refine wa_sub C [1, 2, 3, 4, 0] rfl ?_
              exact ih_5 n_32 ln_32 x4_11 x5_31 M_mine_29 rx4_11 rx5_31 h
            refine wa_icmp_ge C (tgt := 100) rx8_24 r_25 dX12_lay_54 (by decide) (fun c_33 => ?_) (fun c_33 => ?_)
            · replace h := h.1 c_33
              refine wa_sub C [0, 1, 2, 3, 4, 6] rfl ?_
              exact k_27 h
            · replace h := h.2 c_33
              refine wa_iload C 6 rfl dX12_lay_57 ?_
              refine wa_if_ge C (tgt := 100) rx7_23 dX12_lay_59 (by decide) (fun c_34 => ?_) (fun c_34 => ?_)
              · replace h := h.1 c_34
                refine wa_sub C [0, 1, 2, 3, 4, 6] rfl ?_
                exact k_27 h
              · replace h := h.2 c_34
                refine wa_aload_n C 0 rfl dX12_lay_62 rfl ?_
                refine wa_getR C 0 9 mW_0 rfl rfl (by decide) okX12 gw_1241 dX12_lay_63 ?_
                refine wa_iload C 7 rfl dX12_lay_66 ?_
                obtain ⟨t_35, h⟩ := h
                refine wa_bald C 3 mW_3 dX12_lay_68 t_35.1 t_35.2 (fun v_36 ev_36 rv_36 => ?_)
                replace h := h v_36 ev_36 rv_36
                obtain ⟨J_37, h, hJ_37⟩ := h
                have k_38 : ∀ (x6_39 : Int) (x7_40 : Int), inR x6_39 → inR x7_40 → J_37 x6_39 x7_40 → WA p l e ({ frames := 4, cells := 0, slots := 0, locals := 240 } : Room) s m args below meth c 0 0 Q K ad 9 A 94 [(0, .ref (ad 0)), (1, .int (iI x1)), (2, .int (iI x2)), (4, .int (iI x4_11)), (5, .int (iI x5_8)), (6, .int (iI x6_39)), (7, .int (iI x7_40)), (8, .int (iI x8_24))] [] (mW M_thrown M_w M_h M_cells M_shape M_isBoard M_isBlank M_lives M_moves M_parts M_numbers M_grade M_reasons M_total M_near M_degree M_mine_9 M_state M_history M_oldLives M_safe M_mined M_used M_partOf M_placeOf M_partSize M_ways M_with M_masks M_rests M_bits M_reach M_more M_reason M_big M_region) := by
                  intro x6_39 x7_40 rx6_39 rx7_40 h
                  replace h := hJ_37 x6_39 x7_40 rx6_39 rx7_40 h
                  obtain ⟨r_41, h⟩ := h
                  refine wa_iinc C (lv' := fun w9 => [(8, .int (iI w9)), (0, .ref (ad 0)), (1, .int (iI x1)), (2, .int (iI x2)), (4, .int (iI x4_11)), (5, .int (iI x5_8)), (6, .int (iI x6_39)), (7, .int (iI x7_40))]) 7 rfl dX12_lay_94 (by decide) (fun _ => rfl) (fun x8_42 ex8_42 => ?_)
                  replace h := h x8_42 ex8_42
                  have rx8_42 : inR x8_42 := by rw [ex8_42]; exact r_41
                  refine wa_goto C (tgt := 48) dX12_lay_97 (by decide) ?_
                  obtain ⟨n_43, ln_43, h⟩ := h
                  refine wa_sub C [1, 2, 3, 4, 5, 6, 7, 0] rfl ?_
                  exact ih_20 n_43 ln_43 x6_39 x7_40 x8_42 rx6_39 rx7_40 rx8_42 h
                refine wa_if_ne C (tgt := 94) (inR_b rv_36) dX12_lay_69 (by decide) (fun c_44 => ?_) (fun c_44 => ?_)
                · replace h := h.1 c_44
                  refine wa_sub C [0, 1, 2, 3, 4, 5, 6, 7] rfl ?_
                  exact k_38 x6_22 x7_23 rx6_22 rx7_23 h
                · replace h := h.2 c_44
                  refine wa_aload_n C 0 rfl dX12_lay_72 rfl ?_
                  refine wa_iload_n C 1 rfl dX12_lay_73 rfl ?_
                  refine wa_iload C 7 rfl dX12_lay_74 ?_
                  refine wa_callVi C (k := 0) (As := [.int (iI x1), .int (iI x8_24)]) (rest := []) (c_X12_isKept l K ad x1 x8_24 rx1 rx8_24 _ h) gw_1395 gw_1392 mW_0 rfl gw_1394 gs_59 gw_12 q_X12_isKept rfl rfl rfl ⟨by decide, by decide⟩ rfl (Nat.le_of_ble_eq_true rfl) dX12_lay_76 (fun c_45 u9 rc_45 hp => ?_)
                  obtain ⟨bc_45, rfl, h⟩ := hp
                  replace h := h bc_45
                  refine wa_if_ne C (tgt := 94) (inR_b bc_45) dX12_lay_79 (by decide) (fun c_46 => ?_) (fun c_46 => ?_)
                  · replace h := h.1 c_46
                    refine wa_sub C [0, 1, 2, 3, 4, 5, 6, 7] rfl ?_
                    exact k_38 x6_22 x7_23 rx6_22 rx7_23 h
                  · replace h := h.2 c_46
                    refine wa_iload C 5 rfl dX12_lay_82 ?_
                    obtain ⟨J_47, h, hJ_47⟩ := h
                    have k_48 : ∀ (x7_49 : Int), inR x7_49 → J_47 x7_49 → WA p l e ({ frames := 4, cells := 0, slots := 0, locals := 240 } : Room) s m args below meth c 0 0 Q K ad 9 A 91 [(0, .ref (ad 0)), (1, .int (iI x1)), (2, .int (iI x2)), (4, .int (iI x4_11)), (5, .int (iI x5_8)), (6, .int (iI x6_22)), (7, .int (iI x7_49)), (8, .int (iI x8_24))] [] (mW M_thrown M_w M_h M_cells M_shape M_isBoard M_isBlank M_lives M_moves M_parts M_numbers M_grade M_reasons M_total M_near M_degree M_mine_9 M_state M_history M_oldLives M_safe M_mined M_used M_partOf M_placeOf M_partSize M_ways M_with M_masks M_rests M_bits M_reach M_more M_reason M_big M_region) := by
                      intro x7_49 rx7_49 h
                      replace h := hJ_47 x7_49 rx7_49 h
                      obtain ⟨r_50, h⟩ := h
                      refine wa_iinc C (lv' := fun w9 => [(6, .int (iI w9)), (0, .ref (ad 0)), (1, .int (iI x1)), (2, .int (iI x2)), (4, .int (iI x4_11)), (5, .int (iI x5_8)), (7, .int (iI x7_49)), (8, .int (iI x8_24))]) 5 rfl dX12_lay_91 (by decide) (fun _ => rfl) (fun x6_51 ex6_51 => ?_)
                      replace h := h x6_51 ex6_51
                      have rx6_51 : inR x6_51 := by rw [ex6_51]; exact r_50
                      refine wa_sub C [1, 2, 3, 4, 5, 0, 6, 7] rfl ?_
                      exact k_38 x6_51 x7_49 rx6_51 rx7_49 h
                    refine wa_if_ne C (tgt := 91) rx6_22 dX12_lay_84 (by decide) (fun c_52 => ?_) (fun c_52 => ?_)
                    · replace h := h.1 c_52
                      refine wa_sub C [0, 1, 2, 3, 4, 5, 6, 7] rfl ?_
                      exact k_48 x7_23 rx7_23 h
                    · replace h := h.2 c_52
                      refine wa_iload C 7 rfl dX12_lay_87 ?_
                      refine wa_istore C dX12_lay_89 (by decide) rfl ?_
                      refine wa_sub C [1, 2, 3, 4, 5, 6, 0, 7] rfl ?_
                      exact k_48 x8_24 rx8_24 h
        refine wa_sub C [4, 5, 6, 3, 7, 2, 1, 0] rfl ?_
        exact k_21 n_18 x6_16 (-1) 0 rx6_16 (inR_k (-1) rfl) (inR_k 0 rfl) h0Inv_17
  refine wa_sub C [2, 3, 4, 1, 0] rfl ?_
  exact k_6 n_3 x4_1 0 M_mine rx4_1 (inR_k 0 rfl) h0Inv_2
