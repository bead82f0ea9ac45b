theorem dX10_set_0 : decode cX10_set 0 = .ok (.aload_n 0, 1) := by decide +kernel
theorem dX10_set_1 : decode cX10_set 1 = .ok (.lconst 0, 1) := by decide +kernel
theorem dX10_set_2 : decode cX10_set 2 = .ok (.invokestatic 9, 3) := by decide +kernel
theorem dX10_set_5 : decode cX10_set 5 = .ok (.aload_n 0, 1) := by decide +kernel
theorem dX10_set_6 : decode cX10_set 6 = .ok (.iconst 0, 1) := by decide +kernel
theorem dX10_set_7 : decode cX10_set 7 = .ok (.iload_n 1, 1) := by decide +kernel
theorem dX10_set_8 : decode cX10_set 8 = .ok (.i2l, 1) := by decide +kernel
theorem dX10_set_9 : decode cX10_set 9 = .ok (.lastore, 1) := by decide +kernel
theorem dX10_set_10 : decode cX10_set 10 = .ok (.return_, 1) := by decide +kernel
theorem dX8_begin_0 : decode cX8_begin 0 = .ok (.aload_n 0, 1) := by decide +kernel
theorem dX8_begin_1 : decode cX8_begin 1 = .ok (.iconst 0, 1) := by decide +kernel
theorem dX8_begin_2 : decode cX8_begin 2 = .ok (.putfield 20, 3) := by decide +kernel
theorem dX8_begin_5 : decode cX8_begin 5 = .ok (.aload_n 0, 1) := by decide +kernel
theorem dX8_begin_6 : decode cX8_begin 6 = .ok (.iconst 0, 1) := by decide +kernel
theorem dX8_begin_7 : decode cX8_begin 7 = .ok (.putfield 24, 3) := by decide +kernel
theorem dX8_begin_10 : decode cX8_begin 10 = .ok (.aload_n 0, 1) := by decide +kernel
theorem dX8_begin_11 : decode cX8_begin 11 = .ok (.getfield 17, 3) := by decide +kernel
theorem dX8_begin_14 : decode cX8_begin 14 = .ok (.iconst 1, 1) := by decide +kernel
theorem dX8_begin_15 : decode cX8_begin 15 = .ok (.invokestatic 27, 3) := by decide +kernel
theorem dX8_begin_18 : decode cX8_begin 18 = .ok (.aload_n 0, 1) := by decide +kernel
theorem dX8_begin_19 : decode cX8_begin 19 = .ok (.getfield 17, 3) := by decide +kernel
theorem dX8_begin_22 : decode cX8_begin 22 = .ok (.iconst 0, 1) := by decide +kernel
theorem dX8_begin_23 : decode cX8_begin 23 = .ok (.aload_n 0, 1) := by decide +kernel
theorem dX8_begin_24 : decode cX8_begin 24 = .ok (.getfield 11, 3) := by decide +kernel
theorem dX8_begin_27 : decode cX8_begin 27 = .ok (.iconst 0, 1) := by decide +kernel
theorem dX8_begin_28 : decode cX8_begin 28 = .ok (.bipush 6, 2) := by decide +kernel
theorem dX8_begin_30 : decode cX8_begin 30 = .ok (.invokestatic 31, 3) := by decide +kernel
theorem dX8_begin_33 : decode cX8_begin 33 = .ok (.return_, 1) := by decide +kernel
theorem dX8_copy_0 : decode cX8_copy 0 = .ok (.aload_n 0, 1) := by decide +kernel
theorem dX8_copy_1 : decode cX8_copy 1 = .ok (.aload_n 1, 1) := by decide +kernel
theorem dX8_copy_2 : decode cX8_copy 2 = .ok (.getfield 20, 3) := by decide +kernel
theorem dX8_copy_5 : decode cX8_copy 5 = .ok (.putfield 20, 3) := by decide +kernel
theorem dX8_copy_8 : decode cX8_copy 8 = .ok (.aload_n 0, 1) := by decide +kernel
theorem dX8_copy_9 : decode cX8_copy 9 = .ok (.aload_n 1, 1) := by decide +kernel
theorem dX8_copy_10 : decode cX8_copy 10 = .ok (.getfield 24, 3) := by decide +kernel
theorem dX8_copy_13 : decode cX8_copy 13 = .ok (.putfield 24, 3) := by decide +kernel
theorem dX8_copy_16 : decode cX8_copy 16 = .ok (.aload_n 0, 1) := by decide +kernel
theorem dX8_copy_17 : decode cX8_copy 17 = .ok (.getfield 20, 3) := by decide +kernel
theorem dX8_copy_20 : decode cX8_copy 20 = .ok (.bipush 6, 2) := by decide +kernel
theorem dX8_copy_22 : decode cX8_copy 22 = .ok (.imul, 1) := by decide +kernel
theorem dX8_copy_23 : decode cX8_copy 23 = .ok (.istore_n 2, 1) := by decide +kernel
theorem dX8_copy_24 : decode cX8_copy 24 = .ok (.iload_n 2, 1) := by decide +kernel
theorem dX8_copy_25 : decode cX8_copy 25 = .ok (.aload_n 0, 1) := by decide +kernel
theorem dX8_copy_26 : decode cX8_copy 26 = .ok (.getfield 24, 3) := by decide +kernel
theorem dX8_copy_29 : decode cX8_copy 29 = .ok (.iconst 1, 1) := by decide +kernel
theorem dX8_copy_30 : decode cX8_copy 30 = .ok (.iadd, 1) := by decide +kernel
theorem dX8_copy_31 : decode cX8_copy 31 = .ok (.bipush 6, 2) := by decide +kernel
theorem dX8_copy_33 : decode cX8_copy 33 = .ok (.imul, 1) := by decide +kernel
theorem dX8_copy_34 : decode cX8_copy 34 = .ok (.if_icmp .ge 21, 3) := by decide +kernel
theorem dX8_copy_37 : decode cX8_copy 37 = .ok (.aload_n 0, 1) := by decide +kernel
theorem dX8_copy_38 : decode cX8_copy 38 = .ok (.getfield 11, 3) := by decide +kernel
theorem dX8_copy_41 : decode cX8_copy 41 = .ok (.iload_n 2, 1) := by decide +kernel
theorem dX8_copy_42 : decode cX8_copy 42 = .ok (.aload_n 1, 1) := by decide +kernel
theorem dX8_copy_43 : decode cX8_copy 43 = .ok (.getfield 11, 3) := by decide +kernel
theorem dX8_copy_46 : decode cX8_copy 46 = .ok (.iload_n 2, 1) := by decide +kernel
theorem dX8_copy_47 : decode cX8_copy 47 = .ok (.laload, 1) := by decide +kernel
theorem dX8_copy_48 : decode cX8_copy 48 = .ok (.lastore, 1) := by decide +kernel
theorem dX8_copy_49 : decode cX8_copy 49 = .ok (.iinc 2 1, 3) := by decide +kernel
theorem dX8_copy_52 : decode cX8_copy 52 = .ok (.goto (-28), 3) := by decide +kernel
theorem dX8_copy_55 : decode cX8_copy 55 = .ok (.return_, 1) := by decide +kernel
theorem dX10_addScaled_0 : decode cX10_addScaled 0 = .ok (.lconst 0, 1) := by decide +kernel
theorem dX10_addScaled_1 : decode cX10_addScaled 1 = .ok (.lstore 4, 2) := by decide +kernel
theorem dX10_addScaled_3 : decode cX10_addScaled 3 = .ok (.iconst 0, 1) := by decide +kernel
theorem dX10_addScaled_4 : decode cX10_addScaled 4 = .ok (.istore 6, 2) := by decide +kernel
theorem dX10_addScaled_6 : decode cX10_addScaled 6 = .ok (.iload 6, 2) := by decide +kernel
theorem dX10_addScaled_8 : decode cX10_addScaled 8 = .ok (.bipush 6, 2) := by decide +kernel
theorem dX10_addScaled_10 : decode cX10_addScaled 10 = .ok (.if_icmp .ge 45, 3) := by decide +kernel
theorem dX10_addScaled_13 : decode cX10_addScaled 13 = .ok (.lload 4, 2) := by decide +kernel
theorem dX10_addScaled_15 : decode cX10_addScaled 15 = .ok (.aload_n 0, 1) := by decide +kernel
theorem dX10_addScaled_16 : decode cX10_addScaled 16 = .ok (.iload 6, 2) := by decide +kernel
theorem dX10_addScaled_18 : decode cX10_addScaled 18 = .ok (.laload, 1) := by decide +kernel
theorem dX10_addScaled_19 : decode cX10_addScaled 19 = .ok (.aload_n 1, 1) := by decide +kernel
theorem dX10_addScaled_20 : decode cX10_addScaled 20 = .ok (.iload_n 2, 1) := by decide +kernel
theorem dX10_addScaled_21 : decode cX10_addScaled 21 = .ok (.iload 6, 2) := by decide +kernel
theorem dX10_addScaled_23 : decode cX10_addScaled 23 = .ok (.iadd, 1) := by decide +kernel
theorem dX10_addScaled_24 : decode cX10_addScaled 24 = .ok (.laload, 1) := by decide +kernel
theorem dX10_addScaled_25 : decode cX10_addScaled 25 = .ok (.iload_n 3, 1) := by decide +kernel
theorem dX10_addScaled_26 : decode cX10_addScaled 26 = .ok (.i2l, 1) := by decide +kernel
theorem dX10_addScaled_27 : decode cX10_addScaled 27 = .ok (.lmul, 1) := by decide +kernel
theorem dX10_addScaled_28 : decode cX10_addScaled 28 = .ok (.ladd, 1) := by decide +kernel
theorem dX10_addScaled_29 : decode cX10_addScaled 29 = .ok (.ladd, 1) := by decide +kernel
theorem dX10_addScaled_30 : decode cX10_addScaled 30 = .ok (.lstore 4, 2) := by decide +kernel
theorem dX10_addScaled_32 : decode cX10_addScaled 32 = .ok (.aload_n 0, 1) := by decide +kernel
theorem dX10_addScaled_33 : decode cX10_addScaled 33 = .ok (.iload 6, 2) := by decide +kernel
theorem dX10_addScaled_35 : decode cX10_addScaled 35 = .ok (.lload 4, 2) := by decide +kernel
theorem dX10_addScaled_37 : decode cX10_addScaled 37 = .ok (.ldc2_w 15, 3) := by decide +kernel
theorem dX10_addScaled_40 : decode cX10_addScaled 40 = .ok (.land, 1) := by decide +kernel
theorem dX10_addScaled_41 : decode cX10_addScaled 41 = .ok (.lastore, 1) := by decide +kernel
theorem dX10_addScaled_42 : decode cX10_addScaled 42 = .ok (.lload 4, 2) := by decide +kernel
theorem dX10_addScaled_44 : decode cX10_addScaled 44 = .ok (.bipush 31, 2) := by decide +kernel
theorem dX10_addScaled_46 : decode cX10_addScaled 46 = .ok (.lushr, 1) := by decide +kernel
theorem dX10_addScaled_47 : decode cX10_addScaled 47 = .ok (.lstore 4, 2) := by decide +kernel
theorem dX10_addScaled_49 : decode cX10_addScaled 49 = .ok (.iinc 6 1, 3) := by decide +kernel
theorem dX10_addScaled_52 : decode cX10_addScaled 52 = .ok (.goto (-46), 3) := by decide +kernel
theorem dX10_addScaled_55 : decode cX10_addScaled 55 = .ok (.return_, 1) := by decide +kernel
theorem dX8_multiply_0 : decode cX8_multiply 0 = .ok (.iconst (-1), 1) := by decide +kernel
theorem dX8_multiply_1 : decode cX8_multiply 1 = .ok (.istore 4, 2) := by decide +kernel
theorem dX8_multiply_3 : decode cX8_multiply 3 = .ok (.iconst (-1), 1) := by decide +kernel
theorem dX8_multiply_4 : decode cX8_multiply 4 = .ok (.istore 5, 2) := by decide +kernel
theorem dX8_multiply_6 : decode cX8_multiply 6 = .ok (.iconst 0, 1) := by decide +kernel
theorem dX8_multiply_7 : decode cX8_multiply 7 = .ok (.istore 6, 2) := by decide +kernel
theorem dX8_multiply_9 : decode cX8_multiply 9 = .ok (.iload 6, 2) := by decide +kernel
theorem dX8_multiply_11 : decode cX8_multiply 11 = .ok (.iload_n 3, 1) := by decide +kernel
theorem dX8_multiply_12 : decode cX8_multiply 12 = .ok (.if_icmp .gt 37, 3) := by decide +kernel
theorem dX8_multiply_15 : decode cX8_multiply 15 = .ok (.aload_n 1, 1) := by decide +kernel
theorem dX8_multiply_16 : decode cX8_multiply 16 = .ok (.iload_n 2, 1) := by decide +kernel
theorem dX8_multiply_17 : decode cX8_multiply 17 = .ok (.iload 6, 2) := by decide +kernel
theorem dX8_multiply_19 : decode cX8_multiply 19 = .ok (.iadd, 1) := by decide +kernel
theorem dX8_multiply_20 : decode cX8_multiply 20 = .ok (.iaload, 1) := by decide +kernel
theorem dX8_multiply_21 : decode cX8_multiply 21 = .ok (.ifCond .eq 22, 3) := by decide +kernel
theorem dX8_multiply_24 : decode cX8_multiply 24 = .ok (.iload 4, 2) := by decide +kernel
theorem dX8_multiply_26 : decode cX8_multiply 26 = .ok (.iconst (-1), 1) := by decide +kernel
theorem dX8_multiply_27 : decode cX8_multiply 27 = .ok (.if_icmp .ne 8, 3) := by decide +kernel
theorem dX8_multiply_30 : decode cX8_multiply 30 = .ok (.iload 6, 2) := by decide +kernel
theorem dX8_multiply_32 : decode cX8_multiply 32 = .ok (.goto 5, 3) := by decide +kernel
theorem dX8_multiply_35 : decode cX8_multiply 35 = .ok (.iload 4, 2) := by decide +kernel
theorem dX8_multiply_37 : decode cX8_multiply 37 = .ok (.istore 4, 2) := by decide +kernel
theorem dX8_multiply_39 : decode cX8_multiply 39 = .ok (.iload 6, 2) := by decide +kernel
theorem dX8_multiply_41 : decode cX8_multiply 41 = .ok (.istore 5, 2) := by decide +kernel
theorem dX8_multiply_43 : decode cX8_multiply 43 = .ok (.iinc 6 1, 3) := by decide +kernel
theorem dX8_multiply_46 : decode cX8_multiply 46 = .ok (.goto (-37), 3) := by decide +kernel
theorem dX8_multiply_49 : decode cX8_multiply 49 = .ok (.iload 4, 2) := by decide +kernel
theorem dX8_multiply_51 : decode cX8_multiply 51 = .ok (.iconst (-1), 1) := by decide +kernel
theorem dX8_multiply_52 : decode cX8_multiply 52 = .ok (.if_icmp .eq 16, 3) := by decide +kernel
theorem dX8_multiply_55 : decode cX8_multiply 55 = .ok (.aload_n 0, 1) := by decide +kernel
theorem dX8_multiply_56 : decode cX8_multiply 56 = .ok (.getfield 24, 3) := by decide +kernel
theorem dX8_multiply_59 : decode cX8_multiply 59 = .ok (.iload 5, 2) := by decide +kernel
theorem dX8_multiply_61 : decode cX8_multiply 61 = .ok (.iadd, 1) := by decide +kernel
theorem dX8_multiply_62 : decode cX8_multiply 62 = .ok (.sipush 144, 3) := by decide +kernel
theorem dX8_multiply_65 : decode cX8_multiply 65 = .ok (.if_icmp .le 14, 3) := by decide +kernel
theorem dX8_multiply_68 : decode cX8_multiply 68 = .ok (.aload_n 0, 1) := by decide +kernel
theorem dX8_multiply_69 : decode cX8_multiply 69 = .ok (.aload_n 0, 1) := by decide +kernel
theorem dX8_multiply_70 : decode cX8_multiply 70 = .ok (.getfield 20, 3) := by decide +kernel
theorem dX8_multiply_73 : decode cX8_multiply 73 = .ok (.iconst 1, 1) := by decide +kernel
theorem dX8_multiply_74 : decode cX8_multiply 74 = .ok (.isub, 1) := by decide +kernel
theorem dX8_multiply_75 : decode cX8_multiply 75 = .ok (.putfield 24, 3) := by decide +kernel
theorem dX8_multiply_78 : decode cX8_multiply 78 = .ok (.return_, 1) := by decide +kernel
theorem dX8_multiply_79 : decode cX8_multiply 79 = .ok (.aload_n 0, 1) := by decide +kernel
theorem dX8_multiply_80 : decode cX8_multiply 80 = .ok (.getfield 24, 3) := by decide +kernel
theorem dX8_multiply_83 : decode cX8_multiply 83 = .ok (.iload 5, 2) := by decide +kernel
theorem dX8_multiply_85 : decode cX8_multiply 85 = .ok (.iadd, 1) := by decide +kernel
theorem dX8_multiply_86 : decode cX8_multiply 86 = .ok (.istore 6, 2) := by decide +kernel
theorem dX8_multiply_88 : decode cX8_multiply 88 = .ok (.iload 6, 2) := by decide +kernel
theorem dX8_multiply_90 : decode cX8_multiply 90 = .ok (.aload_n 0, 1) := by decide +kernel
theorem dX8_multiply_91 : decode cX8_multiply 91 = .ok (.getfield 20, 3) := by decide +kernel
theorem dX8_multiply_94 : decode cX8_multiply 94 = .ok (.iload 4, 2) := by decide +kernel
theorem dX8_multiply_96 : decode cX8_multiply 96 = .ok (.iadd, 1) := by decide +kernel
theorem dX8_multiply_97 : decode cX8_multiply 97 = .ok (.if_icmp .lt 100, 3) := by decide +kernel
theorem dX8_multiply_100 : decode cX8_multiply 100 = .ok (.aload_n 0, 1) := by decide +kernel
theorem dX8_multiply_101 : decode cX8_multiply 101 = .ok (.getfield 17, 3) := by decide +kernel
theorem dX8_multiply_104 : decode cX8_multiply 104 = .ok (.lconst 0, 1) := by decide +kernel
theorem dX8_multiply_105 : decode cX8_multiply 105 = .ok (.invokestatic 37, 3) := by decide +kernel
theorem dX8_multiply_108 : decode cX8_multiply 108 = .ok (.iload 4, 2) := by decide +kernel
theorem dX8_multiply_110 : decode cX8_multiply 110 = .ok (.iload 6, 2) := by decide +kernel
theorem dX8_multiply_112 : decode cX8_multiply 112 = .ok (.aload_n 0, 1) := by decide +kernel
theorem dX8_multiply_113 : decode cX8_multiply 113 = .ok (.getfield 24, 3) := by decide +kernel
theorem dX8_multiply_116 : decode cX8_multiply 116 = .ok (.isub, 1) := by decide +kernel
theorem dX8_multiply_117 : decode cX8_multiply 117 = .ok (.invokestatic 43, 3) := by decide +kernel
theorem dX8_multiply_120 : decode cX8_multiply 120 = .ok (.istore 7, 2) := by decide +kernel
theorem dX8_multiply_122 : decode cX8_multiply 122 = .ok (.iload 7, 2) := by decide +kernel
theorem dX8_multiply_124 : decode cX8_multiply 124 = .ok (.iload 5, 2) := by decide +kernel
theorem dX8_multiply_126 : decode cX8_multiply 126 = .ok (.if_icmp .gt 46, 3) := by decide +kernel
theorem dX8_multiply_129 : decode cX8_multiply 129 = .ok (.iload 7, 2) := by decide +kernel
theorem dX8_multiply_131 : decode cX8_multiply 131 = .ok (.iload 6, 2) := by decide +kernel
theorem dX8_multiply_133 : decode cX8_multiply 133 = .ok (.aload_n 0, 1) := by decide +kernel
theorem dX8_multiply_134 : decode cX8_multiply 134 = .ok (.getfield 20, 3) := by decide +kernel
theorem dX8_multiply_137 : decode cX8_multiply 137 = .ok (.isub, 1) := by decide +kernel
theorem dX8_multiply_138 : decode cX8_multiply 138 = .ok (.if_icmp .gt 34, 3) := by decide +kernel
theorem dX8_multiply_141 : decode cX8_multiply 141 = .ok (.aload_n 0, 1) := by decide +kernel
theorem dX8_multiply_142 : decode cX8_multiply 142 = .ok (.getfield 17, 3) := by decide +kernel
theorem dX8_multiply_145 : decode cX8_multiply 145 = .ok (.aload_n 0, 1) := by decide +kernel
theorem dX8_multiply_146 : decode cX8_multiply 146 = .ok (.getfield 11, 3) := by decide +kernel
theorem dX8_multiply_149 : decode cX8_multiply 149 = .ok (.iload 6, 2) := by decide +kernel
theorem dX8_multiply_151 : decode cX8_multiply 151 = .ok (.iload 7, 2) := by decide +kernel
theorem dX8_multiply_153 : decode cX8_multiply 153 = .ok (.isub, 1) := by decide +kernel
theorem dX8_multiply_154 : decode cX8_multiply 154 = .ok (.bipush 6, 2) := by decide +kernel
theorem dX8_multiply_156 : decode cX8_multiply 156 = .ok (.imul, 1) := by decide +kernel
theorem dX8_multiply_157 : decode cX8_multiply 157 = .ok (.aload_n 1, 1) := by decide +kernel
theorem dX8_multiply_158 : decode cX8_multiply 158 = .ok (.iload_n 2, 1) := by decide +kernel
theorem dX8_multiply_159 : decode cX8_multiply 159 = .ok (.iload 7, 2) := by decide +kernel
theorem dX8_multiply_161 : decode cX8_multiply 161 = .ok (.iadd, 1) := by decide +kernel
theorem dX8_multiply_162 : decode cX8_multiply 162 = .ok (.iaload, 1) := by decide +kernel
theorem dX8_multiply_163 : decode cX8_multiply 163 = .ok (.invokestatic 49, 3) := by decide +kernel
theorem dX8_multiply_166 : decode cX8_multiply 166 = .ok (.iinc 7 1, 3) := by decide +kernel
theorem dX8_multiply_169 : decode cX8_multiply 169 = .ok (.goto (-47), 3) := by decide +kernel
theorem dX8_multiply_172 : decode cX8_multiply 172 = .ok (.aload_n 0, 1) := by decide +kernel
theorem dX8_multiply_173 : decode cX8_multiply 173 = .ok (.getfield 17, 3) := by decide +kernel
theorem dX8_multiply_176 : decode cX8_multiply 176 = .ok (.iconst 0, 1) := by decide +kernel
theorem dX8_multiply_177 : decode cX8_multiply 177 = .ok (.aload_n 0, 1) := by decide +kernel
theorem dX8_multiply_178 : decode cX8_multiply 178 = .ok (.getfield 11, 3) := by decide +kernel
theorem dX8_multiply_181 : decode cX8_multiply 181 = .ok (.iload 6, 2) := by decide +kernel
theorem dX8_multiply_183 : decode cX8_multiply 183 = .ok (.bipush 6, 2) := by decide +kernel
theorem dX8_multiply_185 : decode cX8_multiply 185 = .ok (.imul, 1) := by decide +kernel
theorem dX8_multiply_186 : decode cX8_multiply 186 = .ok (.bipush 6, 2) := by decide +kernel
theorem dX8_multiply_188 : decode cX8_multiply 188 = .ok (.invokestatic 31, 3) := by decide +kernel
theorem dX8_multiply_191 : decode cX8_multiply 191 = .ok (.iinc 6 (-1), 3) := by decide +kernel
theorem dX8_multiply_194 : decode cX8_multiply 194 = .ok (.goto (-106), 3) := by decide +kernel
theorem dX8_multiply_197 : decode cX8_multiply 197 = .ok (.aload_n 0, 1) := by decide +kernel
theorem dX8_multiply_198 : decode cX8_multiply 198 = .ok (.dup, 1) := by decide +kernel
theorem dX8_multiply_199 : decode cX8_multiply 199 = .ok (.getfield 20, 3) := by decide +kernel
theorem dX8_multiply_202 : decode cX8_multiply 202 = .ok (.iload 4, 2) := by decide +kernel
theorem dX8_multiply_204 : decode cX8_multiply 204 = .ok (.iadd, 1) := by decide +kernel
theorem dX8_multiply_205 : decode cX8_multiply 205 = .ok (.putfield 20, 3) := by decide +kernel
theorem dX8_multiply_208 : decode cX8_multiply 208 = .ok (.aload_n 0, 1) := by decide +kernel
theorem dX8_multiply_209 : decode cX8_multiply 209 = .ok (.dup, 1) := by decide +kernel
theorem dX8_multiply_210 : decode cX8_multiply 210 = .ok (.getfield 24, 3) := by decide +kernel
theorem dX8_multiply_213 : decode cX8_multiply 213 = .ok (.iload 5, 2) := by decide +kernel
theorem dX8_multiply_215 : decode cX8_multiply 215 = .ok (.iadd, 1) := by decide +kernel
theorem dX8_multiply_216 : decode cX8_multiply 216 = .ok (.putfield 24, 3) := by decide +kernel
theorem dX8_multiply_219 : decode cX8_multiply 219 = .ok (.return_, 1) := by decide +kernel
theorem dX10_addProduct_0 : decode cX10_addProduct 0 = .ok (.iconst 0, 1) := by decide +kernel
theorem dX10_addProduct_1 : decode cX10_addProduct 1 = .ok (.istore 4, 2) := by decide +kernel
theorem dX10_addProduct_3 : decode cX10_addProduct 3 = .ok (.iload 4, 2) := by decide +kernel
theorem dX10_addProduct_5 : decode cX10_addProduct 5 = .ok (.bipush 6, 2) := by decide +kernel
theorem dX10_addProduct_7 : decode cX10_addProduct 7 = .ok (.if_icmp .ge 86, 3) := by decide +kernel
theorem dX10_addProduct_10 : decode cX10_addProduct 10 = .ok (.aload_n 1, 1) := by decide +kernel
theorem dX10_addProduct_11 : decode cX10_addProduct 11 = .ok (.iload_n 2, 1) := by decide +kernel
theorem dX10_addProduct_12 : decode cX10_addProduct 12 = .ok (.iload 4, 2) := by decide +kernel
theorem dX10_addProduct_14 : decode cX10_addProduct 14 = .ok (.iadd, 1) := by decide +kernel
theorem dX10_addProduct_15 : decode cX10_addProduct 15 = .ok (.laload, 1) := by decide +kernel
theorem dX10_addProduct_16 : decode cX10_addProduct 16 = .ok (.lstore 5, 2) := by decide +kernel
theorem dX10_addProduct_18 : decode cX10_addProduct 18 = .ok (.lconst 0, 1) := by decide +kernel
theorem dX10_addProduct_19 : decode cX10_addProduct 19 = .ok (.lstore 7, 2) := by decide +kernel
theorem dX10_addProduct_21 : decode cX10_addProduct 21 = .ok (.iconst 0, 1) := by decide +kernel
theorem dX10_addProduct_22 : decode cX10_addProduct 22 = .ok (.istore 9, 2) := by decide +kernel
theorem dX10_addProduct_24 : decode cX10_addProduct 24 = .ok (.lload 5, 2) := by decide +kernel
theorem dX10_addProduct_26 : decode cX10_addProduct 26 = .ok (.lconst 0, 1) := by decide +kernel
theorem dX10_addProduct_27 : decode cX10_addProduct 27 = .ok (.lcmp, 1) := by decide +kernel
theorem dX10_addProduct_28 : decode cX10_addProduct 28 = .ok (.ifCond .eq 59, 3) := by decide +kernel
theorem dX10_addProduct_31 : decode cX10_addProduct 31 = .ok (.iload 4, 2) := by decide +kernel
theorem dX10_addProduct_33 : decode cX10_addProduct 33 = .ok (.iload 9, 2) := by decide +kernel
theorem dX10_addProduct_35 : decode cX10_addProduct 35 = .ok (.iadd, 1) := by decide +kernel
theorem dX10_addProduct_36 : decode cX10_addProduct 36 = .ok (.bipush 6, 2) := by decide +kernel
theorem dX10_addProduct_38 : decode cX10_addProduct 38 = .ok (.if_icmp .ge 49, 3) := by decide +kernel
theorem dX10_addProduct_41 : decode cX10_addProduct 41 = .ok (.lload 7, 2) := by decide +kernel
theorem dX10_addProduct_43 : decode cX10_addProduct 43 = .ok (.aload_n 0, 1) := by decide +kernel
theorem dX10_addProduct_44 : decode cX10_addProduct 44 = .ok (.iload 4, 2) := by decide +kernel
theorem dX10_addProduct_46 : decode cX10_addProduct 46 = .ok (.iload 9, 2) := by decide +kernel
theorem dX10_addProduct_48 : decode cX10_addProduct 48 = .ok (.iadd, 1) := by decide +kernel
theorem dX10_addProduct_49 : decode cX10_addProduct 49 = .ok (.laload, 1) := by decide +kernel
theorem dX10_addProduct_50 : decode cX10_addProduct 50 = .ok (.lload 5, 2) := by decide +kernel
theorem dX10_addProduct_52 : decode cX10_addProduct 52 = .ok (.aload_n 3, 1) := by decide +kernel
theorem dX10_addProduct_53 : decode cX10_addProduct 53 = .ok (.iload 9, 2) := by decide +kernel
theorem dX10_addProduct_55 : decode cX10_addProduct 55 = .ok (.laload, 1) := by decide +kernel
theorem dX10_addProduct_56 : decode cX10_addProduct 56 = .ok (.lmul, 1) := by decide +kernel
theorem dX10_addProduct_57 : decode cX10_addProduct 57 = .ok (.ladd, 1) := by decide +kernel
theorem dX10_addProduct_58 : decode cX10_addProduct 58 = .ok (.ladd, 1) := by decide +kernel
theorem dX10_addProduct_59 : decode cX10_addProduct 59 = .ok (.lstore 7, 2) := by decide +kernel
theorem dX10_addProduct_61 : decode cX10_addProduct 61 = .ok (.aload_n 0, 1) := by decide +kernel
theorem dX10_addProduct_62 : decode cX10_addProduct 62 = .ok (.iload 4, 2) := by decide +kernel
theorem dX10_addProduct_64 : decode cX10_addProduct 64 = .ok (.iload 9, 2) := by decide +kernel
theorem dX10_addProduct_66 : decode cX10_addProduct 66 = .ok (.iadd, 1) := by decide +kernel
theorem dX10_addProduct_67 : decode cX10_addProduct 67 = .ok (.lload 7, 2) := by decide +kernel
theorem dX10_addProduct_69 : decode cX10_addProduct 69 = .ok (.ldc2_w 15, 3) := by decide +kernel
theorem dX10_addProduct_72 : decode cX10_addProduct 72 = .ok (.land, 1) := by decide +kernel
theorem dX10_addProduct_73 : decode cX10_addProduct 73 = .ok (.lastore, 1) := by decide +kernel
theorem dX10_addProduct_74 : decode cX10_addProduct 74 = .ok (.lload 7, 2) := by decide +kernel
theorem dX10_addProduct_76 : decode cX10_addProduct 76 = .ok (.bipush 31, 2) := by decide +kernel
theorem dX10_addProduct_78 : decode cX10_addProduct 78 = .ok (.lushr, 1) := by decide +kernel
theorem dX10_addProduct_79 : decode cX10_addProduct 79 = .ok (.lstore 7, 2) := by decide +kernel
theorem dX10_addProduct_81 : decode cX10_addProduct 81 = .ok (.iinc 9 1, 3) := by decide +kernel
theorem dX10_addProduct_84 : decode cX10_addProduct 84 = .ok (.goto (-60), 3) := by decide +kernel
theorem dX10_addProduct_87 : decode cX10_addProduct 87 = .ok (.iinc 4 1, 3) := by decide +kernel
theorem dX10_addProduct_90 : decode cX10_addProduct 90 = .ok (.goto (-87), 3) := by decide +kernel
theorem dX10_addProduct_93 : decode cX10_addProduct 93 = .ok (.return_, 1) := by decide +kernel
theorem dX10_scale_0 : decode cX10_scale 0 = .ok (.lconst 0, 1) := by decide +kernel
theorem dX10_scale_1 : decode cX10_scale 1 = .ok (.lstore_n 2, 1) := by decide +kernel
theorem dX10_scale_2 : decode cX10_scale 2 = .ok (.iconst 0, 1) := by decide +kernel
theorem dX10_scale_3 : decode cX10_scale 3 = .ok (.istore 4, 2) := by decide +kernel
theorem dX10_scale_5 : decode cX10_scale 5 = .ok (.iload 4, 2) := by decide +kernel
theorem dX10_scale_7 : decode cX10_scale 7 = .ok (.bipush 6, 2) := by decide +kernel
theorem dX10_scale_9 : decode cX10_scale 9 = .ok (.if_icmp .ge 33, 3) := by decide +kernel
theorem dX10_scale_12 : decode cX10_scale 12 = .ok (.lload_n 2, 1) := by decide +kernel
theorem dX10_scale_13 : decode cX10_scale 13 = .ok (.aload_n 0, 1) := by decide +kernel
theorem dX10_scale_14 : decode cX10_scale 14 = .ok (.iload 4, 2) := by decide +kernel
theorem dX10_scale_16 : decode cX10_scale 16 = .ok (.laload, 1) := by decide +kernel
theorem dX10_scale_17 : decode cX10_scale 17 = .ok (.iload_n 1, 1) := by decide +kernel
theorem dX10_scale_18 : decode cX10_scale 18 = .ok (.i2l, 1) := by decide +kernel
theorem dX10_scale_19 : decode cX10_scale 19 = .ok (.lmul, 1) := by decide +kernel
theorem dX10_scale_20 : decode cX10_scale 20 = .ok (.ladd, 1) := by decide +kernel
theorem dX10_scale_21 : decode cX10_scale 21 = .ok (.lstore_n 2, 1) := by decide +kernel
theorem dX10_scale_22 : decode cX10_scale 22 = .ok (.aload_n 0, 1) := by decide +kernel
theorem dX10_scale_23 : decode cX10_scale 23 = .ok (.iload 4, 2) := by decide +kernel
theorem dX10_scale_25 : decode cX10_scale 25 = .ok (.lload_n 2, 1) := by decide +kernel
theorem dX10_scale_26 : decode cX10_scale 26 = .ok (.ldc2_w 15, 3) := by decide +kernel
theorem dX10_scale_29 : decode cX10_scale 29 = .ok (.land, 1) := by decide +kernel
theorem dX10_scale_30 : decode cX10_scale 30 = .ok (.lastore, 1) := by decide +kernel
theorem dX10_scale_31 : decode cX10_scale 31 = .ok (.lload_n 2, 1) := by decide +kernel
theorem dX10_scale_32 : decode cX10_scale 32 = .ok (.bipush 31, 2) := by decide +kernel
theorem dX10_scale_34 : decode cX10_scale 34 = .ok (.lushr, 1) := by decide +kernel
theorem dX10_scale_35 : decode cX10_scale 35 = .ok (.lstore_n 2, 1) := by decide +kernel
theorem dX10_scale_36 : decode cX10_scale 36 = .ok (.iinc 4 1, 3) := by decide +kernel
theorem dX10_scale_39 : decode cX10_scale 39 = .ok (.goto (-34), 3) := by decide +kernel
theorem dX10_scale_42 : decode cX10_scale 42 = .ok (.return_, 1) := by decide +kernel
theorem dX10_shrink_0 : decode cX10_shrink 0 = .ok (.iload_n 1, 1) := by decide +kernel
theorem dX10_shrink_1 : decode cX10_shrink 1 = .ok (.iconst 1, 1) := by decide +kernel
theorem dX10_shrink_2 : decode cX10_shrink 2 = .ok (.if_icmp .ge 4, 3) := by decide +kernel
theorem dX10_shrink_5 : decode cX10_shrink 5 = .ok (.return_, 1) := by decide +kernel
theorem dX10_shrink_6 : decode cX10_shrink 6 = .ok (.lconst 0, 1) := by decide +kernel
theorem dX10_shrink_7 : decode cX10_shrink 7 = .ok (.lstore_n 2, 1) := by decide +kernel
theorem dX10_shrink_8 : decode cX10_shrink 8 = .ok (.iconst 5, 1) := by decide +kernel
theorem dX10_shrink_9 : decode cX10_shrink 9 = .ok (.istore 4, 2) := by decide +kernel
theorem dX10_shrink_11 : decode cX10_shrink 11 = .ok (.iload 4, 2) := by decide +kernel
theorem dX10_shrink_13 : decode cX10_shrink 13 = .ok (.ifCond .lt 32, 3) := by decide +kernel
theorem dX10_shrink_16 : decode cX10_shrink 16 = .ok (.lload_n 2, 1) := by decide +kernel
theorem dX10_shrink_17 : decode cX10_shrink 17 = .ok (.bipush 31, 2) := by decide +kernel
theorem dX10_shrink_19 : decode cX10_shrink 19 = .ok (.lshl, 1) := by decide +kernel
theorem dX10_shrink_20 : decode cX10_shrink 20 = .ok (.aload_n 0, 1) := by decide +kernel
theorem dX10_shrink_21 : decode cX10_shrink 21 = .ok (.iload 4, 2) := by decide +kernel
theorem dX10_shrink_23 : decode cX10_shrink 23 = .ok (.laload, 1) := by decide +kernel
theorem dX10_shrink_24 : decode cX10_shrink 24 = .ok (.lor, 1) := by decide +kernel
theorem dX10_shrink_25 : decode cX10_shrink 25 = .ok (.lstore_n 2, 1) := by decide +kernel
theorem dX10_shrink_26 : decode cX10_shrink 26 = .ok (.aload_n 0, 1) := by decide +kernel
theorem dX10_shrink_27 : decode cX10_shrink 27 = .ok (.iload 4, 2) := by decide +kernel
theorem dX10_shrink_29 : decode cX10_shrink 29 = .ok (.lload_n 2, 1) := by decide +kernel
theorem dX10_shrink_30 : decode cX10_shrink 30 = .ok (.iload_n 1, 1) := by decide +kernel
theorem dX10_shrink_31 : decode cX10_shrink 31 = .ok (.i2l, 1) := by decide +kernel
theorem dX10_shrink_32 : decode cX10_shrink 32 = .ok (.ldiv, 1) := by decide +kernel
theorem dX10_shrink_33 : decode cX10_shrink 33 = .ok (.lastore, 1) := by decide +kernel
theorem dX10_shrink_34 : decode cX10_shrink 34 = .ok (.lload_n 2, 1) := by decide +kernel
theorem dX10_shrink_35 : decode cX10_shrink 35 = .ok (.iload_n 1, 1) := by decide +kernel
theorem dX10_shrink_36 : decode cX10_shrink 36 = .ok (.i2l, 1) := by decide +kernel
theorem dX10_shrink_37 : decode cX10_shrink 37 = .ok (.lrem, 1) := by decide +kernel
theorem dX10_shrink_38 : decode cX10_shrink 38 = .ok (.lstore_n 2, 1) := by decide +kernel
theorem dX10_shrink_39 : decode cX10_shrink 39 = .ok (.iinc 4 (-1), 3) := by decide +kernel
theorem dX10_shrink_42 : decode cX10_shrink 42 = .ok (.goto (-31), 3) := by decide +kernel
theorem dX10_shrink_45 : decode cX10_shrink 45 = .ok (.return_, 1) := by decide +kernel
theorem dX5_addPlacements_0 : decode cX5_addPlacements 0 = .ok (.aload_n 0, 1) := by decide +kernel
theorem dX5_addPlacements_1 : decode cX5_addPlacements 1 = .ok (.getfield 49, 3) := by decide +kernel
theorem dX5_addPlacements_4 : decode cX5_addPlacements 4 = .ok (.invokevirtual 109, 3) := by decide +kernel
theorem dX5_addPlacements_7 : decode cX5_addPlacements 7 = .ok (.istore 4, 2) := by decide +kernel
theorem dX5_addPlacements_9 : decode cX5_addPlacements 9 = .ok (.aload_n 0, 1) := by decide +kernel
theorem dX5_addPlacements_10 : decode cX5_addPlacements 10 = .ok (.getfield 48, 3) := by decide +kernel
theorem dX5_addPlacements_13 : decode cX5_addPlacements 13 = .ok (.invokevirtual 142, 3) := by decide +kernel
theorem dX5_addPlacements_16 : decode cX5_addPlacements 16 = .ok (.istore 5, 2) := by decide +kernel
theorem dX5_addPlacements_18 : decode cX5_addPlacements 18 = .ok (.aload_n 0, 1) := by decide +kernel
theorem dX5_addPlacements_19 : decode cX5_addPlacements 19 = .ok (.getfield 30, 3) := by decide +kernel
theorem dX5_addPlacements_22 : decode cX5_addPlacements 22 = .ok (.iconst 1, 1) := by decide +kernel
theorem dX5_addPlacements_23 : decode cX5_addPlacements 23 = .ok (.invokestatic 121, 3) := by decide +kernel
theorem dX5_addPlacements_26 : decode cX5_addPlacements 26 = .ok (.iconst 0, 1) := by decide +kernel
theorem dX5_addPlacements_27 : decode cX5_addPlacements 27 = .ok (.istore 6, 2) := by decide +kernel
theorem dX5_addPlacements_29 : decode cX5_addPlacements 29 = .ok (.iload 6, 2) := by decide +kernel
theorem dX5_addPlacements_31 : decode cX5_addPlacements 31 = .ok (.iload 4, 2) := by decide +kernel
theorem dX5_addPlacements_33 : decode cX5_addPlacements 33 = .ok (.if_icmp .gt 106, 3) := by decide +kernel
theorem dX5_addPlacements_36 : decode cX5_addPlacements 36 = .ok (.iload 6, 2) := by decide +kernel
theorem dX5_addPlacements_38 : decode cX5_addPlacements 38 = .ok (.iload 5, 2) := by decide +kernel
theorem dX5_addPlacements_40 : decode cX5_addPlacements 40 = .ok (.aload_n 1, 1) := by decide +kernel
theorem dX5_addPlacements_41 : decode cX5_addPlacements 41 = .ok (.getfield 147, 3) := by decide +kernel
theorem dX5_addPlacements_44 : decode cX5_addPlacements 44 = .ok (.isub, 1) := by decide +kernel
theorem dX5_addPlacements_45 : decode cX5_addPlacements 45 = .ok (.if_icmp .gt 94, 3) := by decide +kernel
theorem dX5_addPlacements_48 : decode cX5_addPlacements 48 = .ok (.iload 5, 2) := by decide +kernel
theorem dX5_addPlacements_50 : decode cX5_addPlacements 50 = .ok (.iload 6, 2) := by decide +kernel
theorem dX5_addPlacements_52 : decode cX5_addPlacements 52 = .ok (.isub, 1) := by decide +kernel
theorem dX5_addPlacements_53 : decode cX5_addPlacements 53 = .ok (.aload_n 1, 1) := by decide +kernel
theorem dX5_addPlacements_54 : decode cX5_addPlacements 54 = .ok (.getfield 150, 3) := by decide +kernel
theorem dX5_addPlacements_57 : decode cX5_addPlacements 57 = .ok (.if_icmp .gt 53, 3) := by decide +kernel
theorem dX5_addPlacements_60 : decode cX5_addPlacements 60 = .ok (.aload_n 0, 1) := by decide +kernel
theorem dX5_addPlacements_61 : decode cX5_addPlacements 61 = .ok (.getfield 33, 3) := by decide +kernel
theorem dX5_addPlacements_64 : decode cX5_addPlacements 64 = .ok (.lconst 0, 1) := by decide +kernel
theorem dX5_addPlacements_65 : decode cX5_addPlacements 65 = .ok (.invokestatic 57, 3) := by decide +kernel
theorem dX5_addPlacements_68 : decode cX5_addPlacements 68 = .ok (.aload_n 0, 1) := by decide +kernel
theorem dX5_addPlacements_69 : decode cX5_addPlacements 69 = .ok (.getfield 33, 3) := by decide +kernel
theorem dX5_addPlacements_72 : decode cX5_addPlacements 72 = .ok (.aload_n 1, 1) := by decide +kernel
theorem dX5_addPlacements_73 : decode cX5_addPlacements 73 = .ok (.getfield 153, 3) := by decide +kernel
theorem dX5_addPlacements_76 : decode cX5_addPlacements 76 = .ok (.iload 5, 2) := by decide +kernel
theorem dX5_addPlacements_78 : decode cX5_addPlacements 78 = .ok (.iload 6, 2) := by decide +kernel
theorem dX5_addPlacements_80 : decode cX5_addPlacements 80 = .ok (.isub, 1) := by decide +kernel
theorem dX5_addPlacements_81 : decode cX5_addPlacements 81 = .ok (.bipush 6, 2) := by decide +kernel
theorem dX5_addPlacements_83 : decode cX5_addPlacements 83 = .ok (.imul, 1) := by decide +kernel
theorem dX5_addPlacements_84 : decode cX5_addPlacements 84 = .ok (.aload_n 0, 1) := by decide +kernel
theorem dX5_addPlacements_85 : decode cX5_addPlacements 85 = .ok (.getfield 30, 3) := by decide +kernel
theorem dX5_addPlacements_88 : decode cX5_addPlacements 88 = .ok (.invokestatic 156, 3) := by decide +kernel
theorem dX5_addPlacements_91 : decode cX5_addPlacements 91 = .ok (.aload_n 2, 1) := by decide +kernel
theorem dX5_addPlacements_92 : decode cX5_addPlacements 92 = .ok (.aload_n 0, 1) := by decide +kernel
theorem dX5_addPlacements_93 : decode cX5_addPlacements 93 = .ok (.getfield 33, 3) := by decide +kernel
theorem dX5_addPlacements_96 : decode cX5_addPlacements 96 = .ok (.iconst 0, 1) := by decide +kernel
theorem dX5_addPlacements_97 : decode cX5_addPlacements 97 = .ok (.iload_n 3, 1) := by decide +kernel
theorem dX5_addPlacements_98 : decode cX5_addPlacements 98 = .ok (.ifCond .eq 8, 3) := by decide +kernel
theorem dX5_addPlacements_101 : decode cX5_addPlacements 101 = .ok (.iload 6, 2) := by decide +kernel
theorem dX5_addPlacements_103 : decode cX5_addPlacements 103 = .ok (.goto 4, 3) := by decide +kernel
theorem dX5_addPlacements_106 : decode cX5_addPlacements 106 = .ok (.iconst 1, 1) := by decide +kernel
theorem dX5_addPlacements_107 : decode cX5_addPlacements 107 = .ok (.invokestatic 160, 3) := by decide +kernel
theorem dX5_addPlacements_110 : decode cX5_addPlacements 110 = .ok (.aload_n 0, 1) := by decide +kernel
theorem dX5_addPlacements_111 : decode cX5_addPlacements 111 = .ok (.getfield 30, 3) := by decide +kernel
theorem dX5_addPlacements_114 : decode cX5_addPlacements 114 = .ok (.iload 4, 2) := by decide +kernel
theorem dX5_addPlacements_116 : decode cX5_addPlacements 116 = .ok (.iload 6, 2) := by decide +kernel
theorem dX5_addPlacements_118 : decode cX5_addPlacements 118 = .ok (.isub, 1) := by decide +kernel
theorem dX5_addPlacements_119 : decode cX5_addPlacements 119 = .ok (.invokestatic 113, 3) := by decide +kernel
theorem dX5_addPlacements_122 : decode cX5_addPlacements 122 = .ok (.aload_n 0, 1) := by decide +kernel
theorem dX5_addPlacements_123 : decode cX5_addPlacements 123 = .ok (.getfield 30, 3) := by decide +kernel
theorem dX5_addPlacements_126 : decode cX5_addPlacements 126 = .ok (.iload 6, 2) := by decide +kernel
theorem dX5_addPlacements_128 : decode cX5_addPlacements 128 = .ok (.iconst 1, 1) := by decide +kernel
theorem dX5_addPlacements_129 : decode cX5_addPlacements 129 = .ok (.iadd, 1) := by decide +kernel
theorem dX5_addPlacements_130 : decode cX5_addPlacements 130 = .ok (.invokestatic 164, 3) := by decide +kernel
theorem dX5_addPlacements_133 : decode cX5_addPlacements 133 = .ok (.iinc 6 1, 3) := by decide +kernel
theorem dX5_addPlacements_136 : decode cX5_addPlacements 136 = .ok (.goto (-107), 3) := by decide +kernel
theorem dX5_addPlacements_139 : decode cX5_addPlacements 139 = .ok (.return_, 1) := by decide +kernel
theorem dX5_weighFree_0 : decode cX5_weighFree 0 = .ok (.aload_n 0, 1) := by decide +kernel
theorem dX5_weighFree_1 : decode cX5_weighFree 1 = .ok (.aload_n 0, 1) := by decide +kernel
theorem dX5_weighFree_2 : decode cX5_weighFree 2 = .ok (.getfield 23, 3) := by decide +kernel
theorem dX5_weighFree_5 : decode cX5_weighFree 5 = .ok (.aload_n 0, 1) := by decide +kernel
theorem dX5_weighFree_6 : decode cX5_weighFree 6 = .ok (.getfield 17, 3) := by decide +kernel
theorem dX5_weighFree_9 : decode cX5_weighFree 9 = .ok (.iconst 0, 1) := by decide +kernel
theorem dX5_weighFree_10 : decode cX5_weighFree 10 = .ok (.invokevirtual 105, 3) := by decide +kernel
theorem dX5_weighFree_13 : decode cX5_weighFree 13 = .ok (.iload_n 1, 1) := by decide +kernel
theorem dX5_weighFree_14 : decode cX5_weighFree 14 = .ok (.ifCond .eq 30, 3) := by decide +kernel
theorem dX5_weighFree_17 : decode cX5_weighFree 17 = .ok (.aload_n 0, 1) := by decide +kernel
theorem dX5_weighFree_18 : decode cX5_weighFree 18 = .ok (.aload_n 0, 1) := by decide +kernel
theorem dX5_weighFree_19 : decode cX5_weighFree 19 = .ok (.getfield 23, 3) := by decide +kernel
theorem dX5_weighFree_22 : decode cX5_weighFree 22 = .ok (.aload_n 0, 1) := by decide +kernel
theorem dX5_weighFree_23 : decode cX5_weighFree 23 = .ok (.getfield 11, 3) := by decide +kernel
theorem dX5_weighFree_26 : decode cX5_weighFree 26 = .ok (.iconst 1, 1) := by decide +kernel
theorem dX5_weighFree_27 : decode cX5_weighFree 27 = .ok (.invokevirtual 105, 3) := by decide +kernel
theorem dX5_weighFree_30 : decode cX5_weighFree 30 = .ok (.aload_n 0, 1) := by decide +kernel
theorem dX5_weighFree_31 : decode cX5_weighFree 31 = .ok (.getfield 17, 3) := by decide +kernel
theorem dX5_weighFree_34 : decode cX5_weighFree 34 = .ok (.aload_n 0, 1) := by decide +kernel
theorem dX5_weighFree_35 : decode cX5_weighFree 35 = .ok (.getfield 49, 3) := by decide +kernel
theorem dX5_weighFree_38 : decode cX5_weighFree 38 = .ok (.invokevirtual 109, 3) := by decide +kernel
theorem dX5_weighFree_41 : decode cX5_weighFree 41 = .ok (.invokestatic 113, 3) := by decide +kernel
theorem dX5_weighFree_44 : decode cX5_weighFree 44 = .ok (.return_, 1) := by decide +kernel
theorem dX5_weigh_0 : decode cX5_weigh 0 = .ok (.aload_n 0, 1) := by decide +kernel
theorem dX5_weigh_1 : decode cX5_weigh 1 = .ok (.getfield 11, 3) := by decide +kernel
theorem dX5_weigh_4 : decode cX5_weigh 4 = .ok (.lconst 0, 1) := by decide +kernel
theorem dX5_weigh_5 : decode cX5_weigh 5 = .ok (.invokestatic 57, 3) := by decide +kernel
theorem dX5_weigh_8 : decode cX5_weigh 8 = .ok (.aload_n 0, 1) := by decide +kernel
theorem dX5_weigh_9 : decode cX5_weigh 9 = .ok (.getfield 17, 3) := by decide +kernel
theorem dX5_weigh_12 : decode cX5_weigh 12 = .ok (.lconst 0, 1) := by decide +kernel
theorem dX5_weigh_13 : decode cX5_weigh 13 = .ok (.invokestatic 57, 3) := by decide +kernel
theorem dX5_weigh_16 : decode cX5_weigh 16 = .ok (.iload_n 1, 1) := by decide +kernel
theorem dX5_weigh_17 : decode cX5_weigh 17 = .ok (.iconst (-1), 1) := by decide +kernel
theorem dX5_weigh_18 : decode cX5_weigh 18 = .ok (.if_icmp .ne 7, 3) := by decide +kernel
theorem dX5_weigh_21 : decode cX5_weigh 21 = .ok (.iconst (-1), 1) := by decide +kernel
theorem dX5_weigh_22 : decode cX5_weigh 22 = .ok (.goto 12, 3) := by decide +kernel
theorem dX5_weigh_25 : decode cX5_weigh 25 = .ok (.aload_n 0, 1) := by decide +kernel
theorem dX5_weigh_26 : decode cX5_weigh 26 = .ok (.getfield 49, 3) := by decide +kernel
theorem dX5_weigh_29 : decode cX5_weigh 29 = .ok (.getfield 63, 3) := by decide +kernel
theorem dX5_weigh_32 : decode cX5_weigh 32 = .ok (.iload_n 1, 1) := by decide +kernel
theorem dX5_weigh_33 : decode cX5_weigh 33 = .ok (.iaload, 1) := by decide +kernel
theorem dX5_weigh_34 : decode cX5_weigh 34 = .ok (.istore_n 2, 1) := by decide +kernel
theorem dX5_weigh_35 : decode cX5_weigh 35 = .ok (.aload_n 0, 1) := by decide +kernel
theorem dX5_weigh_36 : decode cX5_weigh 36 = .ok (.getfield 23, 3) := by decide +kernel
theorem dX5_weigh_39 : decode cX5_weigh 39 = .ok (.invokevirtual 67, 3) := by decide +kernel
theorem dX5_weigh_42 : decode cX5_weigh 42 = .ok (.iconst 0, 1) := by decide +kernel
theorem dX5_weigh_43 : decode cX5_weigh 43 = .ok (.istore_n 3, 1) := by decide +kernel
theorem dX5_weigh_44 : decode cX5_weigh 44 = .ok (.iload_n 3, 1) := by decide +kernel
theorem dX5_weigh_45 : decode cX5_weigh 45 = .ok (.aload_n 0, 1) := by decide +kernel
theorem dX5_weigh_46 : decode cX5_weigh 46 = .ok (.getfield 49, 3) := by decide +kernel
theorem dX5_weigh_49 : decode cX5_weigh 49 = .ok (.getfield 70, 3) := by decide +kernel
theorem dX5_weigh_52 : decode cX5_weigh 52 = .ok (.if_icmp .ge 53, 3) := by decide +kernel
theorem dX5_weigh_55 : decode cX5_weigh 55 = .ok (.iload_n 3, 1) := by decide +kernel
theorem dX5_weigh_56 : decode cX5_weigh 56 = .ok (.iload_n 2, 1) := by decide +kernel
theorem dX5_weigh_57 : decode cX5_weigh 57 = .ok (.if_icmp .eq 42, 3) := by decide +kernel
theorem dX5_weigh_60 : decode cX5_weigh 60 = .ok (.aload_n 0, 1) := by decide +kernel
theorem dX5_weigh_61 : decode cX5_weigh 61 = .ok (.getfield 53, 3) := by decide +kernel
theorem dX5_weigh_64 : decode cX5_weigh 64 = .ok (.iload_n 3, 1) := by decide +kernel
theorem dX5_weigh_65 : decode cX5_weigh 65 = .ok (.iconst (-1), 1) := by decide +kernel
theorem dX5_weigh_66 : decode cX5_weigh 66 = .ok (.invokevirtual 74, 3) := by decide +kernel
theorem dX5_weigh_69 : decode cX5_weigh 69 = .ok (.aload_n 0, 1) := by decide +kernel
theorem dX5_weigh_70 : decode cX5_weigh 70 = .ok (.getfield 23, 3) := by decide +kernel
theorem dX5_weigh_73 : decode cX5_weigh 73 = .ok (.aload_n 0, 1) := by decide +kernel
theorem dX5_weigh_74 : decode cX5_weigh 74 = .ok (.getfield 53, 3) := by decide +kernel
theorem dX5_weigh_77 : decode cX5_weigh 77 = .ok (.getfield 80, 3) := by decide +kernel
theorem dX5_weigh_80 : decode cX5_weigh 80 = .ok (.aload_n 0, 1) := by decide +kernel
theorem dX5_weigh_81 : decode cX5_weigh 81 = .ok (.getfield 53, 3) := by decide +kernel
theorem dX5_weigh_84 : decode cX5_weigh 84 = .ok (.iload_n 3, 1) := by decide +kernel
theorem dX5_weigh_85 : decode cX5_weigh 85 = .ok (.invokevirtual 83, 3) := by decide +kernel
theorem dX5_weigh_88 : decode cX5_weigh 88 = .ok (.aload_n 0, 1) := by decide +kernel
theorem dX5_weigh_89 : decode cX5_weigh 89 = .ok (.getfield 49, 3) := by decide +kernel
theorem dX5_weigh_92 : decode cX5_weigh 92 = .ok (.iload_n 3, 1) := by decide +kernel
theorem dX5_weigh_93 : decode cX5_weigh 93 = .ok (.invokevirtual 87, 3) := by decide +kernel
theorem dX5_weigh_96 : decode cX5_weigh 96 = .ok (.invokevirtual 90, 3) := by decide +kernel
theorem dX5_weigh_99 : decode cX5_weigh 99 = .ok (.iinc 3 1, 3) := by decide +kernel
theorem dX5_weigh_102 : decode cX5_weigh 102 = .ok (.goto (-58), 3) := by decide +kernel
theorem dX5_weigh_105 : decode cX5_weigh 105 = .ok (.iload_n 2, 1) := by decide +kernel
theorem dX5_weigh_106 : decode cX5_weigh 106 = .ok (.iconst (-1), 1) := by decide +kernel
theorem dX5_weigh_107 : decode cX5_weigh 107 = .ok (.if_icmp .ne 18, 3) := by decide +kernel
theorem dX5_weigh_110 : decode cX5_weigh 110 = .ok (.aload_n 0, 1) := by decide +kernel
theorem dX5_weigh_111 : decode cX5_weigh 111 = .ok (.iload_n 1, 1) := by decide +kernel
theorem dX5_weigh_112 : decode cX5_weigh 112 = .ok (.iconst (-1), 1) := by decide +kernel
theorem dX5_weigh_113 : decode cX5_weigh 113 = .ok (.if_icmp .eq 7, 3) := by decide +kernel
theorem dX5_weigh_116 : decode cX5_weigh 116 = .ok (.iconst 1, 1) := by decide +kernel
theorem dX5_weigh_117 : decode cX5_weigh 117 = .ok (.goto 4, 3) := by decide +kernel
theorem dX5_weigh_120 : decode cX5_weigh 120 = .ok (.iconst 0, 1) := by decide +kernel
theorem dX5_weigh_121 : decode cX5_weigh 121 = .ok (.invokevirtual 94, 3) := by decide +kernel
theorem dX5_weigh_124 : decode cX5_weigh 124 = .ok (.return_, 1) := by decide +kernel
theorem dX5_weigh_125 : decode cX5_weigh 125 = .ok (.aload_n 0, 1) := by decide +kernel
theorem dX5_weigh_126 : decode cX5_weigh 126 = .ok (.getfield 53, 3) := by decide +kernel
theorem dX5_weigh_129 : decode cX5_weigh 129 = .ok (.iload_n 2, 1) := by decide +kernel
theorem dX5_weigh_130 : decode cX5_weigh 130 = .ok (.iload_n 1, 1) := by decide +kernel
theorem dX5_weigh_131 : decode cX5_weigh 131 = .ok (.invokevirtual 74, 3) := by decide +kernel
theorem dX5_weigh_134 : decode cX5_weigh 134 = .ok (.aload_n 0, 1) := by decide +kernel
theorem dX5_weigh_135 : decode cX5_weigh 135 = .ok (.getfield 27, 3) := by decide +kernel
theorem dX5_weigh_138 : decode cX5_weigh 138 = .ok (.aload_n 0, 1) := by decide +kernel
theorem dX5_weigh_139 : decode cX5_weigh 139 = .ok (.getfield 23, 3) := by decide +kernel
theorem dX5_weigh_142 : decode cX5_weigh 142 = .ok (.invokevirtual 98, 3) := by decide +kernel
theorem dX5_weigh_145 : decode cX5_weigh 145 = .ok (.aload_n 0, 1) := by decide +kernel
theorem dX5_weigh_146 : decode cX5_weigh 146 = .ok (.getfield 27, 3) := by decide +kernel
theorem dX5_weigh_149 : decode cX5_weigh 149 = .ok (.aload_n 0, 1) := by decide +kernel
theorem dX5_weigh_150 : decode cX5_weigh 150 = .ok (.getfield 53, 3) := by decide +kernel
theorem dX5_weigh_153 : decode cX5_weigh 153 = .ok (.getfield 102, 3) := by decide +kernel
theorem dX5_weigh_156 : decode cX5_weigh 156 = .ok (.iconst 0, 1) := by decide +kernel
theorem dX5_weigh_157 : decode cX5_weigh 157 = .ok (.aload_n 0, 1) := by decide +kernel
theorem dX5_weigh_158 : decode cX5_weigh 158 = .ok (.getfield 49, 3) := by decide +kernel
theorem dX5_weigh_161 : decode cX5_weigh 161 = .ok (.iload_n 2, 1) := by decide +kernel
theorem dX5_weigh_162 : decode cX5_weigh 162 = .ok (.invokevirtual 87, 3) := by decide +kernel
theorem dX5_weigh_165 : decode cX5_weigh 165 = .ok (.invokevirtual 90, 3) := by decide +kernel
theorem dX5_weigh_168 : decode cX5_weigh 168 = .ok (.aload_n 0, 1) := by decide +kernel
theorem dX5_weigh_169 : decode cX5_weigh 169 = .ok (.getfield 23, 3) := by decide +kernel
theorem dX5_weigh_172 : decode cX5_weigh 172 = .ok (.aload_n 0, 1) := by decide +kernel
theorem dX5_weigh_173 : decode cX5_weigh 173 = .ok (.getfield 53, 3) := by decide +kernel
theorem dX5_weigh_176 : decode cX5_weigh 176 = .ok (.getfield 80, 3) := by decide +kernel
theorem dX5_weigh_179 : decode cX5_weigh 179 = .ok (.aload_n 0, 1) := by decide +kernel
theorem dX5_weigh_180 : decode cX5_weigh 180 = .ok (.getfield 53, 3) := by decide +kernel
theorem dX5_weigh_183 : decode cX5_weigh 183 = .ok (.iload_n 2, 1) := by decide +kernel
theorem dX5_weigh_184 : decode cX5_weigh 184 = .ok (.invokevirtual 83, 3) := by decide +kernel
theorem dX5_weigh_187 : decode cX5_weigh 187 = .ok (.aload_n 0, 1) := by decide +kernel
theorem dX5_weigh_188 : decode cX5_weigh 188 = .ok (.getfield 49, 3) := by decide +kernel
theorem dX5_weigh_191 : decode cX5_weigh 191 = .ok (.iload_n 2, 1) := by decide +kernel
theorem dX5_weigh_192 : decode cX5_weigh 192 = .ok (.invokevirtual 87, 3) := by decide +kernel
theorem dX5_weigh_195 : decode cX5_weigh 195 = .ok (.invokevirtual 90, 3) := by decide +kernel
theorem dX5_weigh_198 : decode cX5_weigh 198 = .ok (.aload_n 0, 1) := by decide +kernel
theorem dX5_weigh_199 : decode cX5_weigh 199 = .ok (.aload_n 0, 1) := by decide +kernel
theorem dX5_weigh_200 : decode cX5_weigh 200 = .ok (.getfield 27, 3) := by decide +kernel
theorem dX5_weigh_203 : decode cX5_weigh 203 = .ok (.aload_n 0, 1) := by decide +kernel
theorem dX5_weigh_204 : decode cX5_weigh 204 = .ok (.getfield 11, 3) := by decide +kernel
theorem dX5_weigh_207 : decode cX5_weigh 207 = .ok (.iconst 0, 1) := by decide +kernel
theorem dX5_weigh_208 : decode cX5_weigh 208 = .ok (.invokevirtual 105, 3) := by decide +kernel
theorem dX5_weigh_211 : decode cX5_weigh 211 = .ok (.aload_n 0, 1) := by decide +kernel
theorem dX5_weigh_212 : decode cX5_weigh 212 = .ok (.aload_n 0, 1) := by decide +kernel
theorem dX5_weigh_213 : decode cX5_weigh 213 = .ok (.getfield 23, 3) := by decide +kernel
theorem dX5_weigh_216 : decode cX5_weigh 216 = .ok (.aload_n 0, 1) := by decide +kernel
theorem dX5_weigh_217 : decode cX5_weigh 217 = .ok (.getfield 17, 3) := by decide +kernel
theorem dX5_weigh_220 : decode cX5_weigh 220 = .ok (.iconst 0, 1) := by decide +kernel
theorem dX5_weigh_221 : decode cX5_weigh 221 = .ok (.invokevirtual 105, 3) := by decide +kernel
theorem dX5_weigh_224 : decode cX5_weigh 224 = .ok (.return_, 1) := by decide +kernel
theorem dX10_isZero_0 : decode cX10_isZero 0 = .ok (.lconst 0, 1) := by decide +kernel
theorem dX10_isZero_1 : decode cX10_isZero 1 = .ok (.lstore_n 1, 1) := by decide +kernel
theorem dX10_isZero_2 : decode cX10_isZero 2 = .ok (.iconst 0, 1) := by decide +kernel
theorem dX10_isZero_3 : decode cX10_isZero 3 = .ok (.istore_n 3, 1) := by decide +kernel
theorem dX10_isZero_4 : decode cX10_isZero 4 = .ok (.iload_n 3, 1) := by decide +kernel
theorem dX10_isZero_5 : decode cX10_isZero 5 = .ok (.bipush 6, 2) := by decide +kernel
theorem dX10_isZero_7 : decode cX10_isZero 7 = .ok (.if_icmp .ge 15, 3) := by decide +kernel
theorem dX10_isZero_10 : decode cX10_isZero 10 = .ok (.lload_n 1, 1) := by decide +kernel
theorem dX10_isZero_11 : decode cX10_isZero 11 = .ok (.aload_n 0, 1) := by decide +kernel
theorem dX10_isZero_12 : decode cX10_isZero 12 = .ok (.iload_n 3, 1) := by decide +kernel
theorem dX10_isZero_13 : decode cX10_isZero 13 = .ok (.laload, 1) := by decide +kernel
theorem dX10_isZero_14 : decode cX10_isZero 14 = .ok (.lor, 1) := by decide +kernel
theorem dX10_isZero_15 : decode cX10_isZero 15 = .ok (.lstore_n 1, 1) := by decide +kernel
theorem dX10_isZero_16 : decode cX10_isZero 16 = .ok (.iinc 3 1, 3) := by decide +kernel
theorem dX10_isZero_19 : decode cX10_isZero 19 = .ok (.goto (-15), 3) := by decide +kernel
theorem dX10_isZero_22 : decode cX10_isZero 22 = .ok (.lload_n 1, 1) := by decide +kernel
theorem dX10_isZero_23 : decode cX10_isZero 23 = .ok (.lconst 0, 1) := by decide +kernel
theorem dX10_isZero_24 : decode cX10_isZero 24 = .ok (.lcmp, 1) := by decide +kernel
theorem dX10_isZero_25 : decode cX10_isZero 25 = .ok (.ifCond .ne 7, 3) := by decide +kernel
theorem dX10_isZero_28 : decode cX10_isZero 28 = .ok (.iconst 1, 1) := by decide +kernel
theorem dX10_isZero_29 : decode cX10_isZero 29 = .ok (.goto 4, 3) := by decide +kernel
theorem dX10_isZero_32 : decode cX10_isZero 32 = .ok (.iconst 0, 1) := by decide +kernel
theorem dX10_isZero_33 : decode cX10_isZero 33 = .ok (.ireturn, 1) := by decide +kernel
theorem dX10_isLess_0 : decode cX10_isLess 0 = .ok (.iconst 5, 1) := by decide +kernel
theorem dX10_isLess_1 : decode cX10_isLess 1 = .ok (.istore_n 2, 1) := by decide +kernel
theorem dX10_isLess_2 : decode cX10_isLess 2 = .ok (.iload_n 2, 1) := by decide +kernel
theorem dX10_isLess_3 : decode cX10_isLess 3 = .ok (.ifCond .lt 35, 3) := by decide +kernel
theorem dX10_isLess_6 : decode cX10_isLess 6 = .ok (.aload_n 0, 1) := by decide +kernel
theorem dX10_isLess_7 : decode cX10_isLess 7 = .ok (.iload_n 2, 1) := by decide +kernel
theorem dX10_isLess_8 : decode cX10_isLess 8 = .ok (.laload, 1) := by decide +kernel
theorem dX10_isLess_9 : decode cX10_isLess 9 = .ok (.aload_n 1, 1) := by decide +kernel
theorem dX10_isLess_10 : decode cX10_isLess 10 = .ok (.iload_n 2, 1) := by decide +kernel
theorem dX10_isLess_11 : decode cX10_isLess 11 = .ok (.laload, 1) := by decide +kernel
theorem dX10_isLess_12 : decode cX10_isLess 12 = .ok (.lcmp, 1) := by decide +kernel
theorem dX10_isLess_13 : decode cX10_isLess 13 = .ok (.ifCond .eq 19, 3) := by decide +kernel
theorem dX10_isLess_16 : decode cX10_isLess 16 = .ok (.aload_n 0, 1) := by decide +kernel
theorem dX10_isLess_17 : decode cX10_isLess 17 = .ok (.iload_n 2, 1) := by decide +kernel
theorem dX10_isLess_18 : decode cX10_isLess 18 = .ok (.laload, 1) := by decide +kernel
theorem dX10_isLess_19 : decode cX10_isLess 19 = .ok (.aload_n 1, 1) := by decide +kernel
theorem dX10_isLess_20 : decode cX10_isLess 20 = .ok (.iload_n 2, 1) := by decide +kernel
theorem dX10_isLess_21 : decode cX10_isLess 21 = .ok (.laload, 1) := by decide +kernel
theorem dX10_isLess_22 : decode cX10_isLess 22 = .ok (.lcmp, 1) := by decide +kernel
theorem dX10_isLess_23 : decode cX10_isLess 23 = .ok (.ifCond .ge 7, 3) := by decide +kernel
theorem dX10_isLess_26 : decode cX10_isLess 26 = .ok (.iconst 1, 1) := by decide +kernel
theorem dX10_isLess_27 : decode cX10_isLess 27 = .ok (.goto 4, 3) := by decide +kernel
theorem dX10_isLess_30 : decode cX10_isLess 30 = .ok (.iconst 0, 1) := by decide +kernel
theorem dX10_isLess_31 : decode cX10_isLess 31 = .ok (.ireturn, 1) := by decide +kernel
theorem dX10_isLess_32 : decode cX10_isLess 32 = .ok (.iinc 2 (-1), 3) := by decide +kernel
theorem dX10_isLess_35 : decode cX10_isLess 35 = .ok (.goto (-33), 3) := by decide +kernel
theorem dX10_isLess_38 : decode cX10_isLess 38 = .ok (.iconst 0, 1) := by decide +kernel
theorem dX10_isLess_39 : decode cX10_isLess 39 = .ok (.ireturn, 1) := by decide +kernel
theorem dX10_subtract_0 : decode cX10_subtract 0 = .ok (.lconst 0, 1) := by decide +kernel
theorem dX10_subtract_1 : decode cX10_subtract 1 = .ok (.lstore_n 2, 1) := by decide +kernel
theorem dX10_subtract_2 : decode cX10_subtract 2 = .ok (.iconst 0, 1) := by decide +kernel
theorem dX10_subtract_3 : decode cX10_subtract 3 = .ok (.istore 4, 2) := by decide +kernel
theorem dX10_subtract_5 : decode cX10_subtract 5 = .ok (.iload 4, 2) := by decide +kernel
theorem dX10_subtract_7 : decode cX10_subtract 7 = .ok (.bipush 6, 2) := by decide +kernel
theorem dX10_subtract_9 : decode cX10_subtract 9 = .ok (.if_icmp .ge 35, 3) := by decide +kernel
theorem dX10_subtract_12 : decode cX10_subtract 12 = .ok (.lload_n 2, 1) := by decide +kernel
theorem dX10_subtract_13 : decode cX10_subtract 13 = .ok (.aload_n 0, 1) := by decide +kernel
theorem dX10_subtract_14 : decode cX10_subtract 14 = .ok (.iload 4, 2) := by decide +kernel
theorem dX10_subtract_16 : decode cX10_subtract 16 = .ok (.laload, 1) := by decide +kernel
theorem dX10_subtract_17 : decode cX10_subtract 17 = .ok (.aload_n 1, 1) := by decide +kernel
theorem dX10_subtract_18 : decode cX10_subtract 18 = .ok (.iload 4, 2) := by decide +kernel
theorem dX10_subtract_20 : decode cX10_subtract 20 = .ok (.laload, 1) := by decide +kernel
theorem dX10_subtract_21 : decode cX10_subtract 21 = .ok (.lsub, 1) := by decide +kernel
theorem dX10_subtract_22 : decode cX10_subtract 22 = .ok (.ladd, 1) := by decide +kernel
theorem dX10_subtract_23 : decode cX10_subtract 23 = .ok (.lstore_n 2, 1) := by decide +kernel
theorem dX10_subtract_24 : decode cX10_subtract 24 = .ok (.aload_n 0, 1) := by decide +kernel
theorem dX10_subtract_25 : decode cX10_subtract 25 = .ok (.iload 4, 2) := by decide +kernel
theorem dX10_subtract_27 : decode cX10_subtract 27 = .ok (.lload_n 2, 1) := by decide +kernel
theorem dX10_subtract_28 : decode cX10_subtract 28 = .ok (.ldc2_w 15, 3) := by decide +kernel
theorem dX10_subtract_31 : decode cX10_subtract 31 = .ok (.land, 1) := by decide +kernel
theorem dX10_subtract_32 : decode cX10_subtract 32 = .ok (.lastore, 1) := by decide +kernel
theorem dX10_subtract_33 : decode cX10_subtract 33 = .ok (.lload_n 2, 1) := by decide +kernel
theorem dX10_subtract_34 : decode cX10_subtract 34 = .ok (.bipush 31, 2) := by decide +kernel
theorem dX10_subtract_36 : decode cX10_subtract 36 = .ok (.lshr, 1) := by decide +kernel
theorem dX10_subtract_37 : decode cX10_subtract 37 = .ok (.lstore_n 2, 1) := by decide +kernel
theorem dX10_subtract_38 : decode cX10_subtract 38 = .ok (.iinc 4 1, 3) := by decide +kernel
theorem dX10_subtract_41 : decode cX10_subtract 41 = .ok (.goto (-36), 3) := by decide +kernel
theorem dX10_subtract_44 : decode cX10_subtract 44 = .ok (.return_, 1) := by decide +kernel
theorem dJ13_bitCount_95d88_0 : decode cJ13_bitCount_95d88 0 = .ok (.lload_n 0, 1) := by decide +kernel
theorem dJ13_bitCount_95d88_1 : decode cJ13_bitCount_95d88 1 = .ok (.lload_n 0, 1) := by decide +kernel
theorem dJ13_bitCount_95d88_2 : decode cJ13_bitCount_95d88 2 = .ok (.iconst 1, 1) := by decide +kernel
theorem dJ13_bitCount_95d88_3 : decode cJ13_bitCount_95d88 3 = .ok (.lushr, 1) := by decide +kernel
theorem dJ13_bitCount_95d88_4 : decode cJ13_bitCount_95d88 4 = .ok (.ldc2_w 314, 3) := by decide +kernel
theorem dJ13_bitCount_95d88_7 : decode cJ13_bitCount_95d88 7 = .ok (.land, 1) := by decide +kernel
theorem dJ13_bitCount_95d88_8 : decode cJ13_bitCount_95d88 8 = .ok (.lsub, 1) := by decide +kernel
theorem dJ13_bitCount_95d88_9 : decode cJ13_bitCount_95d88 9 = .ok (.lstore_n 0, 1) := by decide +kernel
theorem dJ13_bitCount_95d88_10 : decode cJ13_bitCount_95d88 10 = .ok (.lload_n 0, 1) := by decide +kernel
theorem dJ13_bitCount_95d88_11 : decode cJ13_bitCount_95d88 11 = .ok (.ldc2_w 316, 3) := by decide +kernel
theorem dJ13_bitCount_95d88_14 : decode cJ13_bitCount_95d88 14 = .ok (.land, 1) := by decide +kernel
theorem dJ13_bitCount_95d88_15 : decode cJ13_bitCount_95d88 15 = .ok (.lload_n 0, 1) := by decide +kernel
theorem dJ13_bitCount_95d88_16 : decode cJ13_bitCount_95d88 16 = .ok (.iconst 2, 1) := by decide +kernel
theorem dJ13_bitCount_95d88_17 : decode cJ13_bitCount_95d88 17 = .ok (.lushr, 1) := by decide +kernel
theorem dJ13_bitCount_95d88_18 : decode cJ13_bitCount_95d88 18 = .ok (.ldc2_w 316, 3) := by decide +kernel
theorem dJ13_bitCount_95d88_21 : decode cJ13_bitCount_95d88 21 = .ok (.land, 1) := by decide +kernel
theorem dJ13_bitCount_95d88_22 : decode cJ13_bitCount_95d88 22 = .ok (.ladd, 1) := by decide +kernel
theorem dJ13_bitCount_95d88_23 : decode cJ13_bitCount_95d88 23 = .ok (.lstore_n 0, 1) := by decide +kernel
theorem dJ13_bitCount_95d88_24 : decode cJ13_bitCount_95d88 24 = .ok (.lload_n 0, 1) := by decide +kernel
theorem dJ13_bitCount_95d88_25 : decode cJ13_bitCount_95d88 25 = .ok (.lload_n 0, 1) := by decide +kernel
theorem dJ13_bitCount_95d88_26 : decode cJ13_bitCount_95d88 26 = .ok (.iconst 4, 1) := by decide +kernel
theorem dJ13_bitCount_95d88_27 : decode cJ13_bitCount_95d88 27 = .ok (.lushr, 1) := by decide +kernel
theorem dJ13_bitCount_95d88_28 : decode cJ13_bitCount_95d88 28 = .ok (.ladd, 1) := by decide +kernel
theorem dJ13_bitCount_95d88_29 : decode cJ13_bitCount_95d88 29 = .ok (.ldc2_w 318, 3) := by decide +kernel
theorem dJ13_bitCount_95d88_32 : decode cJ13_bitCount_95d88 32 = .ok (.land, 1) := by decide +kernel
theorem dJ13_bitCount_95d88_33 : decode cJ13_bitCount_95d88 33 = .ok (.lstore_n 0, 1) := by decide +kernel
theorem dJ13_bitCount_95d88_34 : decode cJ13_bitCount_95d88 34 = .ok (.lload_n 0, 1) := by decide +kernel
theorem dJ13_bitCount_95d88_35 : decode cJ13_bitCount_95d88 35 = .ok (.lload_n 0, 1) := by decide +kernel
theorem dJ13_bitCount_95d88_36 : decode cJ13_bitCount_95d88 36 = .ok (.bipush 8, 2) := by decide +kernel
theorem dJ13_bitCount_95d88_38 : decode cJ13_bitCount_95d88 38 = .ok (.lushr, 1) := by decide +kernel
theorem dJ13_bitCount_95d88_39 : decode cJ13_bitCount_95d88 39 = .ok (.ladd, 1) := by decide +kernel
theorem dJ13_bitCount_95d88_40 : decode cJ13_bitCount_95d88 40 = .ok (.lstore_n 0, 1) := by decide +kernel
theorem dJ13_bitCount_95d88_41 : decode cJ13_bitCount_95d88 41 = .ok (.lload_n 0, 1) := by decide +kernel
theorem dJ13_bitCount_95d88_42 : decode cJ13_bitCount_95d88 42 = .ok (.lload_n 0, 1) := by decide +kernel
theorem dJ13_bitCount_95d88_43 : decode cJ13_bitCount_95d88 43 = .ok (.bipush 16, 2) := by decide +kernel
theorem dJ13_bitCount_95d88_45 : decode cJ13_bitCount_95d88 45 = .ok (.lushr, 1) := by decide +kernel
theorem dJ13_bitCount_95d88_46 : decode cJ13_bitCount_95d88 46 = .ok (.ladd, 1) := by decide +kernel
theorem dJ13_bitCount_95d88_47 : decode cJ13_bitCount_95d88 47 = .ok (.lstore_n 0, 1) := by decide +kernel
theorem dJ13_bitCount_95d88_48 : decode cJ13_bitCount_95d88 48 = .ok (.lload_n 0, 1) := by decide +kernel
theorem dJ13_bitCount_95d88_49 : decode cJ13_bitCount_95d88 49 = .ok (.lload_n 0, 1) := by decide +kernel
theorem dJ13_bitCount_95d88_50 : decode cJ13_bitCount_95d88 50 = .ok (.bipush 32, 2) := by decide +kernel
theorem dJ13_bitCount_95d88_52 : decode cJ13_bitCount_95d88 52 = .ok (.lushr, 1) := by decide +kernel
theorem dJ13_bitCount_95d88_53 : decode cJ13_bitCount_95d88 53 = .ok (.ladd, 1) := by decide +kernel
theorem dJ13_bitCount_95d88_54 : decode cJ13_bitCount_95d88 54 = .ok (.lstore_n 0, 1) := by decide +kernel
theorem dJ13_bitCount_95d88_55 : decode cJ13_bitCount_95d88 55 = .ok (.lload_n 0, 1) := by decide +kernel
theorem dJ13_bitCount_95d88_56 : decode cJ13_bitCount_95d88 56 = .ok (.l2i, 1) := by decide +kernel
theorem dJ13_bitCount_95d88_57 : decode cJ13_bitCount_95d88 57 = .ok (.bipush 127, 2) := by decide +kernel
theorem dJ13_bitCount_95d88_59 : decode cJ13_bitCount_95d88 59 = .ok (.iand, 1) := by decide +kernel
theorem dJ13_bitCount_95d88_60 : decode cJ13_bitCount_95d88 60 = .ok (.ireturn, 1) := by decide +kernel
theorem dX10_twosOf_0 : decode cX10_twosOf 0 = .ok (.bipush 30, 2) := by decide +kernel
theorem dX10_twosOf_2 : decode cX10_twosOf 2 = .ok (.aload_n 0, 1) := by decide +kernel
theorem dX10_twosOf_3 : decode cX10_twosOf 3 = .ok (.iconst 0, 1) := by decide +kernel
theorem dX10_twosOf_4 : decode cX10_twosOf 4 = .ok (.laload, 1) := by decide +kernel
theorem dX10_twosOf_5 : decode cX10_twosOf 5 = .ok (.aload_n 0, 1) := by decide +kernel
theorem dX10_twosOf_6 : decode cX10_twosOf 6 = .ok (.iconst 0, 1) := by decide +kernel
theorem dX10_twosOf_7 : decode cX10_twosOf 7 = .ok (.laload, 1) := by decide +kernel
theorem dX10_twosOf_8 : decode cX10_twosOf 8 = .ok (.lneg, 1) := by decide +kernel
theorem dX10_twosOf_9 : decode cX10_twosOf 9 = .ok (.land, 1) := by decide +kernel
theorem dX10_twosOf_10 : decode cX10_twosOf 10 = .ok (.lconst 1, 1) := by decide +kernel
theorem dX10_twosOf_11 : decode cX10_twosOf 11 = .ok (.lsub, 1) := by decide +kernel
theorem dX10_twosOf_12 : decode cX10_twosOf 12 = .ok (.invokestatic 40, 3) := by decide +kernel
theorem dX10_twosOf_15 : decode cX10_twosOf 15 = .ok (.invokestatic 46, 3) := by decide +kernel
theorem dX10_twosOf_18 : decode cX10_twosOf 18 = .ok (.ireturn, 1) := by decide +kernel
theorem dX10_shiftDown_0 : decode cX10_shiftDown 0 = .ok (.iconst 0, 1) := by decide +kernel
theorem dX10_shiftDown_1 : decode cX10_shiftDown 1 = .ok (.istore_n 2, 1) := by decide +kernel
theorem dX10_shiftDown_2 : decode cX10_shiftDown 2 = .ok (.iload_n 2, 1) := by decide +kernel
theorem dX10_shiftDown_3 : decode cX10_shiftDown 3 = .ok (.bipush 6, 2) := by decide +kernel
theorem dX10_shiftDown_5 : decode cX10_shiftDown 5 = .ok (.if_icmp .ge 44, 3) := by decide +kernel
theorem dX10_shiftDown_8 : decode cX10_shiftDown 8 = .ok (.iload_n 2, 1) := by decide +kernel
theorem dX10_shiftDown_9 : decode cX10_shiftDown 9 = .ok (.iconst 1, 1) := by decide +kernel
theorem dX10_shiftDown_10 : decode cX10_shiftDown 10 = .ok (.iadd, 1) := by decide +kernel
theorem dX10_shiftDown_11 : decode cX10_shiftDown 11 = .ok (.bipush 6, 2) := by decide +kernel
theorem dX10_shiftDown_13 : decode cX10_shiftDown 13 = .ok (.if_icmp .ge 11, 3) := by decide +kernel
theorem dX10_shiftDown_16 : decode cX10_shiftDown 16 = .ok (.aload_n 0, 1) := by decide +kernel
theorem dX10_shiftDown_17 : decode cX10_shiftDown 17 = .ok (.iload_n 2, 1) := by decide +kernel
theorem dX10_shiftDown_18 : decode cX10_shiftDown 18 = .ok (.iconst 1, 1) := by decide +kernel
theorem dX10_shiftDown_19 : decode cX10_shiftDown 19 = .ok (.iadd, 1) := by decide +kernel
theorem dX10_shiftDown_20 : decode cX10_shiftDown 20 = .ok (.laload, 1) := by decide +kernel
theorem dX10_shiftDown_21 : decode cX10_shiftDown 21 = .ok (.goto 4, 3) := by decide +kernel
theorem dX10_shiftDown_24 : decode cX10_shiftDown 24 = .ok (.lconst 0, 1) := by decide +kernel
theorem dX10_shiftDown_25 : decode cX10_shiftDown 25 = .ok (.lstore_n 3, 1) := by decide +kernel
theorem dX10_shiftDown_26 : decode cX10_shiftDown 26 = .ok (.aload_n 0, 1) := by decide +kernel
theorem dX10_shiftDown_27 : decode cX10_shiftDown 27 = .ok (.iload_n 2, 1) := by decide +kernel
theorem dX10_shiftDown_28 : decode cX10_shiftDown 28 = .ok (.lload_n 3, 1) := by decide +kernel
theorem dX10_shiftDown_29 : decode cX10_shiftDown 29 = .ok (.bipush 31, 2) := by decide +kernel
theorem dX10_shiftDown_31 : decode cX10_shiftDown 31 = .ok (.lshl, 1) := by decide +kernel
theorem dX10_shiftDown_32 : decode cX10_shiftDown 32 = .ok (.aload_n 0, 1) := by decide +kernel
theorem dX10_shiftDown_33 : decode cX10_shiftDown 33 = .ok (.iload_n 2, 1) := by decide +kernel
theorem dX10_shiftDown_34 : decode cX10_shiftDown 34 = .ok (.laload, 1) := by decide +kernel
theorem dX10_shiftDown_35 : decode cX10_shiftDown 35 = .ok (.lor, 1) := by decide +kernel
theorem dX10_shiftDown_36 : decode cX10_shiftDown 36 = .ok (.iload_n 1, 1) := by decide +kernel
theorem dX10_shiftDown_37 : decode cX10_shiftDown 37 = .ok (.lushr, 1) := by decide +kernel
theorem dX10_shiftDown_38 : decode cX10_shiftDown 38 = .ok (.ldc2_w 15, 3) := by decide +kernel
theorem dX10_shiftDown_41 : decode cX10_shiftDown 41 = .ok (.land, 1) := by decide +kernel
theorem dX10_shiftDown_42 : decode cX10_shiftDown 42 = .ok (.lastore, 1) := by decide +kernel
theorem dX10_shiftDown_43 : decode cX10_shiftDown 43 = .ok (.iinc 2 1, 3) := by decide +kernel
theorem dX10_shiftDown_46 : decode cX10_shiftDown 46 = .ok (.goto (-44), 3) := by decide +kernel
theorem dX10_shiftDown_49 : decode cX10_shiftDown 49 = .ok (.return_, 1) := by decide +kernel
theorem dX10_toCommonDivisor_0 : decode cX10_toCommonDivisor 0 = .ok (.iconst 0, 1) := by decide +kernel
theorem dX10_toCommonDivisor_1 : decode cX10_toCommonDivisor 1 = .ok (.istore_n 2, 1) := by decide +kernel
theorem dX10_toCommonDivisor_2 : decode cX10_toCommonDivisor 2 = .ok (.iload_n 2, 1) := by decide +kernel
theorem dX10_toCommonDivisor_3 : decode cX10_toCommonDivisor 3 = .ok (.sipush 186, 3) := by decide +kernel
theorem dX10_toCommonDivisor_6 : decode cX10_toCommonDivisor 6 = .ok (.if_icmp .ge 33, 3) := by decide +kernel
theorem dX10_toCommonDivisor_9 : decode cX10_toCommonDivisor 9 = .ok (.aload_n 0, 1) := by decide +kernel
theorem dX10_toCommonDivisor_10 : decode cX10_toCommonDivisor 10 = .ok (.iconst 0, 1) := by decide +kernel
theorem dX10_toCommonDivisor_11 : decode cX10_toCommonDivisor 11 = .ok (.laload, 1) := by decide +kernel
theorem dX10_toCommonDivisor_12 : decode cX10_toCommonDivisor 12 = .ok (.aload_n 1, 1) := by decide +kernel
theorem dX10_toCommonDivisor_13 : decode cX10_toCommonDivisor 13 = .ok (.iconst 0, 1) := by decide +kernel
theorem dX10_toCommonDivisor_14 : decode cX10_toCommonDivisor 14 = .ok (.laload, 1) := by decide +kernel
theorem dX10_toCommonDivisor_15 : decode cX10_toCommonDivisor 15 = .ok (.lor, 1) := by decide +kernel
theorem dX10_toCommonDivisor_16 : decode cX10_toCommonDivisor 16 = .ok (.lconst 1, 1) := by decide +kernel
theorem dX10_toCommonDivisor_17 : decode cX10_toCommonDivisor 17 = .ok (.land, 1) := by decide +kernel
theorem dX10_toCommonDivisor_18 : decode cX10_toCommonDivisor 18 = .ok (.lconst 0, 1) := by decide +kernel
theorem dX10_toCommonDivisor_19 : decode cX10_toCommonDivisor 19 = .ok (.lcmp, 1) := by decide +kernel
theorem dX10_toCommonDivisor_20 : decode cX10_toCommonDivisor 20 = .ok (.ifCond .ne 19, 3) := by decide +kernel
theorem dX10_toCommonDivisor_23 : decode cX10_toCommonDivisor 23 = .ok (.aload_n 0, 1) := by decide +kernel
theorem dX10_toCommonDivisor_24 : decode cX10_toCommonDivisor 24 = .ok (.iconst 1, 1) := by decide +kernel
theorem dX10_toCommonDivisor_25 : decode cX10_toCommonDivisor 25 = .ok (.invokestatic 17, 3) := by decide +kernel
theorem dX10_toCommonDivisor_28 : decode cX10_toCommonDivisor 28 = .ok (.aload_n 1, 1) := by decide +kernel
theorem dX10_toCommonDivisor_29 : decode cX10_toCommonDivisor 29 = .ok (.iconst 1, 1) := by decide +kernel
theorem dX10_toCommonDivisor_30 : decode cX10_toCommonDivisor 30 = .ok (.invokestatic 17, 3) := by decide +kernel
theorem dX10_toCommonDivisor_33 : decode cX10_toCommonDivisor 33 = .ok (.iinc 2 1, 3) := by decide +kernel
theorem dX10_toCommonDivisor_36 : decode cX10_toCommonDivisor 36 = .ok (.goto (-34), 3) := by decide +kernel
theorem dX10_toCommonDivisor_39 : decode cX10_toCommonDivisor 39 = .ok (.iconst 0, 1) := by decide +kernel
theorem dX10_toCommonDivisor_40 : decode cX10_toCommonDivisor 40 = .ok (.istore_n 3, 1) := by decide +kernel
theorem dX10_toCommonDivisor_41 : decode cX10_toCommonDivisor 41 = .ok (.iload_n 3, 1) := by decide +kernel
theorem dX10_toCommonDivisor_42 : decode cX10_toCommonDivisor 42 = .ok (.sipush 744, 3) := by decide +kernel
theorem dX10_toCommonDivisor_45 : decode cX10_toCommonDivisor 45 = .ok (.if_icmp .ge 79, 3) := by decide +kernel
theorem dX10_toCommonDivisor_48 : decode cX10_toCommonDivisor 48 = .ok (.aload_n 1, 1) := by decide +kernel
theorem dX10_toCommonDivisor_49 : decode cX10_toCommonDivisor 49 = .ok (.invokestatic 21, 3) := by decide +kernel
theorem dX10_toCommonDivisor_52 : decode cX10_toCommonDivisor 52 = .ok (.ifCond .ne 72, 3) := by decide +kernel
theorem dX10_toCommonDivisor_55 : decode cX10_toCommonDivisor 55 = .ok (.aload_n 0, 1) := by decide +kernel
theorem dX10_toCommonDivisor_56 : decode cX10_toCommonDivisor 56 = .ok (.iconst 0, 1) := by decide +kernel
theorem dX10_toCommonDivisor_57 : decode cX10_toCommonDivisor 57 = .ok (.laload, 1) := by decide +kernel
theorem dX10_toCommonDivisor_58 : decode cX10_toCommonDivisor 58 = .ok (.lconst 1, 1) := by decide +kernel
theorem dX10_toCommonDivisor_59 : decode cX10_toCommonDivisor 59 = .ok (.land, 1) := by decide +kernel
theorem dX10_toCommonDivisor_60 : decode cX10_toCommonDivisor 60 = .ok (.lconst 0, 1) := by decide +kernel
theorem dX10_toCommonDivisor_61 : decode cX10_toCommonDivisor 61 = .ok (.lcmp, 1) := by decide +kernel
theorem dX10_toCommonDivisor_62 : decode cX10_toCommonDivisor 62 = .ok (.ifCond .ne 14, 3) := by decide +kernel
theorem dX10_toCommonDivisor_65 : decode cX10_toCommonDivisor 65 = .ok (.aload_n 0, 1) := by decide +kernel
theorem dX10_toCommonDivisor_66 : decode cX10_toCommonDivisor 66 = .ok (.aload_n 0, 1) := by decide +kernel
theorem dX10_toCommonDivisor_67 : decode cX10_toCommonDivisor 67 = .ok (.invokestatic 25, 3) := by decide +kernel
theorem dX10_toCommonDivisor_70 : decode cX10_toCommonDivisor 70 = .ok (.invokestatic 17, 3) := by decide +kernel
theorem dX10_toCommonDivisor_73 : decode cX10_toCommonDivisor 73 = .ok (.goto 45, 3) := by decide +kernel
theorem dX10_toCommonDivisor_76 : decode cX10_toCommonDivisor 76 = .ok (.aload_n 1, 1) := by decide +kernel
theorem dX10_toCommonDivisor_77 : decode cX10_toCommonDivisor 77 = .ok (.iconst 0, 1) := by decide +kernel
theorem dX10_toCommonDivisor_78 : decode cX10_toCommonDivisor 78 = .ok (.laload, 1) := by decide +kernel
theorem dX10_toCommonDivisor_79 : decode cX10_toCommonDivisor 79 = .ok (.lconst 1, 1) := by decide +kernel
theorem dX10_toCommonDivisor_80 : decode cX10_toCommonDivisor 80 = .ok (.land, 1) := by decide +kernel
theorem dX10_toCommonDivisor_81 : decode cX10_toCommonDivisor 81 = .ok (.lconst 0, 1) := by decide +kernel
theorem dX10_toCommonDivisor_82 : decode cX10_toCommonDivisor 82 = .ok (.lcmp, 1) := by decide +kernel
theorem dX10_toCommonDivisor_83 : decode cX10_toCommonDivisor 83 = .ok (.ifCond .ne 14, 3) := by decide +kernel
theorem dX10_toCommonDivisor_86 : decode cX10_toCommonDivisor 86 = .ok (.aload_n 1, 1) := by decide +kernel
theorem dX10_toCommonDivisor_87 : decode cX10_toCommonDivisor 87 = .ok (.aload_n 1, 1) := by decide +kernel
theorem dX10_toCommonDivisor_88 : decode cX10_toCommonDivisor 88 = .ok (.invokestatic 25, 3) := by decide +kernel
theorem dX10_toCommonDivisor_91 : decode cX10_toCommonDivisor 91 = .ok (.invokestatic 17, 3) := by decide +kernel
theorem dX10_toCommonDivisor_94 : decode cX10_toCommonDivisor 94 = .ok (.goto 24, 3) := by decide +kernel
theorem dX10_toCommonDivisor_97 : decode cX10_toCommonDivisor 97 = .ok (.aload_n 1, 1) := by decide +kernel
theorem dX10_toCommonDivisor_98 : decode cX10_toCommonDivisor 98 = .ok (.aload_n 0, 1) := by decide +kernel
theorem dX10_toCommonDivisor_99 : decode cX10_toCommonDivisor 99 = .ok (.invokestatic 29, 3) := by decide +kernel
theorem dX10_toCommonDivisor_102 : decode cX10_toCommonDivisor 102 = .ok (.ifCond .eq 11, 3) := by decide +kernel
theorem dX10_toCommonDivisor_105 : decode cX10_toCommonDivisor 105 = .ok (.aload_n 0, 1) := by decide +kernel
theorem dX10_toCommonDivisor_106 : decode cX10_toCommonDivisor 106 = .ok (.aload_n 1, 1) := by decide +kernel
theorem dX10_toCommonDivisor_107 : decode cX10_toCommonDivisor 107 = .ok (.invokestatic 33, 3) := by decide +kernel
theorem dX10_toCommonDivisor_110 : decode cX10_toCommonDivisor 110 = .ok (.goto 8, 3) := by decide +kernel
theorem dX10_toCommonDivisor_113 : decode cX10_toCommonDivisor 113 = .ok (.aload_n 1, 1) := by decide +kernel
theorem dX10_toCommonDivisor_114 : decode cX10_toCommonDivisor 114 = .ok (.aload_n 0, 1) := by decide +kernel
theorem dX10_toCommonDivisor_115 : decode cX10_toCommonDivisor 115 = .ok (.invokestatic 33, 3) := by decide +kernel
theorem dX10_toCommonDivisor_118 : decode cX10_toCommonDivisor 118 = .ok (.iinc 3 1, 3) := by decide +kernel
theorem dX10_toCommonDivisor_121 : decode cX10_toCommonDivisor 121 = .ok (.goto (-80), 3) := by decide +kernel
theorem dX10_toCommonDivisor_124 : decode cX10_toCommonDivisor 124 = .ok (.iconst 0, 1) := by decide +kernel
theorem dX10_toCommonDivisor_125 : decode cX10_toCommonDivisor 125 = .ok (.istore_n 3, 1) := by decide +kernel
theorem dX10_toCommonDivisor_126 : decode cX10_toCommonDivisor 126 = .ok (.iload_n 3, 1) := by decide +kernel
theorem dX10_toCommonDivisor_127 : decode cX10_toCommonDivisor 127 = .ok (.iload_n 2, 1) := by decide +kernel
theorem dX10_toCommonDivisor_128 : decode cX10_toCommonDivisor 128 = .ok (.if_icmp .ge 14, 3) := by decide +kernel
theorem dX10_toCommonDivisor_131 : decode cX10_toCommonDivisor 131 = .ok (.aload_n 0, 1) := by decide +kernel
theorem dX10_toCommonDivisor_132 : decode cX10_toCommonDivisor 132 = .ok (.iconst 2, 1) := by decide +kernel
theorem dX10_toCommonDivisor_133 : decode cX10_toCommonDivisor 133 = .ok (.invokestatic 37, 3) := by decide +kernel
theorem dX10_toCommonDivisor_136 : decode cX10_toCommonDivisor 136 = .ok (.iinc 3 1, 3) := by decide +kernel
theorem dX10_toCommonDivisor_139 : decode cX10_toCommonDivisor 139 = .ok (.goto (-13), 3) := by decide +kernel
theorem dX10_toCommonDivisor_142 : decode cX10_toCommonDivisor 142 = .ok (.return_, 1) := by decide +kernel
theorem dX10_divide_0 : decode cX10_divide 0 = .ok (.aload_n 2, 1) := by decide +kernel
theorem dX10_divide_1 : decode cX10_divide 1 = .ok (.lconst 0, 1) := by decide +kernel
theorem dX10_divide_2 : decode cX10_divide 2 = .ok (.invokestatic 9, 3) := by decide +kernel
theorem dX10_divide_5 : decode cX10_divide 5 = .ok (.aload_n 3, 1) := by decide +kernel
theorem dX10_divide_6 : decode cX10_divide 6 = .ok (.lconst 0, 1) := by decide +kernel
theorem dX10_divide_7 : decode cX10_divide 7 = .ok (.invokestatic 9, 3) := by decide +kernel
theorem dX10_divide_10 : decode cX10_divide 10 = .ok (.sipush 185, 3) := by decide +kernel
theorem dX10_divide_13 : decode cX10_divide 13 = .ok (.istore 4, 2) := by decide +kernel
theorem dX10_divide_15 : decode cX10_divide 15 = .ok (.iload 4, 2) := by decide +kernel
theorem dX10_divide_17 : decode cX10_divide 17 = .ok (.ifCond .lt 66, 3) := by decide +kernel
theorem dX10_divide_20 : decode cX10_divide 20 = .ok (.iload 4, 2) := by decide +kernel
theorem dX10_divide_22 : decode cX10_divide 22 = .ok (.bipush 31, 2) := by decide +kernel
theorem dX10_divide_24 : decode cX10_divide 24 = .ok (.idiv, 1) := by decide +kernel
theorem dX10_divide_25 : decode cX10_divide 25 = .ok (.istore 5, 2) := by decide +kernel
theorem dX10_divide_27 : decode cX10_divide 27 = .ok (.aload_n 3, 1) := by decide +kernel
theorem dX10_divide_28 : decode cX10_divide 28 = .ok (.iconst 2, 1) := by decide +kernel
theorem dX10_divide_29 : decode cX10_divide 29 = .ok (.invokestatic 37, 3) := by decide +kernel
theorem dX10_divide_32 : decode cX10_divide 32 = .ok (.aload_n 3, 1) := by decide +kernel
theorem dX10_divide_33 : decode cX10_divide 33 = .ok (.iconst 0, 1) := by decide +kernel
theorem dX10_divide_34 : decode cX10_divide 34 = .ok (.dup2, 1) := by decide +kernel
theorem dX10_divide_35 : decode cX10_divide 35 = .ok (.laload, 1) := by decide +kernel
theorem dX10_divide_36 : decode cX10_divide 36 = .ok (.aload_n 0, 1) := by decide +kernel
theorem dX10_divide_37 : decode cX10_divide 37 = .ok (.iload 5, 2) := by decide +kernel
theorem dX10_divide_39 : decode cX10_divide 39 = .ok (.laload, 1) := by decide +kernel
theorem dX10_divide_40 : decode cX10_divide 40 = .ok (.iload 4, 2) := by decide +kernel
theorem dX10_divide_42 : decode cX10_divide 42 = .ok (.bipush 31, 2) := by decide +kernel
theorem dX10_divide_44 : decode cX10_divide 44 = .ok (.irem, 1) := by decide +kernel
theorem dX10_divide_45 : decode cX10_divide 45 = .ok (.lshr, 1) := by decide +kernel
theorem dX10_divide_46 : decode cX10_divide 46 = .ok (.lconst 1, 1) := by decide +kernel
theorem dX10_divide_47 : decode cX10_divide 47 = .ok (.land, 1) := by decide +kernel
theorem dX10_divide_48 : decode cX10_divide 48 = .ok (.lor, 1) := by decide +kernel
theorem dX10_divide_49 : decode cX10_divide 49 = .ok (.lastore, 1) := by decide +kernel
theorem dX10_divide_50 : decode cX10_divide 50 = .ok (.aload_n 3, 1) := by decide +kernel
theorem dX10_divide_51 : decode cX10_divide 51 = .ok (.aload_n 1, 1) := by decide +kernel
theorem dX10_divide_52 : decode cX10_divide 52 = .ok (.invokestatic 29, 3) := by decide +kernel
theorem dX10_divide_55 : decode cX10_divide 55 = .ok (.ifCond .ne 22, 3) := by decide +kernel
theorem dX10_divide_58 : decode cX10_divide 58 = .ok (.aload_n 3, 1) := by decide +kernel
theorem dX10_divide_59 : decode cX10_divide 59 = .ok (.aload_n 1, 1) := by decide +kernel
theorem dX10_divide_60 : decode cX10_divide 60 = .ok (.invokestatic 33, 3) := by decide +kernel
theorem dX10_divide_63 : decode cX10_divide 63 = .ok (.aload_n 2, 1) := by decide +kernel
theorem dX10_divide_64 : decode cX10_divide 64 = .ok (.iload 5, 2) := by decide +kernel
theorem dX10_divide_66 : decode cX10_divide 66 = .ok (.dup2, 1) := by decide +kernel
theorem dX10_divide_67 : decode cX10_divide 67 = .ok (.laload, 1) := by decide +kernel
theorem dX10_divide_68 : decode cX10_divide 68 = .ok (.lconst 1, 1) := by decide +kernel
theorem dX10_divide_69 : decode cX10_divide 69 = .ok (.iload 4, 2) := by decide +kernel
theorem dX10_divide_71 : decode cX10_divide 71 = .ok (.bipush 31, 2) := by decide +kernel
theorem dX10_divide_73 : decode cX10_divide 73 = .ok (.irem, 1) := by decide +kernel
theorem dX10_divide_74 : decode cX10_divide 74 = .ok (.lshl, 1) := by decide +kernel
theorem dX10_divide_75 : decode cX10_divide 75 = .ok (.lor, 1) := by decide +kernel
theorem dX10_divide_76 : decode cX10_divide 76 = .ok (.lastore, 1) := by decide +kernel
theorem dX10_divide_77 : decode cX10_divide 77 = .ok (.iinc 4 (-1), 3) := by decide +kernel
theorem dX10_divide_80 : decode cX10_divide 80 = .ok (.goto (-65), 3) := by decide +kernel
theorem dX10_divide_83 : decode cX10_divide 83 = .ok (.return_, 1) := by decide +kernel
theorem dX5_divideExactly_0 : decode cX5_divideExactly 0 = .ok (.aload_n 1, 1) := by decide +kernel
theorem dX5_divideExactly_1 : decode cX5_divideExactly 1 = .ok (.aload_n 0, 1) := by decide +kernel
theorem dX5_divideExactly_2 : decode cX5_divideExactly 2 = .ok (.getfield 36, 3) := by decide +kernel
theorem dX5_divideExactly_5 : decode cX5_divideExactly 5 = .ok (.aload_n 0, 1) := by decide +kernel
theorem dX5_divideExactly_6 : decode cX5_divideExactly 6 = .ok (.getfield 33, 3) := by decide +kernel
theorem dX5_divideExactly_9 : decode cX5_divideExactly 9 = .ok (.aload_n 0, 1) := by decide +kernel
theorem dX5_divideExactly_10 : decode cX5_divideExactly 10 = .ok (.getfield 39, 3) := by decide +kernel
theorem dX5_divideExactly_13 : decode cX5_divideExactly 13 = .ok (.invokestatic 138, 3) := by decide +kernel
theorem dX5_divideExactly_16 : decode cX5_divideExactly 16 = .ok (.aload_n 0, 1) := by decide +kernel
theorem dX5_divideExactly_17 : decode cX5_divideExactly 17 = .ok (.getfield 33, 3) := by decide +kernel
theorem dX5_divideExactly_20 : decode cX5_divideExactly 20 = .ok (.iconst 0, 1) := by decide +kernel
theorem dX5_divideExactly_21 : decode cX5_divideExactly 21 = .ok (.aload_n 1, 1) := by decide +kernel
theorem dX5_divideExactly_22 : decode cX5_divideExactly 22 = .ok (.iconst 0, 1) := by decide +kernel
theorem dX5_divideExactly_23 : decode cX5_divideExactly 23 = .ok (.bipush 6, 2) := by decide +kernel
theorem dX5_divideExactly_25 : decode cX5_divideExactly 25 = .ok (.invokestatic 124, 3) := by decide +kernel
theorem dX5_divideExactly_28 : decode cX5_divideExactly 28 = .ok (.return_, 1) := by decide +kernel
theorem dX5_reduce_0 : decode cX5_reduce 0 = .ok (.aload_n 0, 1) := by decide +kernel
theorem dX5_reduce_1 : decode cX5_reduce 1 = .ok (.getfield 11, 3) := by decide +kernel
theorem dX5_reduce_4 : decode cX5_reduce 4 = .ok (.invokestatic 117, 3) := by decide +kernel
theorem dX5_reduce_7 : decode cX5_reduce 7 = .ok (.ifCond .eq 12, 3) := by decide +kernel
theorem dX5_reduce_10 : decode cX5_reduce 10 = .ok (.aload_n 0, 1) := by decide +kernel
theorem dX5_reduce_11 : decode cX5_reduce 11 = .ok (.getfield 17, 3) := by decide +kernel
theorem dX5_reduce_14 : decode cX5_reduce 14 = .ok (.iconst 1, 1) := by decide +kernel
theorem dX5_reduce_15 : decode cX5_reduce 15 = .ok (.invokestatic 121, 3) := by decide +kernel
theorem dX5_reduce_18 : decode cX5_reduce 18 = .ok (.return_, 1) := by decide +kernel
theorem dX5_reduce_19 : decode cX5_reduce 19 = .ok (.aload_n 0, 1) := by decide +kernel
theorem dX5_reduce_20 : decode cX5_reduce 20 = .ok (.getfield 11, 3) := by decide +kernel
theorem dX5_reduce_23 : decode cX5_reduce 23 = .ok (.iconst 0, 1) := by decide +kernel
theorem dX5_reduce_24 : decode cX5_reduce 24 = .ok (.aload_n 0, 1) := by decide +kernel
theorem dX5_reduce_25 : decode cX5_reduce 25 = .ok (.getfield 36, 3) := by decide +kernel
theorem dX5_reduce_28 : decode cX5_reduce 28 = .ok (.iconst 0, 1) := by decide +kernel
theorem dX5_reduce_29 : decode cX5_reduce 29 = .ok (.bipush 6, 2) := by decide +kernel
theorem dX5_reduce_31 : decode cX5_reduce 31 = .ok (.invokestatic 124, 3) := by decide +kernel
theorem dX5_reduce_34 : decode cX5_reduce 34 = .ok (.aload_n 0, 1) := by decide +kernel
theorem dX5_reduce_35 : decode cX5_reduce 35 = .ok (.getfield 17, 3) := by decide +kernel
theorem dX5_reduce_38 : decode cX5_reduce 38 = .ok (.iconst 0, 1) := by decide +kernel
theorem dX5_reduce_39 : decode cX5_reduce 39 = .ok (.aload_n 0, 1) := by decide +kernel
theorem dX5_reduce_40 : decode cX5_reduce 40 = .ok (.getfield 39, 3) := by decide +kernel
theorem dX5_reduce_43 : decode cX5_reduce 43 = .ok (.iconst 0, 1) := by decide +kernel
theorem dX5_reduce_44 : decode cX5_reduce 44 = .ok (.bipush 6, 2) := by decide +kernel
theorem dX5_reduce_46 : decode cX5_reduce 46 = .ok (.invokestatic 124, 3) := by decide +kernel
theorem dX5_reduce_49 : decode cX5_reduce 49 = .ok (.aload_n 0, 1) := by decide +kernel
theorem dX5_reduce_50 : decode cX5_reduce 50 = .ok (.getfield 36, 3) := by decide +kernel
theorem dX5_reduce_53 : decode cX5_reduce 53 = .ok (.aload_n 0, 1) := by decide +kernel
theorem dX5_reduce_54 : decode cX5_reduce 54 = .ok (.getfield 39, 3) := by decide +kernel
theorem dX5_reduce_57 : decode cX5_reduce 57 = .ok (.invokestatic 130, 3) := by decide +kernel
theorem dX5_reduce_60 : decode cX5_reduce 60 = .ok (.aload_n 0, 1) := by decide +kernel
theorem dX5_reduce_61 : decode cX5_reduce 61 = .ok (.aload_n 0, 1) := by decide +kernel
theorem dX5_reduce_62 : decode cX5_reduce 62 = .ok (.getfield 11, 3) := by decide +kernel
theorem dX5_reduce_65 : decode cX5_reduce 65 = .ok (.invokevirtual 134, 3) := by decide +kernel
theorem dX5_reduce_68 : decode cX5_reduce 68 = .ok (.aload_n 0, 1) := by decide +kernel
theorem dX5_reduce_69 : decode cX5_reduce 69 = .ok (.aload_n 0, 1) := by decide +kernel
theorem dX5_reduce_70 : decode cX5_reduce 70 = .ok (.getfield 17, 3) := by decide +kernel
theorem dX5_reduce_73 : decode cX5_reduce 73 = .ok (.invokevirtual 134, 3) := by decide +kernel
theorem dX5_reduce_76 : decode cX5_reduce 76 = .ok (.return_, 1) := by decide +kernel
theorem dX5_ofThousand_0 : decode cX5_ofThousand 0 = .ok (.aload_n 0, 1) := by decide +kernel
theorem dX5_ofThousand_1 : decode cX5_ofThousand 1 = .ok (.getfield 11, 3) := by decide +kernel
theorem dX5_ofThousand_4 : decode cX5_ofThousand 4 = .ok (.sipush 1000, 3) := by decide +kernel
theorem dX5_ofThousand_7 : decode cX5_ofThousand 7 = .ok (.invokestatic 113, 3) := by decide +kernel
theorem dX5_ofThousand_10 : decode cX5_ofThousand 10 = .ok (.aload_n 0, 1) := by decide +kernel
theorem dX5_ofThousand_11 : decode cX5_ofThousand 11 = .ok (.getfield 11, 3) := by decide +kernel
theorem dX5_ofThousand_14 : decode cX5_ofThousand 14 = .ok (.aload_n 0, 1) := by decide +kernel
theorem dX5_ofThousand_15 : decode cX5_ofThousand 15 = .ok (.getfield 17, 3) := by decide +kernel
theorem dX5_ofThousand_18 : decode cX5_ofThousand 18 = .ok (.aload_n 0, 1) := by decide +kernel
theorem dX5_ofThousand_19 : decode cX5_ofThousand 19 = .ok (.getfield 33, 3) := by decide +kernel
theorem dX5_ofThousand_22 : decode cX5_ofThousand 22 = .ok (.aload_n 0, 1) := by decide +kernel
theorem dX5_ofThousand_23 : decode cX5_ofThousand 23 = .ok (.getfield 39, 3) := by decide +kernel
theorem dX5_ofThousand_26 : decode cX5_ofThousand 26 = .ok (.invokestatic 138, 3) := by decide +kernel
theorem dX5_ofThousand_29 : decode cX5_ofThousand 29 = .ok (.aload_n 0, 1) := by decide +kernel
theorem dX5_ofThousand_30 : decode cX5_ofThousand 30 = .ok (.getfield 33, 3) := by decide +kernel
theorem dX5_ofThousand_33 : decode cX5_ofThousand 33 = .ok (.iconst 0, 1) := by decide +kernel
theorem dX5_ofThousand_34 : decode cX5_ofThousand 34 = .ok (.laload, 1) := by decide +kernel
theorem dX5_ofThousand_35 : decode cX5_ofThousand 35 = .ok (.l2i, 1) := by decide +kernel
theorem dX5_ofThousand_36 : decode cX5_ofThousand 36 = .ok (.ireturn, 1) := by decide +kernel
theorem dX10_remainder_0 : decode cX10_remainder 0 = .ok (.lconst 0, 1) := by decide +kernel
theorem dX10_remainder_1 : decode cX10_remainder 1 = .ok (.lstore_n 2, 1) := by decide +kernel
theorem dX10_remainder_2 : decode cX10_remainder 2 = .ok (.iconst 5, 1) := by decide +kernel
theorem dX10_remainder_3 : decode cX10_remainder 3 = .ok (.istore 4, 2) := by decide +kernel
theorem dX10_remainder_5 : decode cX10_remainder 5 = .ok (.iload 4, 2) := by decide +kernel
theorem dX10_remainder_7 : decode cX10_remainder 7 = .ok (.ifCond .lt 26, 3) := by decide +kernel
theorem dX10_remainder_10 : decode cX10_remainder 10 = .ok (.iload_n 1, 1) := by decide +kernel
theorem dX10_remainder_11 : decode cX10_remainder 11 = .ok (.ifCond .le 22, 3) := by decide +kernel
theorem dX10_remainder_14 : decode cX10_remainder 14 = .ok (.lload_n 2, 1) := by decide +kernel
theorem dX10_remainder_15 : decode cX10_remainder 15 = .ok (.bipush 31, 2) := by decide +kernel
theorem dX10_remainder_17 : decode cX10_remainder 17 = .ok (.lshl, 1) := by decide +kernel
theorem dX10_remainder_18 : decode cX10_remainder 18 = .ok (.aload_n 0, 1) := by decide +kernel
theorem dX10_remainder_19 : decode cX10_remainder 19 = .ok (.iload 4, 2) := by decide +kernel
theorem dX10_remainder_21 : decode cX10_remainder 21 = .ok (.laload, 1) := by decide +kernel
theorem dX10_remainder_22 : decode cX10_remainder 22 = .ok (.lor, 1) := by decide +kernel
theorem dX10_remainder_23 : decode cX10_remainder 23 = .ok (.iload_n 1, 1) := by decide +kernel
theorem dX10_remainder_24 : decode cX10_remainder 24 = .ok (.i2l, 1) := by decide +kernel
theorem dX10_remainder_25 : decode cX10_remainder 25 = .ok (.lrem, 1) := by decide +kernel
theorem dX10_remainder_26 : decode cX10_remainder 26 = .ok (.lstore_n 2, 1) := by decide +kernel
theorem dX10_remainder_27 : decode cX10_remainder 27 = .ok (.iinc 4 (-1), 3) := by decide +kernel
theorem dX10_remainder_30 : decode cX10_remainder 30 = .ok (.goto (-25), 3) := by decide +kernel
theorem dX10_remainder_33 : decode cX10_remainder 33 = .ok (.lload_n 2, 1) := by decide +kernel
theorem dX10_remainder_34 : decode cX10_remainder 34 = .ok (.lreturn, 1) := by decide +kernel
theorem q_X10_set : yX10_set.cls ≠ "java/lang/invoke/MethodHandle" ∧ yX10_set.cls ≠ "java/lang/invoke/VarHandle" ∧ (parseMethodDescriptor yX10_set.desc).map (fun d => d.parameters.length) = some 2 := ⟨by decide, by decide, by decide +kernel⟩
theorem q_X8_begin : yX8_begin.cls = RX8 ∧ yX8_begin.cls ≠ "java/lang/invoke/MethodHandle" ∧ yX8_begin.cls ≠ "java/lang/invoke/VarHandle" ∧ (parseMethodDescriptor yX8_begin.desc).map (fun d => d.parameters.length) = some 0 := ⟨rfl, by decide, by decide, by decide +kernel⟩
theorem q_X8_copy : yX8_copy.cls = RX8 ∧ yX8_copy.cls ≠ "java/lang/invoke/MethodHandle" ∧ yX8_copy.cls ≠ "java/lang/invoke/VarHandle" ∧ (parseMethodDescriptor yX8_copy.desc).map (fun d => d.parameters.length) = some 1 := ⟨rfl, by decide, by decide, by decide +kernel⟩
theorem q_X10_addScaled : yX10_addScaled.cls ≠ "java/lang/invoke/MethodHandle" ∧ yX10_addScaled.cls ≠ "java/lang/invoke/VarHandle" ∧ (parseMethodDescriptor yX10_addScaled.desc).map (fun d => d.parameters.length) = some 4 := ⟨by decide, by decide, by decide +kernel⟩
theorem q_X8_multiply : yX8_multiply.cls = RX8 ∧ yX8_multiply.cls ≠ "java/lang/invoke/MethodHandle" ∧ yX8_multiply.cls ≠ "java/lang/invoke/VarHandle" ∧ (parseMethodDescriptor yX8_multiply.desc).map (fun d => d.parameters.length) = some 3 := ⟨rfl, by decide, by decide, by decide +kernel⟩
theorem q_X10_addProduct : yX10_addProduct.cls ≠ "java/lang/invoke/MethodHandle" ∧ yX10_addProduct.cls ≠ "java/lang/invoke/VarHandle" ∧ (parseMethodDescriptor yX10_addProduct.desc).map (fun d => d.parameters.length) = some 4 := ⟨by decide, by decide, by decide +kernel⟩
theorem q_X10_scale : yX10_scale.cls ≠ "java/lang/invoke/MethodHandle" ∧ yX10_scale.cls ≠ "java/lang/invoke/VarHandle" ∧ (parseMethodDescriptor yX10_scale.desc).map (fun d => d.parameters.length) = some 2 := ⟨by decide, by decide, by decide +kernel⟩
theorem q_X10_shrink : yX10_shrink.cls ≠ "java/lang/invoke/MethodHandle" ∧ yX10_shrink.cls ≠ "java/lang/invoke/VarHandle" ∧ (parseMethodDescriptor yX10_shrink.desc).map (fun d => d.parameters.length) = some 2 := ⟨by decide, by decide, by decide +kernel⟩
theorem q_X5_addPlacements : yX5_addPlacements.cls = RX5 ∧ yX5_addPlacements.cls ≠ "java/lang/invoke/MethodHandle" ∧ yX5_addPlacements.cls ≠ "java/lang/invoke/VarHandle" ∧ (parseMethodDescriptor yX5_addPlacements.desc).map (fun d => d.parameters.length) = some 3 := ⟨rfl, by decide, by decide, by decide +kernel⟩
theorem q_X5_weighFree : yX5_weighFree.cls = RX5 ∧ yX5_weighFree.cls ≠ "java/lang/invoke/MethodHandle" ∧ yX5_weighFree.cls ≠ "java/lang/invoke/VarHandle" ∧ (parseMethodDescriptor yX5_weighFree.desc).map (fun d => d.parameters.length) = some 1 := ⟨rfl, by decide, by decide, by decide +kernel⟩
theorem q_X5_weigh : yX5_weigh.cls = RX5 ∧ yX5_weigh.cls ≠ "java/lang/invoke/MethodHandle" ∧ yX5_weigh.cls ≠ "java/lang/invoke/VarHandle" ∧ (parseMethodDescriptor yX5_weigh.desc).map (fun d => d.parameters.length) = some 1 := ⟨rfl, by decide, by decide, by decide +kernel⟩
theorem q_X10_isZero : yX10_isZero.cls ≠ "java/lang/invoke/MethodHandle" ∧ yX10_isZero.cls ≠ "java/lang/invoke/VarHandle" ∧ (parseMethodDescriptor yX10_isZero.desc).map (fun d => d.parameters.length) = some 1 := ⟨by decide, by decide, by decide +kernel⟩
theorem q_X10_isLess : yX10_isLess.cls ≠ "java/lang/invoke/MethodHandle" ∧ yX10_isLess.cls ≠ "java/lang/invoke/VarHandle" ∧ (parseMethodDescriptor yX10_isLess.desc).map (fun d => d.parameters.length) = some 2 := ⟨by decide, by decide, by decide +kernel⟩
theorem q_X10_subtract : yX10_subtract.cls ≠ "java/lang/invoke/MethodHandle" ∧ yX10_subtract.cls ≠ "java/lang/invoke/VarHandle" ∧ (parseMethodDescriptor yX10_subtract.desc).map (fun d => d.parameters.length) = some 2 := ⟨by decide, by decide, by decide +kernel⟩
theorem q_J13_bitCount_95d88 : yJ13_bitCount_95d88.cls ≠ "java/lang/invoke/MethodHandle" ∧ yJ13_bitCount_95d88.cls ≠ "java/lang/invoke/VarHandle" ∧ (parseMethodDescriptor yJ13_bitCount_95d88.desc).map (fun d => d.parameters.length) = some 1 := ⟨by decide, by decide, by decide +kernel⟩
theorem q_X10_twosOf : yX10_twosOf.cls ≠ "java/lang/invoke/MethodHandle" ∧ yX10_twosOf.cls ≠ "java/lang/invoke/VarHandle" ∧ (parseMethodDescriptor yX10_twosOf.desc).map (fun d => d.parameters.length) = some 1 := ⟨by decide, by decide, by decide +kernel⟩
theorem q_X10_shiftDown : yX10_shiftDown.cls ≠ "java/lang/invoke/MethodHandle" ∧ yX10_shiftDown.cls ≠ "java/lang/invoke/VarHandle" ∧ (parseMethodDescriptor yX10_shiftDown.desc).map (fun d => d.parameters.length) = some 2 := ⟨by decide, by decide, by decide +kernel⟩
theorem q_X10_toCommonDivisor : yX10_toCommonDivisor.cls ≠ "java/lang/invoke/MethodHandle" ∧ yX10_toCommonDivisor.cls ≠ "java/lang/invoke/VarHandle" ∧ (parseMethodDescriptor yX10_toCommonDivisor.desc).map (fun d => d.parameters.length) = some 2 := ⟨by decide, by decide, by decide +kernel⟩
theorem q_X10_divide : yX10_divide.cls ≠ "java/lang/invoke/MethodHandle" ∧ yX10_divide.cls ≠ "java/lang/invoke/VarHandle" ∧ (parseMethodDescriptor yX10_divide.desc).map (fun d => d.parameters.length) = some 4 := ⟨by decide, by decide, by decide +kernel⟩
theorem q_X5_divideExactly : yX5_divideExactly.cls = RX5 ∧ yX5_divideExactly.cls ≠ "java/lang/invoke/MethodHandle" ∧ yX5_divideExactly.cls ≠ "java/lang/invoke/VarHandle" ∧ (parseMethodDescriptor yX5_divideExactly.desc).map (fun d => d.parameters.length) = some 1 := ⟨rfl, by decide, by decide, by decide +kernel⟩
theorem q_X5_reduce : yX5_reduce.cls = RX5 ∧ yX5_reduce.cls ≠ "java/lang/invoke/MethodHandle" ∧ yX5_reduce.cls ≠ "java/lang/invoke/VarHandle" ∧ (parseMethodDescriptor yX5_reduce.desc).map (fun d => d.parameters.length) = some 0 := ⟨rfl, by decide, by decide, by decide +kernel⟩
theorem q_X5_ofThousand : yX5_ofThousand.cls = RX5 ∧ yX5_ofThousand.cls ≠ "java/lang/invoke/MethodHandle" ∧ yX5_ofThousand.cls ≠ "java/lang/invoke/VarHandle" ∧ (parseMethodDescriptor yX5_ofThousand.desc).map (fun d => d.parameters.length) = some 0 := ⟨rfl, by decide, by decide, by decide +kernel⟩
theorem q_X10_remainder : yX10_remainder.cls ≠ "java/lang/invoke/MethodHandle" ∧ yX10_remainder.cls ≠ "java/lang/invoke/VarHandle" ∧ (parseMethodDescriptor yX10_remainder.desc).map (fun d => d.parameters.length) = some 2 := ⟨by decide, by decide, by decide +kernel⟩
def P_J7_fill_d0a16_52 (post : (Int → Int64) → Prop) (Q_mined : Int → Int64) (x1 : Int64) : Prop :=
  ∃ Inv_1 : Nat → (Int) → (Int → Int64) → Prop, (∃ n_2 : Nat, Inv_1 n_2 0 Q_mined) ∧ ∀ (n_3 : Nat) (x3_6 : Int) (Q_mined_7 : Int → Int64), inR x3_6 → Inv_1 n_3 x3_6 Q_mined_7 → ((6 ≤ x3_6 → (post Q_mined_7)) ∧ (¬ 6 ≤ x3_6 → ((0 ≤ x3_6 ∧ x3_6 < 6) ∧ (∀ Q_mined_10 : Int → Int64, Q_mined_10 = upZ Q_mined_7 x3_6 x1 → (inR (x3_6 + 1) ∧ (∀ x3_12 : Int, x3_12 = (x3_6 + 1) → (∃ n_13 : Nat, n_13 < n_3 ∧ Inv_1 n_13 x3_12 Q_mined_10)))))))
set_option maxRecDepth 100000 in
set_option maxHeartbeats 4000000 in
theorem c_J7_fill_d0a16_52 (l : Launch) (K : wK) (ad : Nat → Nat) {D_hasBoard : Int} {D_beganBlank : Int} {F_mines : Int} {F_moves : Int} {F_changes : Int} {G_width : Int} {G_height : Int} {G_size : Int} {B_parts : Int} {B_longest : Int} {S_groups : Int} {S_askedGroup : Int} {S_taken : Int} {R_waitingCount : Int} {R_metCount : Int} {A_grade : Int} {A_cell : Int} {A_mined : Int} {A_withTotal : Int} {A_numbers : Int} {X_low : Int} {X_high : Int} {Y_low : Int} {Y_high : Int} {F_mined : Int → Int} {F_number : Int → Int} {F_state : Int → Int} {F_cellsIn : Int → Int} {F_unknownNear : Int → Int} {F_hitNear : Int → Int} {F_moveStart : Int → Int} {F_changed : Int → Int} {F_waiting : Int → Int} {F_seen : Int → Int} {G_near : Int → Int} {G_nearEnd : Int → Int} {B_chosen : Int → Int} {B_partOf : Int → Int} {B_rest : Int → Int} {B_unknowns : Int → Int} {B_partStart : Int → Int} {B_cells : Int → Int} {S_minedSet : Int → Int} {S_safeSet : Int → Int} {S_partSet : Int → Int} {S_tally : Int → Int} {S_askedTally : Int → Int} {S_groupOf : Int → Int} {S_groupSize : Int → Int} {S_links : Int → Int} {S_linkEnd : Int → Int} {S_pick : Int → Int} {S_groupMinedSet : Int → Int} {S_groupSafeSet : Int → Int} {O_sums : Int → Int64} {O_nextSums : Int → Int64} {R_found : Int → Int} {R_openEnds : Int → Int} {R_need : Int → Int} {R_waiting : Int → Int} {R_waits : Int → Int} {R_common : Int → Int} {R_met : Int → Int} {A_number : Int → Int} {Q_mined : Int → Int64} {Q_all : Int → Int64} {Q_choices : Int → Int64} {Q_term : Int → Int64} {Q_divisor : Int → Int64} {Q_spare : Int → Int64} {X_limbs : Int → Int64} {X_sum : Int → Int64} {Y_limbs : Int → Int64} {Y_sum : Int → Int64} (x1 : Int64)  (post : (Int → Int64) → Prop) (h : P_J7_fill_d0a16_52 post Q_mined x1) : mV l yJ7_fill_d0a16 (Cond.code yJ7_fill_d0a16 cJ7_fill_d0a16 5 none :: GT) ({ frames := 2, cells := 0, slots := 0, locals := 120 } : Room) [.ref (ad 52), .long x1] K ad (dW D_hasBoard D_beganBlank F_mines F_moves F_changes G_width G_height G_size B_parts B_longest S_groups S_askedGroup S_taken R_waitingCount R_metCount A_grade A_cell A_mined A_withTotal A_numbers X_low X_high Y_low Y_high F_mined F_number F_state F_cellsIn F_unknownNear F_hitNear F_moveStart F_changed F_waiting F_seen G_near G_nearEnd B_chosen B_partOf B_rest B_unknowns B_partStart B_cells S_minedSet S_safeSet S_partSet S_tally S_askedTally S_groupOf S_groupSize S_links S_linkEnd S_pick S_groupMinedSet S_groupSafeSet O_sums O_nextSums R_found R_openEnds R_need R_waiting R_waits R_common R_met A_number Q_mined Q_all Q_choices Q_term Q_divisor Q_spare X_limbs X_sum Y_limbs Y_sum) (fun u9 => ∃ Q_mined9, u9 = (dW D_hasBoard D_beganBlank F_mines F_moves F_changes G_width G_height G_size B_parts B_longest S_groups S_askedGroup S_taken R_waitingCount R_metCount A_grade A_cell A_mined A_withTotal A_numbers X_low X_high Y_low Y_high F_mined F_number F_state F_cellsIn F_unknownNear F_hitNear F_moveStart F_changed F_waiting F_seen G_near G_nearEnd B_chosen B_partOf B_rest B_unknowns B_partStart B_cells S_minedSet S_safeSet S_partSet S_tally S_askedTally S_groupOf S_groupSize S_links S_linkEnd S_pick S_groupMinedSet S_groupSafeSet O_sums O_nextSums R_found R_openEnds R_need R_waiting R_waits R_common R_met A_number Q_mined9 Q_all Q_choices Q_term Q_divisor Q_spare X_limbs X_sum Y_limbs Y_sum) ∧ post Q_mined9) := by
  refine mV_of (lv0 := [(0, .ref (ad 52)), (1, .long x1)]) (by decide) (Nat.le_of_ble_eq_true rfl) rfl ?_
  intro p e s m args below meth c Q A C ret
  replace C : Cx p ({ frames := 2, cells := 0, slots := 0, locals := 120 } : Room) m c 0 0 cJ7_fill_d0a16 5 s args RJ7 K A := C
  unfold P_J7_fill_d0a16_52 at h
  refine wa_iconst C (z := 0) dJ7_fill_d0a16_0 rfl ?_
  refine wa_istore_n C dJ7_fill_d0a16_1 rfl (by decide) rfl ?_
  refine wa_aload_n C 1 rfl dJ7_fill_d0a16_2 rfl ?_
  refine wa_alen C (z := 6) 52 dW_52 rfl dJ7_fill_d0a16_3 ?_
  refine wa_istore C dJ7_fill_d0a16_4 (by decide) rfl ?_
  obtain ⟨Inv_1, ⟨n_2, h0Inv_1⟩, hInv_1⟩ := h
  have k_5 : ∀ (n_3 : Nat) (x3_6 : Int) (Q_mined_7 : Int → Int64), inR x3_6 → Inv_1 n_3 x3_6 Q_mined_7 → WA p l e ({ frames := 2, cells := 0, slots := 0, locals := 120 } : Room) s m args below meth c 0 0 Q K ad 5 A 6 [(0, .ref (ad 52)), (1, .long x1), (3, .int (iI x3_6)), (4, .int (iI 6))] [] (dW D_hasBoard D_beganBlank F_mines F_moves F_changes G_width G_height G_size B_parts B_longest S_groups S_askedGroup S_taken R_waitingCount R_metCount A_grade A_cell A_mined A_withTotal A_numbers X_low X_high Y_low Y_high F_mined F_number F_state F_cellsIn F_unknownNear F_hitNear F_moveStart F_changed F_waiting F_seen G_near G_nearEnd B_chosen B_partOf B_rest B_unknowns B_partStart B_cells S_minedSet S_safeSet S_partSet S_tally S_askedTally S_groupOf S_groupSize S_links S_linkEnd S_pick S_groupMinedSet S_groupSafeSet O_sums O_nextSums R_found R_openEnds R_need R_waiting R_waits R_common R_met A_number Q_mined_7 Q_all Q_choices Q_term Q_divisor Q_spare X_limbs X_sum Y_limbs Y_sum) := by
    intro n_3
    induction n_3 using Nat.strongRecOn with
    | ind n_3 ih_4 =>
      intro x3_6 Q_mined_7 rx3_6 h
      replace h := hInv_1 n_3 x3_6 Q_mined_7 rx3_6 h
      refine wa_iload_n C 2 rfl dJ7_fill_d0a16_6 rfl ?_
      refine wa_iload C 3 rfl dJ7_fill_d0a16_7 ?_
      refine wa_icmp_ge C (tgt := 22) rx3_6 (inR_k 6 rfl) dJ7_fill_d0a16_9 (by decide) (fun c_8 => ?_) (fun c_8 => ?_)
      · replace h := h.1 c_8
        exact ret dJ7_fill_d0a16_22 ⟨_, rfl, h⟩
      · replace h := h.2 c_8
        refine wa_aload_n C 0 rfl dJ7_fill_d0a16_12 rfl ?_
        refine wa_iload_n C 2 rfl dJ7_fill_d0a16_13 rfl ?_
        refine wa_lload_n C 1 rfl dJ7_fill_d0a16_14 rfl ?_
        obtain ⟨t_9, h⟩ := h
        refine wa_last C (ws' := fun w9 => (dW D_hasBoard D_beganBlank F_mines F_moves F_changes G_width G_height G_size B_parts B_longest S_groups S_askedGroup S_taken R_waitingCount R_metCount A_grade A_cell A_mined A_withTotal A_numbers X_low X_high Y_low Y_high F_mined F_number F_state F_cellsIn F_unknownNear F_hitNear F_moveStart F_changed F_waiting F_seen G_near G_nearEnd B_chosen B_partOf B_rest B_unknowns B_partStart B_cells S_minedSet S_safeSet S_partSet S_tally S_askedTally S_groupOf S_groupSize S_links S_linkEnd S_pick S_groupMinedSet S_groupSafeSet O_sums O_nextSums R_found R_openEnds R_need R_waiting R_waits R_common R_met A_number w9 Q_all Q_choices Q_term Q_divisor Q_spare X_limbs X_sum Y_limbs Y_sum)) 52 dW_52 dJ7_fill_d0a16_15 t_9.1 t_9.2 dWs_52 (fun Q_mined_10 eQ_mined_10 => ?_)
        replace h := h Q_mined_10 eQ_mined_10
        obtain ⟨r_11, h⟩ := h
        refine wa_iinc C (lv' := fun w9 => [(3, .int (iI w9)), (0, .ref (ad 52)), (1, .long x1), (4, .int (iI 6))]) 2 rfl dJ7_fill_d0a16_16 (by decide) (fun _ => rfl) (fun x3_12 ex3_12 => ?_)
        replace h := h x3_12 ex3_12
        have rx3_12 : inR x3_12 := by rw [ex3_12]; exact r_11
        refine wa_goto C (tgt := 6) dJ7_fill_d0a16_19 (by decide) ?_
        obtain ⟨n_13, ln_13, h⟩ := h
        refine wa_sub C [1, 2, 0, 3] rfl ?_
        exact ih_4 n_13 ln_13 x3_12 Q_mined_10 rx3_12 h
  refine wa_sub C [2, 3, 1, 0] rfl ?_
  exact k_5 n_2 0 Q_mined (inR_k 0 rfl) h0Inv_1
def P_J7_fill_d0a16_53 (post : (Int → Int64) → Prop) (Q_all : Int → Int64) (x1 : Int64) : Prop :=
  ∃ Inv_1 : Nat → (Int) → (Int → Int64) → Prop, (∃ n_2 : Nat, Inv_1 n_2 0 Q_all) ∧ ∀ (n_3 : Nat) (x3_6 : Int) (Q_all_7 : Int → Int64), inR x3_6 → Inv_1 n_3 x3_6 Q_all_7 → ((6 ≤ x3_6 → (post Q_all_7)) ∧ (¬ 6 ≤ x3_6 → ((0 ≤ x3_6 ∧ x3_6 < 6) ∧ (∀ Q_all_10 : Int → Int64, Q_all_10 = upZ Q_all_7 x3_6 x1 → (inR (x3_6 + 1) ∧ (∀ x3_12 : Int, x3_12 = (x3_6 + 1) → (∃ n_13 : Nat, n_13 < n_3 ∧ Inv_1 n_13 x3_12 Q_all_10)))))))
set_option maxRecDepth 100000 in
set_option maxHeartbeats 4000000 in
theorem c_J7_fill_d0a16_53 (l : Launch) (K : wK) (ad : Nat → Nat) {D_hasBoard : Int} {D_beganBlank : Int} {F_mines : Int} {F_moves : Int} {F_changes : Int} {G_width : Int} {G_height : Int} {G_size : Int} {B_parts : Int} {B_longest : Int} {S_groups : Int} {S_askedGroup : Int} {S_taken : Int} {R_waitingCount : Int} {R_metCount : Int} {A_grade : Int} {A_cell : Int} {A_mined : Int} {A_withTotal : Int} {A_numbers : Int} {X_low : Int} {X_high : Int} {Y_low : Int} {Y_high : Int} {F_mined : Int → Int} {F_number : Int → Int} {F_state : Int → Int} {F_cellsIn : Int → Int} {F_unknownNear : Int → Int} {F_hitNear : Int → Int} {F_moveStart : Int → Int} {F_changed : Int → Int} {F_waiting : Int → Int} {F_seen : Int → Int} {G_near : Int → Int} {G_nearEnd : Int → Int} {B_chosen : Int → Int} {B_partOf : Int → Int} {B_rest : Int → Int} {B_unknowns : Int → Int} {B_partStart : Int → Int} {B_cells : Int → Int} {S_minedSet : Int → Int} {S_safeSet : Int → Int} {S_partSet : Int → Int} {S_tally : Int → Int} {S_askedTally : Int → Int} {S_groupOf : Int → Int} {S_groupSize : Int → Int} {S_links : Int → Int} {S_linkEnd : Int → Int} {S_pick : Int → Int} {S_groupMinedSet : Int → Int} {S_groupSafeSet : Int → Int} {O_sums : Int → Int64} {O_nextSums : Int → Int64} {R_found : Int → Int} {R_openEnds : Int → Int} {R_need : Int → Int} {R_waiting : Int → Int} {R_waits : Int → Int} {R_common : Int → Int} {R_met : Int → Int} {A_number : Int → Int} {Q_mined : Int → Int64} {Q_all : Int → Int64} {Q_choices : Int → Int64} {Q_term : Int → Int64} {Q_divisor : Int → Int64} {Q_spare : Int → Int64} {X_limbs : Int → Int64} {X_sum : Int → Int64} {Y_limbs : Int → Int64} {Y_sum : Int → Int64} (x1 : Int64)  (post : (Int → Int64) → Prop) (h : P_J7_fill_d0a16_53 post Q_all x1) : mV l yJ7_fill_d0a16 (Cond.code yJ7_fill_d0a16 cJ7_fill_d0a16 5 none :: GT) ({ frames := 2, cells := 0, slots := 0, locals := 120 } : Room) [.ref (ad 53), .long x1] K ad (dW D_hasBoard D_beganBlank F_mines F_moves F_changes G_width G_height G_size B_parts B_longest S_groups S_askedGroup S_taken R_waitingCount R_metCount A_grade A_cell A_mined A_withTotal A_numbers X_low X_high Y_low Y_high F_mined F_number F_state F_cellsIn F_unknownNear F_hitNear F_moveStart F_changed F_waiting F_seen G_near G_nearEnd B_chosen B_partOf B_rest B_unknowns B_partStart B_cells S_minedSet S_safeSet S_partSet S_tally S_askedTally S_groupOf S_groupSize S_links S_linkEnd S_pick S_groupMinedSet S_groupSafeSet O_sums O_nextSums R_found R_openEnds R_need R_waiting R_waits R_common R_met A_number Q_mined Q_all Q_choices Q_term Q_divisor Q_spare X_limbs X_sum Y_limbs Y_sum) (fun u9 => ∃ Q_all9, u9 = (dW D_hasBoard D_beganBlank F_mines F_moves F_changes G_width G_height G_size B_parts B_longest S_groups S_askedGroup S_taken R_waitingCount R_metCount A_grade A_cell A_mined A_withTotal A_numbers X_low X_high Y_low Y_high F_mined F_number F_state F_cellsIn F_unknownNear F_hitNear F_moveStart F_changed F_waiting F_seen G_near G_nearEnd B_chosen B_partOf B_rest B_unknowns B_partStart B_cells S_minedSet S_safeSet S_partSet S_tally S_askedTally S_groupOf S_groupSize S_links S_linkEnd S_pick S_groupMinedSet S_groupSafeSet O_sums O_nextSums R_found R_openEnds R_need R_waiting R_waits R_common R_met A_number Q_mined Q_all9 Q_choices Q_term Q_divisor Q_spare X_limbs X_sum Y_limbs Y_sum) ∧ post Q_all9) := by
  refine mV_of (lv0 := [(0, .ref (ad 53)), (1, .long x1)]) (by decide) (Nat.le_of_ble_eq_true rfl) rfl ?_
  intro p e s m args below meth c Q A C ret
  replace C : Cx p ({ frames := 2, cells := 0, slots := 0, locals := 120 } : Room) m c 0 0 cJ7_fill_d0a16 5 s args RJ7 K A := C
  unfold P_J7_fill_d0a16_53 at h
  refine wa_iconst C (z := 0) dJ7_fill_d0a16_0 rfl ?_
  refine wa_istore_n C dJ7_fill_d0a16_1 rfl (by decide) rfl ?_
  refine wa_aload_n C 1 rfl dJ7_fill_d0a16_2 rfl ?_
  refine wa_alen C (z := 6) 53 dW_53 rfl dJ7_fill_d0a16_3 ?_
  refine wa_istore C dJ7_fill_d0a16_4 (by decide) rfl ?_
  obtain ⟨Inv_1, ⟨n_2, h0Inv_1⟩, hInv_1⟩ := h
  have k_5 : ∀ (n_3 : Nat) (x3_6 : Int) (Q_all_7 : Int → Int64), inR x3_6 → Inv_1 n_3 x3_6 Q_all_7 → WA p l e ({ frames := 2, cells := 0, slots := 0, locals := 120 } : Room) s m args below meth c 0 0 Q K ad 5 A 6 [(0, .ref (ad 53)), (1, .long x1), (3, .int (iI x3_6)), (4, .int (iI 6))] [] (dW D_hasBoard D_beganBlank F_mines F_moves F_changes G_width G_height G_size B_parts B_longest S_groups S_askedGroup S_taken R_waitingCount R_metCount A_grade A_cell A_mined A_withTotal A_numbers X_low X_high Y_low Y_high F_mined F_number F_state F_cellsIn F_unknownNear F_hitNear F_moveStart F_changed F_waiting F_seen G_near G_nearEnd B_chosen B_partOf B_rest B_unknowns B_partStart B_cells S_minedSet S_safeSet S_partSet S_tally S_askedTally S_groupOf S_groupSize S_links S_linkEnd S_pick S_groupMinedSet S_groupSafeSet O_sums O_nextSums R_found R_openEnds R_need R_waiting R_waits R_common R_met A_number Q_mined Q_all_7 Q_choices Q_term Q_divisor Q_spare X_limbs X_sum Y_limbs Y_sum) := by
    intro n_3
    induction n_3 using Nat.strongRecOn with
    | ind n_3 ih_4 =>
      intro x3_6 Q_all_7 rx3_6 h
      replace h := hInv_1 n_3 x3_6 Q_all_7 rx3_6 h
      refine wa_iload_n C 2 rfl dJ7_fill_d0a16_6 rfl ?_
      refine wa_iload C 3 rfl dJ7_fill_d0a16_7 ?_
      refine wa_icmp_ge C (tgt := 22) rx3_6 (inR_k 6 rfl) dJ7_fill_d0a16_9 (by decide) (fun c_8 => ?_) (fun c_8 => ?_)
      · replace h := h.1 c_8
        exact ret dJ7_fill_d0a16_22 ⟨_, rfl, h⟩
      · replace h := h.2 c_8
        refine wa_aload_n C 0 rfl dJ7_fill_d0a16_12 rfl ?_
        refine wa_iload_n C 2 rfl dJ7_fill_d0a16_13 rfl ?_
        refine wa_lload_n C 1 rfl dJ7_fill_d0a16_14 rfl ?_
        obtain ⟨t_9, h⟩ := h
        refine wa_last C (ws' := fun w9 => (dW D_hasBoard D_beganBlank F_mines F_moves F_changes G_width G_height G_size B_parts B_longest S_groups S_askedGroup S_taken R_waitingCount R_metCount A_grade A_cell A_mined A_withTotal A_numbers X_low X_high Y_low Y_high F_mined F_number F_state F_cellsIn F_unknownNear F_hitNear F_moveStart F_changed F_waiting F_seen G_near G_nearEnd B_chosen B_partOf B_rest B_unknowns B_partStart B_cells S_minedSet S_safeSet S_partSet S_tally S_askedTally S_groupOf S_groupSize S_links S_linkEnd S_pick S_groupMinedSet S_groupSafeSet O_sums O_nextSums R_found R_openEnds R_need R_waiting R_waits R_common R_met A_number Q_mined w9 Q_choices Q_term Q_divisor Q_spare X_limbs X_sum Y_limbs Y_sum)) 53 dW_53 dJ7_fill_d0a16_15 t_9.1 t_9.2 dWs_53 (fun Q_all_10 eQ_all_10 => ?_)
        replace h := h Q_all_10 eQ_all_10
        obtain ⟨r_11, h⟩ := h
        refine wa_iinc C (lv' := fun w9 => [(3, .int (iI w9)), (0, .ref (ad 53)), (1, .long x1), (4, .int (iI 6))]) 2 rfl dJ7_fill_d0a16_16 (by decide) (fun _ => rfl) (fun x3_12 ex3_12 => ?_)
        replace h := h x3_12 ex3_12
        have rx3_12 : inR x3_12 := by rw [ex3_12]; exact r_11
        refine wa_goto C (tgt := 6) dJ7_fill_d0a16_19 (by decide) ?_
        obtain ⟨n_13, ln_13, h⟩ := h
        refine wa_sub C [1, 2, 0, 3] rfl ?_
        exact ih_4 n_13 ln_13 x3_12 Q_all_10 rx3_12 h
  refine wa_sub C [2, 3, 1, 0] rfl ?_
  exact k_5 n_2 0 Q_all (inR_k 0 rfl) h0Inv_1
def P_J7_fill_d0a16_59 (post : (Int → Int64) → Prop) (X_sum : Int → Int64) (x1 : Int64) : Prop :=
  ∃ Inv_1 : Nat → (Int) → (Int → Int64) → Prop, (∃ n_2 : Nat, Inv_1 n_2 0 X_sum) ∧ ∀ (n_3 : Nat) (x3_6 : Int) (X_sum_7 : Int → Int64), inR x3_6 → Inv_1 n_3 x3_6 X_sum_7 → ((6 ≤ x3_6 → (post X_sum_7)) ∧ (¬ 6 ≤ x3_6 → ((0 ≤ x3_6 ∧ x3_6 < 6) ∧ (∀ X_sum_10 : Int → Int64, X_sum_10 = upZ X_sum_7 x3_6 x1 → (inR (x3_6 + 1) ∧ (∀ x3_12 : Int, x3_12 = (x3_6 + 1) → (∃ n_13 : Nat, n_13 < n_3 ∧ Inv_1 n_13 x3_12 X_sum_10)))))))
set_option maxRecDepth 100000 in
set_option maxHeartbeats 4000000 in
theorem c_J7_fill_d0a16_59 (l : Launch) (K : wK) (ad : Nat → Nat) {D_hasBoard : Int} {D_beganBlank : Int} {F_mines : Int} {F_moves : Int} {F_changes : Int} {G_width : Int} {G_height : Int} {G_size : Int} {B_parts : Int} {B_longest : Int} {S_groups : Int} {S_askedGroup : Int} {S_taken : Int} {R_waitingCount : Int} {R_metCount : Int} {A_grade : Int} {A_cell : Int} {A_mined : Int} {A_withTotal : Int} {A_numbers : Int} {X_low : Int} {X_high : Int} {Y_low : Int} {Y_high : Int} {F_mined : Int → Int} {F_number : Int → Int} {F_state : Int → Int} {F_cellsIn : Int → Int} {F_unknownNear : Int → Int} {F_hitNear : Int → Int} {F_moveStart : Int → Int} {F_changed : Int → Int} {F_waiting : Int → Int} {F_seen : Int → Int} {G_near : Int → Int} {G_nearEnd : Int → Int} {B_chosen : Int → Int} {B_partOf : Int → Int} {B_rest : Int → Int} {B_unknowns : Int → Int} {B_partStart : Int → Int} {B_cells : Int → Int} {S_minedSet : Int → Int} {S_safeSet : Int → Int} {S_partSet : Int → Int} {S_tally : Int → Int} {S_askedTally : Int → Int} {S_groupOf : Int → Int} {S_groupSize : Int → Int} {S_links : Int → Int} {S_linkEnd : Int → Int} {S_pick : Int → Int} {S_groupMinedSet : Int → Int} {S_groupSafeSet : Int → Int} {O_sums : Int → Int64} {O_nextSums : Int → Int64} {R_found : Int → Int} {R_openEnds : Int → Int} {R_need : Int → Int} {R_waiting : Int → Int} {R_waits : Int → Int} {R_common : Int → Int} {R_met : Int → Int} {A_number : Int → Int} {Q_mined : Int → Int64} {Q_all : Int → Int64} {Q_choices : Int → Int64} {Q_term : Int → Int64} {Q_divisor : Int → Int64} {Q_spare : Int → Int64} {X_limbs : Int → Int64} {X_sum : Int → Int64} {Y_limbs : Int → Int64} {Y_sum : Int → Int64} (x1 : Int64)  (post : (Int → Int64) → Prop) (h : P_J7_fill_d0a16_59 post X_sum x1) : mV l yJ7_fill_d0a16 (Cond.code yJ7_fill_d0a16 cJ7_fill_d0a16 5 none :: GT) ({ frames := 2, cells := 0, slots := 0, locals := 120 } : Room) [.ref (ad 59), .long x1] K ad (dW D_hasBoard D_beganBlank F_mines F_moves F_changes G_width G_height G_size B_parts B_longest S_groups S_askedGroup S_taken R_waitingCount R_metCount A_grade A_cell A_mined A_withTotal A_numbers X_low X_high Y_low Y_high F_mined F_number F_state F_cellsIn F_unknownNear F_hitNear F_moveStart F_changed F_waiting F_seen G_near G_nearEnd B_chosen B_partOf B_rest B_unknowns B_partStart B_cells S_minedSet S_safeSet S_partSet S_tally S_askedTally S_groupOf S_groupSize S_links S_linkEnd S_pick S_groupMinedSet S_groupSafeSet O_sums O_nextSums R_found R_openEnds R_need R_waiting R_waits R_common R_met A_number Q_mined Q_all Q_choices Q_term Q_divisor Q_spare X_limbs X_sum Y_limbs Y_sum) (fun u9 => ∃ X_sum9, u9 = (dW D_hasBoard D_beganBlank F_mines F_moves F_changes G_width G_height G_size B_parts B_longest S_groups S_askedGroup S_taken R_waitingCount R_metCount A_grade A_cell A_mined A_withTotal A_numbers X_low X_high Y_low Y_high F_mined F_number F_state F_cellsIn F_unknownNear F_hitNear F_moveStart F_changed F_waiting F_seen G_near G_nearEnd B_chosen B_partOf B_rest B_unknowns B_partStart B_cells S_minedSet S_safeSet S_partSet S_tally S_askedTally S_groupOf S_groupSize S_links S_linkEnd S_pick S_groupMinedSet S_groupSafeSet O_sums O_nextSums R_found R_openEnds R_need R_waiting R_waits R_common R_met A_number Q_mined Q_all Q_choices Q_term Q_divisor Q_spare X_limbs X_sum9 Y_limbs Y_sum) ∧ post X_sum9) := by
  refine mV_of (lv0 := [(0, .ref (ad 59)), (1, .long x1)]) (by decide) (Nat.le_of_ble_eq_true rfl) rfl ?_
  intro p e s m args below meth c Q A C ret
  replace C : Cx p ({ frames := 2, cells := 0, slots := 0, locals := 120 } : Room) m c 0 0 cJ7_fill_d0a16 5 s args RJ7 K A := C
  unfold P_J7_fill_d0a16_59 at h
  refine wa_iconst C (z := 0) dJ7_fill_d0a16_0 rfl ?_
  refine wa_istore_n C dJ7_fill_d0a16_1 rfl (by decide) rfl ?_
  refine wa_aload_n C 1 rfl dJ7_fill_d0a16_2 rfl ?_
  refine wa_alen C (z := 6) 59 dW_59 rfl dJ7_fill_d0a16_3 ?_
  refine wa_istore C dJ7_fill_d0a16_4 (by decide) rfl ?_
  obtain ⟨Inv_1, ⟨n_2, h0Inv_1⟩, hInv_1⟩ := h
  have k_5 : ∀ (n_3 : Nat) (x3_6 : Int) (X_sum_7 : Int → Int64), inR x3_6 → Inv_1 n_3 x3_6 X_sum_7 → WA p l e ({ frames := 2, cells := 0, slots := 0, locals := 120 } : Room) s m args below meth c 0 0 Q K ad 5 A 6 [(0, .ref (ad 59)), (1, .long x1), (3, .int (iI x3_6)), (4, .int (iI 6))] [] (dW D_hasBoard D_beganBlank F_mines F_moves F_changes G_width G_height G_size B_parts B_longest S_groups S_askedGroup S_taken R_waitingCount R_metCount A_grade A_cell A_mined A_withTotal A_numbers X_low X_high Y_low Y_high F_mined F_number F_state F_cellsIn F_unknownNear F_hitNear F_moveStart F_changed F_waiting F_seen G_near G_nearEnd B_chosen B_partOf B_rest B_unknowns B_partStart B_cells S_minedSet S_safeSet S_partSet S_tally S_askedTally S_groupOf S_groupSize S_links S_linkEnd S_pick S_groupMinedSet S_groupSafeSet O_sums O_nextSums R_found R_openEnds R_need R_waiting R_waits R_common R_met A_number Q_mined Q_all Q_choices Q_term Q_divisor Q_spare X_limbs X_sum_7 Y_limbs Y_sum) := by
    intro n_3
    induction n_3 using Nat.strongRecOn with
    | ind n_3 ih_4 =>
      intro x3_6 X_sum_7 rx3_6 h
      replace h := hInv_1 n_3 x3_6 X_sum_7 rx3_6 h
      refine wa_iload_n C 2 rfl dJ7_fill_d0a16_6 rfl ?_
      refine wa_iload C 3 rfl dJ7_fill_d0a16_7 ?_
      refine wa_icmp_ge C (tgt := 22) rx3_6 (inR_k 6 rfl) dJ7_fill_d0a16_9 (by decide) (fun c_8 => ?_) (fun c_8 => ?_)
      · replace h := h.1 c_8
        exact ret dJ7_fill_d0a16_22 ⟨_, rfl, h⟩
      · replace h := h.2 c_8
        refine wa_aload_n C 0 rfl dJ7_fill_d0a16_12 rfl ?_
        refine wa_iload_n C 2 rfl dJ7_fill_d0a16_13 rfl ?_
        refine wa_lload_n C 1 rfl dJ7_fill_d0a16_14 rfl ?_
        obtain ⟨t_9, h⟩ := h
        refine wa_last C (ws' := fun w9 => (dW D_hasBoard D_beganBlank F_mines F_moves F_changes G_width G_height G_size B_parts B_longest S_groups S_askedGroup S_taken R_waitingCount R_metCount A_grade A_cell A_mined A_withTotal A_numbers X_low X_high Y_low Y_high F_mined F_number F_state F_cellsIn F_unknownNear F_hitNear F_moveStart F_changed F_waiting F_seen G_near G_nearEnd B_chosen B_partOf B_rest B_unknowns B_partStart B_cells S_minedSet S_safeSet S_partSet S_tally S_askedTally S_groupOf S_groupSize S_links S_linkEnd S_pick S_groupMinedSet S_groupSafeSet O_sums O_nextSums R_found R_openEnds R_need R_waiting R_waits R_common R_met A_number Q_mined Q_all Q_choices Q_term Q_divisor Q_spare X_limbs w9 Y_limbs Y_sum)) 59 dW_59 dJ7_fill_d0a16_15 t_9.1 t_9.2 dWs_59 (fun X_sum_10 eX_sum_10 => ?_)
        replace h := h X_sum_10 eX_sum_10
        obtain ⟨r_11, h⟩ := h
        refine wa_iinc C (lv' := fun w9 => [(3, .int (iI w9)), (0, .ref (ad 59)), (1, .long x1), (4, .int (iI 6))]) 2 rfl dJ7_fill_d0a16_16 (by decide) (fun _ => rfl) (fun x3_12 ex3_12 => ?_)
        replace h := h x3_12 ex3_12
        have rx3_12 : inR x3_12 := by rw [ex3_12]; exact r_11
        refine wa_goto C (tgt := 6) dJ7_fill_d0a16_19 (by decide) ?_
        obtain ⟨n_13, ln_13, h⟩ := h
        refine wa_sub C [1, 2, 0, 3] rfl ?_
        exact ih_4 n_13 ln_13 x3_12 X_sum_10 rx3_12 h
  refine wa_sub C [2, 3, 1, 0] rfl ?_
  exact k_5 n_2 0 X_sum (inR_k 0 rfl) h0Inv_1
def P_X10_set_59 (post : (Int → Int64) → Prop) (X_sum : Int → Int64) (x1 : Int) : Prop :=
  P_J7_fill_d0a16_59 (fun (X_sum_1 : Int → Int64) => (∀ X_sum_2 : Int → Int64, X_sum_2 = upZ X_sum_1 0 (Int64.ofInt x1) → (post X_sum_2))) X_sum (0 : Int64)
set_option maxRecDepth 100000 in
set_option maxHeartbeats 4000000 in
theorem c_X10_set_59 (l : Launch) (K : wK) (ad : Nat → Nat) {D_hasBoard : Int} {D_beganBlank : Int} {F_mines : Int} {F_moves : Int} {F_changes : Int} {G_width : Int} {G_height : Int} {G_size : Int} {B_parts : Int} {B_longest : Int} {S_groups : Int} {S_askedGroup : Int} {S_taken : Int} {R_waitingCount : Int} {R_metCount : Int} {A_grade : Int} {A_cell : Int} {A_mined : Int} {A_withTotal : Int} {A_numbers : Int} {X_low : Int} {X_high : Int} {Y_low : Int} {Y_high : Int} {F_mined : Int → Int} {F_number : Int → Int} {F_state : Int → Int} {F_cellsIn : Int → Int} {F_unknownNear : Int → Int} {F_hitNear : Int → Int} {F_moveStart : Int → Int} {F_changed : Int → Int} {F_waiting : Int → Int} {F_seen : Int → Int} {G_near : Int → Int} {G_nearEnd : Int → Int} {B_chosen : Int → Int} {B_partOf : Int → Int} {B_rest : Int → Int} {B_unknowns : Int → Int} {B_partStart : Int → Int} {B_cells : Int → Int} {S_minedSet : Int → Int} {S_safeSet : Int → Int} {S_partSet : Int → Int} {S_tally : Int → Int} {S_askedTally : Int → Int} {S_groupOf : Int → Int} {S_groupSize : Int → Int} {S_links : Int → Int} {S_linkEnd : Int → Int} {S_pick : Int → Int} {S_groupMinedSet : Int → Int} {S_groupSafeSet : Int → Int} {O_sums : Int → Int64} {O_nextSums : Int → Int64} {R_found : Int → Int} {R_openEnds : Int → Int} {R_need : Int → Int} {R_waiting : Int → Int} {R_waits : Int → Int} {R_common : Int → Int} {R_met : Int → Int} {A_number : Int → Int} {Q_mined : Int → Int64} {Q_all : Int → Int64} {Q_choices : Int → Int64} {Q_term : Int → Int64} {Q_divisor : Int → Int64} {Q_spare : Int → Int64} {X_limbs : Int → Int64} {X_sum : Int → Int64} {Y_limbs : Int → Int64} {Y_sum : Int → Int64} (x1 : Int) (rx1 : inR x1) (post : (Int → Int64) → Prop) (h : P_X10_set_59 post X_sum x1) : mV l yX10_set (Cond.code yX10_set cX10_set 2 none :: GT) ({ frames := 3, cells := 0, slots := 0, locals := 180 } : Room) [.ref (ad 59), .int (iI x1)] K ad (dW D_hasBoard D_beganBlank F_mines F_moves F_changes G_width G_height G_size B_parts B_longest S_groups S_askedGroup S_taken R_waitingCount R_metCount A_grade A_cell A_mined A_withTotal A_numbers X_low X_high Y_low Y_high F_mined F_number F_state F_cellsIn F_unknownNear F_hitNear F_moveStart F_changed F_waiting F_seen G_near G_nearEnd B_chosen B_partOf B_rest B_unknowns B_partStart B_cells S_minedSet S_safeSet S_partSet S_tally S_askedTally S_groupOf S_groupSize S_links S_linkEnd S_pick S_groupMinedSet S_groupSafeSet O_sums O_nextSums R_found R_openEnds R_need R_waiting R_waits R_common R_met A_number Q_mined Q_all Q_choices Q_term Q_divisor Q_spare X_limbs X_sum Y_limbs Y_sum) (fun u9 => ∃ X_sum9, u9 = (dW D_hasBoard D_beganBlank F_mines F_moves F_changes G_width G_height G_size B_parts B_longest S_groups S_askedGroup S_taken R_waitingCount R_metCount A_grade A_cell A_mined A_withTotal A_numbers X_low X_high Y_low Y_high F_mined F_number F_state F_cellsIn F_unknownNear F_hitNear F_moveStart F_changed F_waiting F_seen G_near G_nearEnd B_chosen B_partOf B_rest B_unknowns B_partStart B_cells S_minedSet S_safeSet S_partSet S_tally S_askedTally S_groupOf S_groupSize S_links S_linkEnd S_pick S_groupMinedSet S_groupSafeSet O_sums O_nextSums R_found R_openEnds R_need R_waiting R_waits R_common R_met A_number Q_mined Q_all Q_choices Q_term Q_divisor Q_spare X_limbs X_sum9 Y_limbs Y_sum) ∧ post X_sum9) := by
  refine mV_of (lv0 := [(0, .ref (ad 59)), (1, .int (iI x1))]) (by decide) (Nat.le_of_ble_eq_true rfl) rfl ?_
  intro p e s m args below meth c Q A C ret
  replace C : Cx p ({ frames := 3, cells := 0, slots := 0, locals := 180 } : Room) m c 0 0 cX10_set 2 s args RX10 K A := C
  unfold P_X10_set_59 at h
  refine wa_aload_n C 0 rfl dX10_set_0 rfl ?_
  refine wa_lconst C (v := 0) dX10_set_1 rfl ?_
  refine wa_callSv C (As := [.ref (ad 59), .long (0 : Int64)]) (rest := []) (c_J7_fill_d0a16_59 l K ad (0 : Int64) _ h) gw_822 gw_1094 gw_821 gw_17 q_J7_fill_d0a16 rfl rfl rfl ⟨by decide, by decide⟩ rfl (Nat.le_of_ble_eq_true rfl) dX10_set_2 (fun u9 hp => ?_)
  obtain ⟨X_sum_1, rfl, h⟩ := hp
  refine wa_aload_n C 0 rfl dX10_set_5 rfl ?_
  refine wa_iconst C (z := 0) dX10_set_6 rfl ?_
  refine wa_iload_n C 1 rfl dX10_set_7 rfl ?_
  refine wa_i2l C rx1 dX10_set_8 ?_
  refine wa_last C (ws' := fun w9 => (dW D_hasBoard D_beganBlank F_mines F_moves F_changes G_width G_height G_size B_parts B_longest S_groups S_askedGroup S_taken R_waitingCount R_metCount A_grade A_cell A_mined A_withTotal A_numbers X_low X_high Y_low Y_high F_mined F_number F_state F_cellsIn F_unknownNear F_hitNear F_moveStart F_changed F_waiting F_seen G_near G_nearEnd B_chosen B_partOf B_rest B_unknowns B_partStart B_cells S_minedSet S_safeSet S_partSet S_tally S_askedTally S_groupOf S_groupSize S_links S_linkEnd S_pick S_groupMinedSet S_groupSafeSet O_sums O_nextSums R_found R_openEnds R_need R_waiting R_waits R_common R_met A_number Q_mined Q_all Q_choices Q_term Q_divisor Q_spare X_limbs w9 Y_limbs Y_sum)) 59 dW_59 dX10_set_9 (by decide) (by decide) dWs_59 (fun X_sum_2 eX_sum_2 => ?_)
  replace h := h X_sum_2 eX_sum_2
  exact ret dX10_set_10 ⟨_, rfl, h⟩
def P_X8_begin_9 (post : (Int) → (Int) → (Int → Int64) → (Int → Int64) → Prop) (X_low : Int) (X_high : Int) (X_limbs : Int → Int64) (X_sum : Int → Int64) : Prop :=
  P_X10_set_59 (fun (X_sum_1 : Int → Int64) => (((0 : Int) ≤ 0 ∧ (0 : Int) ≤ 0 ∧ (0 : Int) ≤ 6 ∧ (0 : Int) + 6 ≤ 6 ∧ (0 : Int) + 6 ≤ 870) ∧ (∀ X_limbs_3 : Int → Int64, X_limbs_3 = cpZ X_sum_1 X_limbs 0 0 6 → (post 0 0 X_limbs_3 X_sum_1)))) X_sum 1
set_option maxRecDepth 100000 in
set_option maxHeartbeats 4000000 in
theorem c_X8_begin_9 (l : Launch) (K : wK) (ad : Nat → Nat) {D_hasBoard : Int} {D_beganBlank : Int} {F_mines : Int} {F_moves : Int} {F_changes : Int} {G_width : Int} {G_height : Int} {G_size : Int} {B_parts : Int} {B_longest : Int} {S_groups : Int} {S_askedGroup : Int} {S_taken : Int} {R_waitingCount : Int} {R_metCount : Int} {A_grade : Int} {A_cell : Int} {A_mined : Int} {A_withTotal : Int} {A_numbers : Int} {X_low : Int} {X_high : Int} {Y_low : Int} {Y_high : Int} {F_mined : Int → Int} {F_number : Int → Int} {F_state : Int → Int} {F_cellsIn : Int → Int} {F_unknownNear : Int → Int} {F_hitNear : Int → Int} {F_moveStart : Int → Int} {F_changed : Int → Int} {F_waiting : Int → Int} {F_seen : Int → Int} {G_near : Int → Int} {G_nearEnd : Int → Int} {B_chosen : Int → Int} {B_partOf : Int → Int} {B_rest : Int → Int} {B_unknowns : Int → Int} {B_partStart : Int → Int} {B_cells : Int → Int} {S_minedSet : Int → Int} {S_safeSet : Int → Int} {S_partSet : Int → Int} {S_tally : Int → Int} {S_askedTally : Int → Int} {S_groupOf : Int → Int} {S_groupSize : Int → Int} {S_links : Int → Int} {S_linkEnd : Int → Int} {S_pick : Int → Int} {S_groupMinedSet : Int → Int} {S_groupSafeSet : Int → Int} {O_sums : Int → Int64} {O_nextSums : Int → Int64} {R_found : Int → Int} {R_openEnds : Int → Int} {R_need : Int → Int} {R_waiting : Int → Int} {R_waits : Int → Int} {R_common : Int → Int} {R_met : Int → Int} {A_number : Int → Int} {Q_mined : Int → Int64} {Q_all : Int → Int64} {Q_choices : Int → Int64} {Q_term : Int → Int64} {Q_divisor : Int → Int64} {Q_spare : Int → Int64} {X_limbs : Int → Int64} {X_sum : Int → Int64} {Y_limbs : Int → Int64} {Y_sum : Int → Int64}   (post : (Int) → (Int) → (Int → Int64) → (Int → Int64) → Prop) (h : P_X8_begin_9 post X_low X_high X_limbs X_sum) : mV l yX8_begin (Cond.code yX8_begin cX8_begin 1 none :: GT) ({ frames := 4, cells := 0, slots := 0, locals := 240 } : Room) [.ref (ad 9)] K ad (dW D_hasBoard D_beganBlank F_mines F_moves F_changes G_width G_height G_size B_parts B_longest S_groups S_askedGroup S_taken R_waitingCount R_metCount A_grade A_cell A_mined A_withTotal A_numbers X_low X_high Y_low Y_high F_mined F_number F_state F_cellsIn F_unknownNear F_hitNear F_moveStart F_changed F_waiting F_seen G_near G_nearEnd B_chosen B_partOf B_rest B_unknowns B_partStart B_cells S_minedSet S_safeSet S_partSet S_tally S_askedTally S_groupOf S_groupSize S_links S_linkEnd S_pick S_groupMinedSet S_groupSafeSet O_sums O_nextSums R_found R_openEnds R_need R_waiting R_waits R_common R_met A_number Q_mined Q_all Q_choices Q_term Q_divisor Q_spare X_limbs X_sum Y_limbs Y_sum) (fun u9 => ∃ X_low9 X_high9 X_limbs9 X_sum9, u9 = (dW D_hasBoard D_beganBlank F_mines F_moves F_changes G_width G_height G_size B_parts B_longest S_groups S_askedGroup S_taken R_waitingCount R_metCount A_grade A_cell A_mined A_withTotal A_numbers X_low9 X_high9 Y_low Y_high F_mined F_number F_state F_cellsIn F_unknownNear F_hitNear F_moveStart F_changed F_waiting F_seen G_near G_nearEnd B_chosen B_partOf B_rest B_unknowns B_partStart B_cells S_minedSet S_safeSet S_partSet S_tally S_askedTally S_groupOf S_groupSize S_links S_linkEnd S_pick S_groupMinedSet S_groupSafeSet O_sums O_nextSums R_found R_openEnds R_need R_waiting R_waits R_common R_met A_number Q_mined Q_all Q_choices Q_term Q_divisor Q_spare X_limbs9 X_sum9 Y_limbs Y_sum) ∧ post X_low9 X_high9 X_limbs9 X_sum9) := by
  refine mV_of (lv0 := [(0, .ref (ad 9))]) (by decide) (Nat.le_of_ble_eq_true rfl) rfl ?_
  intro p e s m args below meth c Q A C ret
  replace C : Cx p ({ frames := 4, cells := 0, slots := 0, locals := 240 } : Room) m c 0 0 cX8_begin 1 s args RX8 K A := C
  unfold P_X8_begin_9 at h
  refine wa_aload_n C 0 rfl dX8_begin_0 rfl ?_
  refine wa_iconst C (z := 0) dX8_begin_1 rfl ?_
  refine wa_putI C (ws' := (dW D_hasBoard D_beganBlank F_mines F_moves F_changes G_width G_height G_size B_parts B_longest S_groups S_askedGroup S_taken R_waitingCount R_metCount A_grade A_cell A_mined A_withTotal A_numbers 0 X_high Y_low Y_high F_mined F_number F_state F_cellsIn F_unknownNear F_hitNear F_moveStart F_changed F_waiting F_seen G_near G_nearEnd B_chosen B_partOf B_rest B_unknowns B_partStart B_cells S_minedSet S_safeSet S_partSet S_tally S_askedTally S_groupOf S_groupSize S_links S_linkEnd S_pick S_groupMinedSet S_groupSafeSet O_sums O_nextSums R_found R_openEnds R_need R_waiting R_waits R_common R_met A_number Q_mined Q_all Q_choices Q_term Q_divisor Q_spare X_limbs X_sum Y_limbs Y_sum)) 9 1 dW_9 rfl (by decide) okX8 gw_392 rfl rfl (Nat.le_of_ble_eq_true rfl) (inR_k 0 rfl) (dWp_9_1 _) dX8_begin_2 ?_
  refine wa_aload_n C 0 rfl dX8_begin_5 rfl ?_
  refine wa_iconst C (z := 0) dX8_begin_6 rfl ?_
  refine wa_putI C (ws' := (dW D_hasBoard D_beganBlank F_mines F_moves F_changes G_width G_height G_size B_parts B_longest S_groups S_askedGroup S_taken R_waitingCount R_metCount A_grade A_cell A_mined A_withTotal A_numbers 0 0 Y_low Y_high F_mined F_number F_state F_cellsIn F_unknownNear F_hitNear F_moveStart F_changed F_waiting F_seen G_near G_nearEnd B_chosen B_partOf B_rest B_unknowns B_partStart B_cells S_minedSet S_safeSet S_partSet S_tally S_askedTally S_groupOf S_groupSize S_links S_linkEnd S_pick S_groupMinedSet S_groupSafeSet O_sums O_nextSums R_found R_openEnds R_need R_waiting R_waits R_common R_met A_number Q_mined Q_all Q_choices Q_term Q_divisor Q_spare X_limbs X_sum Y_limbs Y_sum)) 9 2 dW_9 rfl (by decide) okX8 gw_394 rfl rfl (Nat.le_of_ble_eq_true rfl) (inR_k 0 rfl) (dWp_9_2 _) dX8_begin_7 ?_
  refine wa_aload_n C 0 rfl dX8_begin_10 rfl ?_
  refine wa_getR C 9 3 dW_9 rfl rfl (by decide) okX8 gw_396 dX8_begin_11 ?_
  refine wa_iconst C (z := 1) dX8_begin_14 rfl ?_
  refine wa_callSv C (As := [.ref (ad 59), .int (iI 1)]) (rest := []) (c_X10_set_59 l K ad 1 (inR_k 1 rfl) _ h) gw_1093 gw_1091 gw_1092 gw_23 q_X10_set rfl rfl rfl ⟨by decide, by decide⟩ rfl (Nat.le_of_ble_eq_true rfl) dX8_begin_15 (fun u9 hp => ?_)
  obtain ⟨X_sum_1, rfl, h⟩ := hp
  refine wa_aload_n C 0 rfl dX8_begin_18 rfl ?_
  refine wa_getR C 9 3 dW_9 rfl rfl (by decide) okX8 gw_396 dX8_begin_19 ?_
  refine wa_iconst C (z := 0) dX8_begin_22 rfl ?_
  refine wa_aload_n C 0 rfl dX8_begin_23 rfl ?_
  refine wa_getR C 9 0 dW_9 rfl rfl (by decide) okX8 gw_390 dX8_begin_24 ?_
  refine wa_iconst C (z := 0) dX8_begin_27 rfl ?_
  refine wa_bipush C (z := 6) dX8_begin_28 (by decide) ?_
  obtain ⟨t_2, h⟩ := h
  refine wa_copyl C (ws' := fun w9 => (dW D_hasBoard D_beganBlank F_mines F_moves F_changes G_width G_height G_size B_parts B_longest S_groups S_askedGroup S_taken R_waitingCount R_metCount A_grade A_cell A_mined A_withTotal A_numbers 0 0 Y_low Y_high F_mined F_number F_state F_cellsIn F_unknownNear F_hitNear F_moveStart F_changed F_waiting F_seen G_near G_nearEnd B_chosen B_partOf B_rest B_unknowns B_partStart B_cells S_minedSet S_safeSet S_partSet S_tally S_askedTally S_groupOf S_groupSize S_links S_linkEnd S_pick S_groupMinedSet S_groupSafeSet O_sums O_nextSums R_found R_openEnds R_need R_waiting R_waits R_common R_met A_number Q_mined Q_all Q_choices Q_term Q_divisor Q_spare w9 X_sum_1 Y_limbs Y_sum)) 59 58 dW_59 dW_58 (by decide) gw_1095 (inR_k 0 rfl) (inR_k 0 rfl) (inR_k 6 rfl) t_2 (by decide) (by decide) dX8_begin_30 dWs_58 (fun X_limbs_3 eX_limbs_3 => ?_)
  replace h := h X_limbs_3 eX_limbs_3
  exact ret dX8_begin_33 ⟨_, _, _, _, rfl, h⟩
def P_X8_copy_10_9 (post : (Int) → (Int) → (Int → Int64) → Prop) (X_low : Int) (X_high : Int) (Y_low : Int) (Y_high : Int) (X_limbs : Int → Int64) (Y_limbs : Int → Int64) : Prop :=
  inR (X_low * 6) ∧ (∀ x2_5 : Int, x2_5 = (X_low * 6) → (∃ Inv_6 : Nat → (Int) → (Int → Int64) → Prop, (∃ n_7 : Nat, Inv_6 n_7 x2_5 Y_limbs) ∧ ∀ (n_8 : Nat) (x2_11 : Int) (Y_limbs_12 : Int → Int64), inR x2_11 → Inv_6 n_8 x2_11 Y_limbs_12 → (inR ((X_high + 1) * 6) ∧ ((((X_high + 1) * 6) ≤ x2_11 → (post X_low X_high Y_limbs_12)) ∧ (¬ ((X_high + 1) * 6) ≤ x2_11 → ((0 ≤ x2_11 ∧ x2_11 < 870) ∧ (∀ v_17 : Int64, v_17 = X_limbs x2_11 → ((0 ≤ x2_11 ∧ x2_11 < 870) ∧ (∀ Y_limbs_19 : Int → Int64, Y_limbs_19 = upZ Y_limbs_12 x2_11 v_17 → (inR (x2_11 + 1) ∧ (∀ x2_21 : Int, x2_21 = (x2_11 + 1) → (∃ n_22 : Nat, n_22 < n_8 ∧ Inv_6 n_22 x2_21 Y_limbs_19))))))))))))
set_option maxRecDepth 100000 in
set_option maxHeartbeats 4000000 in
theorem c_X8_copy_10_9 (l : Launch) (K : wK) (ad : Nat → Nat) {D_hasBoard : Int} {D_beganBlank : Int} {F_mines : Int} {F_moves : Int} {F_changes : Int} {G_width : Int} {G_height : Int} {G_size : Int} {B_parts : Int} {B_longest : Int} {S_groups : Int} {S_askedGroup : Int} {S_taken : Int} {R_waitingCount : Int} {R_metCount : Int} {A_grade : Int} {A_cell : Int} {A_mined : Int} {A_withTotal : Int} {A_numbers : Int} {X_low : Int} {X_high : Int} {Y_low : Int} {Y_high : Int} {F_mined : Int → Int} {F_number : Int → Int} {F_state : Int → Int} {F_cellsIn : Int → Int} {F_unknownNear : Int → Int} {F_hitNear : Int → Int} {F_moveStart : Int → Int} {F_changed : Int → Int} {F_waiting : Int → Int} {F_seen : Int → Int} {G_near : Int → Int} {G_nearEnd : Int → Int} {B_chosen : Int → Int} {B_partOf : Int → Int} {B_rest : Int → Int} {B_unknowns : Int → Int} {B_partStart : Int → Int} {B_cells : Int → Int} {S_minedSet : Int → Int} {S_safeSet : Int → Int} {S_partSet : Int → Int} {S_tally : Int → Int} {S_askedTally : Int → Int} {S_groupOf : Int → Int} {S_groupSize : Int → Int} {S_links : Int → Int} {S_linkEnd : Int → Int} {S_pick : Int → Int} {S_groupMinedSet : Int → Int} {S_groupSafeSet : Int → Int} {O_sums : Int → Int64} {O_nextSums : Int → Int64} {R_found : Int → Int} {R_openEnds : Int → Int} {R_need : Int → Int} {R_waiting : Int → Int} {R_waits : Int → Int} {R_common : Int → Int} {R_met : Int → Int} {A_number : Int → Int} {Q_mined : Int → Int64} {Q_all : Int → Int64} {Q_choices : Int → Int64} {Q_term : Int → Int64} {Q_divisor : Int → Int64} {Q_spare : Int → Int64} {X_limbs : Int → Int64} {X_sum : Int → Int64} {Y_limbs : Int → Int64} {Y_sum : Int → Int64}   (post : (Int) → (Int) → (Int → Int64) → Prop) (h : P_X8_copy_10_9 post X_low X_high Y_low Y_high X_limbs Y_limbs) : mV l yX8_copy (Cond.code yX8_copy cX8_copy 3 none :: GT) ({ frames := 2, cells := 0, slots := 0, locals := 120 } : Room) [.ref (ad 10), .ref (ad 9)] K ad (dW D_hasBoard D_beganBlank F_mines F_moves F_changes G_width G_height G_size B_parts B_longest S_groups S_askedGroup S_taken R_waitingCount R_metCount A_grade A_cell A_mined A_withTotal A_numbers X_low X_high Y_low Y_high F_mined F_number F_state F_cellsIn F_unknownNear F_hitNear F_moveStart F_changed F_waiting F_seen G_near G_nearEnd B_chosen B_partOf B_rest B_unknowns B_partStart B_cells S_minedSet S_safeSet S_partSet S_tally S_askedTally S_groupOf S_groupSize S_links S_linkEnd S_pick S_groupMinedSet S_groupSafeSet O_sums O_nextSums R_found R_openEnds R_need R_waiting R_waits R_common R_met A_number Q_mined Q_all Q_choices Q_term Q_divisor Q_spare X_limbs X_sum Y_limbs Y_sum) (fun u9 => ∃ Y_low9 Y_high9 Y_limbs9, u9 = (dW D_hasBoard D_beganBlank F_mines F_moves F_changes G_width G_height G_size B_parts B_longest S_groups S_askedGroup S_taken R_waitingCount R_metCount A_grade A_cell A_mined A_withTotal A_numbers X_low X_high Y_low9 Y_high9 F_mined F_number F_state F_cellsIn F_unknownNear F_hitNear F_moveStart F_changed F_waiting F_seen G_near G_nearEnd B_chosen B_partOf B_rest B_unknowns B_partStart B_cells S_minedSet S_safeSet S_partSet S_tally S_askedTally S_groupOf S_groupSize S_links S_linkEnd S_pick S_groupMinedSet S_groupSafeSet O_sums O_nextSums R_found R_openEnds R_need R_waiting R_waits R_common R_met A_number Q_mined Q_all Q_choices Q_term Q_divisor Q_spare X_limbs X_sum Y_limbs9 Y_sum) ∧ post Y_low9 Y_high9 Y_limbs9) := by
  refine mV_of (lv0 := [(0, .ref (ad 10)), (1, .ref (ad 9))]) (by decide) (Nat.le_of_ble_eq_true rfl) rfl ?_
  intro p e s m args below meth c Q A C ret
  replace C : Cx p ({ frames := 2, cells := 0, slots := 0, locals := 120 } : Room) m c 0 0 cX8_copy 3 s args RX8 K A := C
  unfold P_X8_copy_10_9 at h
  refine wa_aload_n C 0 rfl dX8_copy_0 rfl ?_
  refine wa_aload_n C 1 rfl dX8_copy_1 rfl ?_
  refine wa_getI C 9 1 dW_9 rfl rfl (by decide) okX8 gw_392 dX8_copy_2 (fun r_1 => ?_)
  refine wa_putI C (ws' := (dW D_hasBoard D_beganBlank F_mines F_moves F_changes G_width G_height G_size B_parts B_longest S_groups S_askedGroup S_taken R_waitingCount R_metCount A_grade A_cell A_mined A_withTotal A_numbers X_low X_high X_low Y_high F_mined F_number F_state F_cellsIn F_unknownNear F_hitNear F_moveStart F_changed F_waiting F_seen G_near G_nearEnd B_chosen B_partOf B_rest B_unknowns B_partStart B_cells S_minedSet S_safeSet S_partSet S_tally S_askedTally S_groupOf S_groupSize S_links S_linkEnd S_pick S_groupMinedSet S_groupSafeSet O_sums O_nextSums R_found R_openEnds R_need R_waiting R_waits R_common R_met A_number Q_mined Q_all Q_choices Q_term Q_divisor Q_spare X_limbs X_sum Y_limbs Y_sum)) 10 1 dW_10 rfl (by decide) okX8 gw_392 rfl rfl (Nat.le_of_ble_eq_true rfl) r_1 (dWp_10_1 _) dX8_copy_5 ?_
  refine wa_aload_n C 0 rfl dX8_copy_8 rfl ?_
  refine wa_aload_n C 1 rfl dX8_copy_9 rfl ?_
  refine wa_getI C 9 2 dW_9 rfl rfl (by decide) okX8 gw_394 dX8_copy_10 (fun r_2 => ?_)
  refine wa_putI C (ws' := (dW D_hasBoard D_beganBlank F_mines F_moves F_changes G_width G_height G_size B_parts B_longest S_groups S_askedGroup S_taken R_waitingCount R_metCount A_grade A_cell A_mined A_withTotal A_numbers X_low X_high X_low X_high F_mined F_number F_state F_cellsIn F_unknownNear F_hitNear F_moveStart F_changed F_waiting F_seen G_near G_nearEnd B_chosen B_partOf B_rest B_unknowns B_partStart B_cells S_minedSet S_safeSet S_partSet S_tally S_askedTally S_groupOf S_groupSize S_links S_linkEnd S_pick S_groupMinedSet S_groupSafeSet O_sums O_nextSums R_found R_openEnds R_need R_waiting R_waits R_common R_met A_number Q_mined Q_all Q_choices Q_term Q_divisor Q_spare X_limbs X_sum Y_limbs Y_sum)) 10 2 dW_10 rfl (by decide) okX8 gw_394 rfl rfl (Nat.le_of_ble_eq_true rfl) r_2 (dWp_10_2 _) dX8_copy_13 ?_
  refine wa_aload_n C 0 rfl dX8_copy_16 rfl ?_
  refine wa_getI C 10 1 dW_10 rfl rfl (by decide) okX8 gw_392 dX8_copy_17 (fun r_3 => ?_)
  refine wa_bipush C (z := 6) dX8_copy_20 (by decide) ?_
  refine wa_imul C dX8_copy_22 ?_
  obtain ⟨r_4, h⟩ := h
  refine wa_nmi (fun x2_5 ex2_5 => ?_)
  replace h := h x2_5 ex2_5
  have rx2_5 : inR x2_5 := by rw [ex2_5]; exact r_4
  refine wa_istore_n C dX8_copy_23 rfl (by decide) rfl ?_
  obtain ⟨Inv_6, ⟨n_7, h0Inv_6⟩, hInv_6⟩ := h
  have k_10 : ∀ (n_8 : Nat) (x2_11 : Int) (Y_limbs_12 : Int → Int64), inR x2_11 → Inv_6 n_8 x2_11 Y_limbs_12 → WA p l e ({ frames := 2, cells := 0, slots := 0, locals := 120 } : Room) s m args below meth c 0 0 Q K ad 3 A 24 [(0, .ref (ad 10)), (1, .ref (ad 9)), (2, .int (iI x2_11))] [] (dW D_hasBoard D_beganBlank F_mines F_moves F_changes G_width G_height G_size B_parts B_longest S_groups S_askedGroup S_taken R_waitingCount R_metCount A_grade A_cell A_mined A_withTotal A_numbers X_low X_high X_low X_high F_mined F_number F_state F_cellsIn F_unknownNear F_hitNear F_moveStart F_changed F_waiting F_seen G_near G_nearEnd B_chosen B_partOf B_rest B_unknowns B_partStart B_cells S_minedSet S_safeSet S_partSet S_tally S_askedTally S_groupOf S_groupSize S_links S_linkEnd S_pick S_groupMinedSet S_groupSafeSet O_sums O_nextSums R_found R_openEnds R_need R_waiting R_waits R_common R_met A_number Q_mined Q_all Q_choices Q_term Q_divisor Q_spare X_limbs X_sum Y_limbs_12 Y_sum) := by
    intro n_8
    induction n_8 using Nat.strongRecOn with
    | ind n_8 ih_9 =>
      intro x2_11 Y_limbs_12 rx2_11 h
      replace h := hInv_6 n_8 x2_11 Y_limbs_12 rx2_11 h
      refine wa_iload_n C 2 rfl dX8_copy_24 rfl ?_
      refine wa_aload_n C 0 rfl dX8_copy_25 rfl ?_
      refine wa_getI C 10 2 dW_10 rfl rfl (by decide) okX8 gw_394 dX8_copy_26 (fun r_13 => ?_)
      refine wa_iconst C (z := 1) dX8_copy_29 rfl ?_
      refine wa_iadd C dX8_copy_30 ?_
      refine wa_bipush C (z := 6) dX8_copy_31 (by decide) ?_
      refine wa_imul C dX8_copy_33 ?_
      obtain ⟨r_14, h⟩ := h
      refine wa_icmp_ge C (tgt := 55) rx2_11 r_14 dX8_copy_34 (by decide) (fun c_15 => ?_) (fun c_15 => ?_)
      · replace h := h.1 c_15
        exact ret dX8_copy_55 ⟨_, _, _, rfl, h⟩
      · replace h := h.2 c_15
        refine wa_aload_n C 0 rfl dX8_copy_37 rfl ?_
        refine wa_getR C 10 0 dW_10 rfl rfl (by decide) okX8 gw_390 dX8_copy_38 ?_
        refine wa_iload_n C 2 rfl dX8_copy_41 rfl ?_
        refine wa_aload_n C 1 rfl dX8_copy_42 rfl ?_
        refine wa_getR C 9 0 dW_9 rfl rfl (by decide) okX8 gw_390 dX8_copy_43 ?_
        refine wa_iload_n C 2 rfl dX8_copy_46 rfl ?_
        obtain ⟨t_16, h⟩ := h
        refine wa_lald C 58 dW_58 dX8_copy_47 t_16.1 t_16.2 (fun v_17 ev_17 => ?_)
        replace h := h v_17 ev_17
        obtain ⟨t_18, h⟩ := h
        refine wa_last C (ws' := fun w9 => (dW D_hasBoard D_beganBlank F_mines F_moves F_changes G_width G_height G_size B_parts B_longest S_groups S_askedGroup S_taken R_waitingCount R_metCount A_grade A_cell A_mined A_withTotal A_numbers X_low X_high X_low X_high F_mined F_number F_state F_cellsIn F_unknownNear F_hitNear F_moveStart F_changed F_waiting F_seen G_near G_nearEnd B_chosen B_partOf B_rest B_unknowns B_partStart B_cells S_minedSet S_safeSet S_partSet S_tally S_askedTally S_groupOf S_groupSize S_links S_linkEnd S_pick S_groupMinedSet S_groupSafeSet O_sums O_nextSums R_found R_openEnds R_need R_waiting R_waits R_common R_met A_number Q_mined Q_all Q_choices Q_term Q_divisor Q_spare X_limbs X_sum w9 Y_sum)) 60 dW_60 dX8_copy_48 t_18.1 t_18.2 dWs_60 (fun Y_limbs_19 eY_limbs_19 => ?_)
        replace h := h Y_limbs_19 eY_limbs_19
        obtain ⟨r_20, h⟩ := h
        refine wa_iinc C (lv' := fun w9 => [(2, .int (iI w9)), (0, .ref (ad 10)), (1, .ref (ad 9))]) 2 rfl dX8_copy_49 (by decide) (fun _ => rfl) (fun x2_21 ex2_21 => ?_)
        replace h := h x2_21 ex2_21
        have rx2_21 : inR x2_21 := by rw [ex2_21]; exact r_20
        refine wa_goto C (tgt := 24) dX8_copy_52 (by decide) ?_
        obtain ⟨n_22, ln_22, h⟩ := h
        refine wa_sub C [1, 2, 0] rfl ?_
        exact ih_9 n_22 ln_22 x2_21 Y_limbs_19 rx2_21 h
  refine wa_sub C [1, 2, 0] rfl ?_
  exact k_10 n_7 x2_5 Y_limbs rx2_5 h0Inv_6
def P_J7_fill_d0a16_61 (post : (Int → Int64) → Prop) (Y_sum : Int → Int64) (x1 : Int64) : Prop :=
  ∃ Inv_1 : Nat → (Int) → (Int → Int64) → Prop, (∃ n_2 : Nat, Inv_1 n_2 0 Y_sum) ∧ ∀ (n_3 : Nat) (x3_6 : Int) (Y_sum_7 : Int → Int64), inR x3_6 → Inv_1 n_3 x3_6 Y_sum_7 → ((6 ≤ x3_6 → (post Y_sum_7)) ∧ (¬ 6 ≤ x3_6 → ((0 ≤ x3_6 ∧ x3_6 < 6) ∧ (∀ Y_sum_10 : Int → Int64, Y_sum_10 = upZ Y_sum_7 x3_6 x1 → (inR (x3_6 + 1) ∧ (∀ x3_12 : Int, x3_12 = (x3_6 + 1) → (∃ n_13 : Nat, n_13 < n_3 ∧ Inv_1 n_13 x3_12 Y_sum_10)))))))
set_option maxRecDepth 100000 in
set_option maxHeartbeats 4000000 in
theorem c_J7_fill_d0a16_61 (l : Launch) (K : wK) (ad : Nat → Nat) {D_hasBoard : Int} {D_beganBlank : Int} {F_mines : Int} {F_moves : Int} {F_changes : Int} {G_width : Int} {G_height : Int} {G_size : Int} {B_parts : Int} {B_longest : Int} {S_groups : Int} {S_askedGroup : Int} {S_taken : Int} {R_waitingCount : Int} {R_metCount : Int} {A_grade : Int} {A_cell : Int} {A_mined : Int} {A_withTotal : Int} {A_numbers : Int} {X_low : Int} {X_high : Int} {Y_low : Int} {Y_high : Int} {F_mined : Int → Int} {F_number : Int → Int} {F_state : Int → Int} {F_cellsIn : Int → Int} {F_unknownNear : Int → Int} {F_hitNear : Int → Int} {F_moveStart : Int → Int} {F_changed : Int → Int} {F_waiting : Int → Int} {F_seen : Int → Int} {G_near : Int → Int} {G_nearEnd : Int → Int} {B_chosen : Int → Int} {B_partOf : Int → Int} {B_rest : Int → Int} {B_unknowns : Int → Int} {B_partStart : Int → Int} {B_cells : Int → Int} {S_minedSet : Int → Int} {S_safeSet : Int → Int} {S_partSet : Int → Int} {S_tally : Int → Int} {S_askedTally : Int → Int} {S_groupOf : Int → Int} {S_groupSize : Int → Int} {S_links : Int → Int} {S_linkEnd : Int → Int} {S_pick : Int → Int} {S_groupMinedSet : Int → Int} {S_groupSafeSet : Int → Int} {O_sums : Int → Int64} {O_nextSums : Int → Int64} {R_found : Int → Int} {R_openEnds : Int → Int} {R_need : Int → Int} {R_waiting : Int → Int} {R_waits : Int → Int} {R_common : Int → Int} {R_met : Int → Int} {A_number : Int → Int} {Q_mined : Int → Int64} {Q_all : Int → Int64} {Q_choices : Int → Int64} {Q_term : Int → Int64} {Q_divisor : Int → Int64} {Q_spare : Int → Int64} {X_limbs : Int → Int64} {X_sum : Int → Int64} {Y_limbs : Int → Int64} {Y_sum : Int → Int64} (x1 : Int64)  (post : (Int → Int64) → Prop) (h : P_J7_fill_d0a16_61 post Y_sum x1) : mV l yJ7_fill_d0a16 (Cond.code yJ7_fill_d0a16 cJ7_fill_d0a16 5 none :: GT) ({ frames := 2, cells := 0, slots := 0, locals := 120 } : Room) [.ref (ad 61), .long x1] K ad (dW D_hasBoard D_beganBlank F_mines F_moves F_changes G_width G_height G_size B_parts B_longest S_groups S_askedGroup S_taken R_waitingCount R_metCount A_grade A_cell A_mined A_withTotal A_numbers X_low X_high Y_low Y_high F_mined F_number F_state F_cellsIn F_unknownNear F_hitNear F_moveStart F_changed F_waiting F_seen G_near G_nearEnd B_chosen B_partOf B_rest B_unknowns B_partStart B_cells S_minedSet S_safeSet S_partSet S_tally S_askedTally S_groupOf S_groupSize S_links S_linkEnd S_pick S_groupMinedSet S_groupSafeSet O_sums O_nextSums R_found R_openEnds R_need R_waiting R_waits R_common R_met A_number Q_mined Q_all Q_choices Q_term Q_divisor Q_spare X_limbs X_sum Y_limbs Y_sum) (fun u9 => ∃ Y_sum9, u9 = (dW D_hasBoard D_beganBlank F_mines F_moves F_changes G_width G_height G_size B_parts B_longest S_groups S_askedGroup S_taken R_waitingCount R_metCount A_grade A_cell A_mined A_withTotal A_numbers X_low X_high Y_low Y_high F_mined F_number F_state F_cellsIn F_unknownNear F_hitNear F_moveStart F_changed F_waiting F_seen G_near G_nearEnd B_chosen B_partOf B_rest B_unknowns B_partStart B_cells S_minedSet S_safeSet S_partSet S_tally S_askedTally S_groupOf S_groupSize S_links S_linkEnd S_pick S_groupMinedSet S_groupSafeSet O_sums O_nextSums R_found R_openEnds R_need R_waiting R_waits R_common R_met A_number Q_mined Q_all Q_choices Q_term Q_divisor Q_spare X_limbs X_sum Y_limbs Y_sum9) ∧ post Y_sum9) := by
  refine mV_of (lv0 := [(0, .ref (ad 61)), (1, .long x1)]) (by decide) (Nat.le_of_ble_eq_true rfl) rfl ?_
  intro p e s m args below meth c Q A C ret
  replace C : Cx p ({ frames := 2, cells := 0, slots := 0, locals := 120 } : Room) m c 0 0 cJ7_fill_d0a16 5 s args RJ7 K A := C
  unfold P_J7_fill_d0a16_61 at h
  refine wa_iconst C (z := 0) dJ7_fill_d0a16_0 rfl ?_
  refine wa_istore_n C dJ7_fill_d0a16_1 rfl (by decide) rfl ?_
  refine wa_aload_n C 1 rfl dJ7_fill_d0a16_2 rfl ?_
  refine wa_alen C (z := 6) 61 dW_61 rfl dJ7_fill_d0a16_3 ?_
  refine wa_istore C dJ7_fill_d0a16_4 (by decide) rfl ?_
  obtain ⟨Inv_1, ⟨n_2, h0Inv_1⟩, hInv_1⟩ := h
  have k_5 : ∀ (n_3 : Nat) (x3_6 : Int) (Y_sum_7 : Int → Int64), inR x3_6 → Inv_1 n_3 x3_6 Y_sum_7 → WA p l e ({ frames := 2, cells := 0, slots := 0, locals := 120 } : Room) s m args below meth c 0 0 Q K ad 5 A 6 [(0, .ref (ad 61)), (1, .long x1), (3, .int (iI x3_6)), (4, .int (iI 6))] [] (dW D_hasBoard D_beganBlank F_mines F_moves F_changes G_width G_height G_size B_parts B_longest S_groups S_askedGroup S_taken R_waitingCount R_metCount A_grade A_cell A_mined A_withTotal A_numbers X_low X_high Y_low Y_high F_mined F_number F_state F_cellsIn F_unknownNear F_hitNear F_moveStart F_changed F_waiting F_seen G_near G_nearEnd B_chosen B_partOf B_rest B_unknowns B_partStart B_cells S_minedSet S_safeSet S_partSet S_tally S_askedTally S_groupOf S_groupSize S_links S_linkEnd S_pick S_groupMinedSet S_groupSafeSet O_sums O_nextSums R_found R_openEnds R_need R_waiting R_waits R_common R_met A_number Q_mined Q_all Q_choices Q_term Q_divisor Q_spare X_limbs X_sum Y_limbs Y_sum_7) := by
    intro n_3
    induction n_3 using Nat.strongRecOn with
    | ind n_3 ih_4 =>
      intro x3_6 Y_sum_7 rx3_6 h
      replace h := hInv_1 n_3 x3_6 Y_sum_7 rx3_6 h
      refine wa_iload_n C 2 rfl dJ7_fill_d0a16_6 rfl ?_
      refine wa_iload C 3 rfl dJ7_fill_d0a16_7 ?_
      refine wa_icmp_ge C (tgt := 22) rx3_6 (inR_k 6 rfl) dJ7_fill_d0a16_9 (by decide) (fun c_8 => ?_) (fun c_8 => ?_)
      · replace h := h.1 c_8
        exact ret dJ7_fill_d0a16_22 ⟨_, rfl, h⟩
      · replace h := h.2 c_8
        refine wa_aload_n C 0 rfl dJ7_fill_d0a16_12 rfl ?_
        refine wa_iload_n C 2 rfl dJ7_fill_d0a16_13 rfl ?_
        refine wa_lload_n C 1 rfl dJ7_fill_d0a16_14 rfl ?_
        obtain ⟨t_9, h⟩ := h
        refine wa_last C (ws' := fun w9 => (dW D_hasBoard D_beganBlank F_mines F_moves F_changes G_width G_height G_size B_parts B_longest S_groups S_askedGroup S_taken R_waitingCount R_metCount A_grade A_cell A_mined A_withTotal A_numbers X_low X_high Y_low Y_high F_mined F_number F_state F_cellsIn F_unknownNear F_hitNear F_moveStart F_changed F_waiting F_seen G_near G_nearEnd B_chosen B_partOf B_rest B_unknowns B_partStart B_cells S_minedSet S_safeSet S_partSet S_tally S_askedTally S_groupOf S_groupSize S_links S_linkEnd S_pick S_groupMinedSet S_groupSafeSet O_sums O_nextSums R_found R_openEnds R_need R_waiting R_waits R_common R_met A_number Q_mined Q_all Q_choices Q_term Q_divisor Q_spare X_limbs X_sum Y_limbs w9)) 61 dW_61 dJ7_fill_d0a16_15 t_9.1 t_9.2 dWs_61 (fun Y_sum_10 eY_sum_10 => ?_)
        replace h := h Y_sum_10 eY_sum_10
        obtain ⟨r_11, h⟩ := h
        refine wa_iinc C (lv' := fun w9 => [(3, .int (iI w9)), (0, .ref (ad 61)), (1, .long x1), (4, .int (iI 6))]) 2 rfl dJ7_fill_d0a16_16 (by decide) (fun _ => rfl) (fun x3_12 ex3_12 => ?_)
        replace h := h x3_12 ex3_12
        have rx3_12 : inR x3_12 := by rw [ex3_12]; exact r_11
        refine wa_goto C (tgt := 6) dJ7_fill_d0a16_19 (by decide) ?_
        obtain ⟨n_13, ln_13, h⟩ := h
        refine wa_sub C [1, 2, 0, 3] rfl ?_
        exact ih_4 n_13 ln_13 x3_12 Y_sum_10 rx3_12 h
  refine wa_sub C [2, 3, 1, 0] rfl ?_
  exact k_5 n_2 0 Y_sum (inR_k 0 rfl) h0Inv_1
def P_X10_addScaled_61_60 (post : (Int → Int64) → Prop) (Y_limbs : Int → Int64) (Y_sum : Int → Int64) (x2 : Int) (x3 : Int) : Prop :=
  ∃ Inv_1 : Nat → (Int64) → (Int) → (Int → Int64) → Prop, (∃ n_2 : Nat, Inv_1 n_2 (0 : Int64) 0 Y_sum) ∧ ∀ (n_3 : Nat) (x4_6 : Int64) (x6_7 : Int) (Y_sum_8 : Int → Int64), inR x6_7 → Inv_1 n_3 x4_6 x6_7 Y_sum_8 → ((6 ≤ x6_7 → (post Y_sum_8)) ∧ (¬ 6 ≤ x6_7 → ((0 ≤ x6_7 ∧ x6_7 < 6) ∧ (∀ v_11 : Int64, v_11 = Y_sum_8 x6_7 → ((0 ≤ (x2 + x6_7) ∧ (x2 + x6_7) < 870) ∧ (∀ v_13 : Int64, v_13 = Y_limbs (x2 + x6_7) → (∀ x4_14 : Int64, x4_14 = (x4_6 + (v_11 + (v_13 * (Int64.ofInt x3)))) → ((0 ≤ x6_7 ∧ x6_7 < 6) ∧ (∀ Y_sum_16 : Int → Int64, Y_sum_16 = upZ Y_sum_8 x6_7 (x4_14 &&& (2147483647 : Int64)) → (∀ x4_17 : Int64, x4_17 = (ushrL x4_14 31) → (inR (x6_7 + 1) ∧ (∀ x6_19 : Int, x6_19 = (x6_7 + 1) → (∃ n_20 : Nat, n_20 < n_3 ∧ Inv_1 n_20 x4_17 x6_19 Y_sum_16)))))))))))))
set_option maxRecDepth 100000 in
set_option maxHeartbeats 4000000 in
theorem c_X10_addScaled_61_60 (l : Launch) (K : wK) (ad : Nat → Nat) {D_hasBoard : Int} {D_beganBlank : Int} {F_mines : Int} {F_moves : Int} {F_changes : Int} {G_width : Int} {G_height : Int} {G_size : Int} {B_parts : Int} {B_longest : Int} {S_groups : Int} {S_askedGroup : Int} {S_taken : Int} {R_waitingCount : Int} {R_metCount : Int} {A_grade : Int} {A_cell : Int} {A_mined : Int} {A_withTotal : Int} {A_numbers : Int} {X_low : Int} {X_high : Int} {Y_low : Int} {Y_high : Int} {F_mined : Int → Int} {F_number : Int → Int} {F_state : Int → Int} {F_cellsIn : Int → Int} {F_unknownNear : Int → Int} {F_hitNear : Int → Int} {F_moveStart : Int → Int} {F_changed : Int → Int} {F_waiting : Int → Int} {F_seen : Int → Int} {G_near : Int → Int} {G_nearEnd : Int → Int} {B_chosen : Int → Int} {B_partOf : Int → Int} {B_rest : Int → Int} {B_unknowns : Int → Int} {B_partStart : Int → Int} {B_cells : Int → Int} {S_minedSet : Int → Int} {S_safeSet : Int → Int} {S_partSet : Int → Int} {S_tally : Int → Int} {S_askedTally : Int → Int} {S_groupOf : Int → Int} {S_groupSize : Int → Int} {S_links : Int → Int} {S_linkEnd : Int → Int} {S_pick : Int → Int} {S_groupMinedSet : Int → Int} {S_groupSafeSet : Int → Int} {O_sums : Int → Int64} {O_nextSums : Int → Int64} {R_found : Int → Int} {R_openEnds : Int → Int} {R_need : Int → Int} {R_waiting : Int → Int} {R_waits : Int → Int} {R_common : Int → Int} {R_met : Int → Int} {A_number : Int → Int} {Q_mined : Int → Int64} {Q_all : Int → Int64} {Q_choices : Int → Int64} {Q_term : Int → Int64} {Q_divisor : Int → Int64} {Q_spare : Int → Int64} {X_limbs : Int → Int64} {X_sum : Int → Int64} {Y_limbs : Int → Int64} {Y_sum : Int → Int64} (x2 : Int) (x3 : Int) (rx2 : inR x2) (rx3 : inR x3) (post : (Int → Int64) → Prop) (h : P_X10_addScaled_61_60 post Y_limbs Y_sum x2 x3) : mV l yX10_addScaled (Cond.code yX10_addScaled cX10_addScaled 7 none :: GT) ({ frames := 2, cells := 0, slots := 0, locals := 120 } : Room) [.ref (ad 61), .ref (ad 60), .int (iI x2), .int (iI x3)] K ad (dW D_hasBoard D_beganBlank F_mines F_moves F_changes G_width G_height G_size B_parts B_longest S_groups S_askedGroup S_taken R_waitingCount R_metCount A_grade A_cell A_mined A_withTotal A_numbers X_low X_high Y_low Y_high F_mined F_number F_state F_cellsIn F_unknownNear F_hitNear F_moveStart F_changed F_waiting F_seen G_near G_nearEnd B_chosen B_partOf B_rest B_unknowns B_partStart B_cells S_minedSet S_safeSet S_partSet S_tally S_askedTally S_groupOf S_groupSize S_links S_linkEnd S_pick S_groupMinedSet S_groupSafeSet O_sums O_nextSums R_found R_openEnds R_need R_waiting R_waits R_common R_met A_number Q_mined Q_all Q_choices Q_term Q_divisor Q_spare X_limbs X_sum Y_limbs Y_sum) (fun u9 => ∃ Y_sum9, u9 = (dW D_hasBoard D_beganBlank F_mines F_moves F_changes G_width G_height G_size B_parts B_longest S_groups S_askedGroup S_taken R_waitingCount R_metCount A_grade A_cell A_mined A_withTotal A_numbers X_low X_high Y_low Y_high F_mined F_number F_state F_cellsIn F_unknownNear F_hitNear F_moveStart F_changed F_waiting F_seen G_near G_nearEnd B_chosen B_partOf B_rest B_unknowns B_partStart B_cells S_minedSet S_safeSet S_partSet S_tally S_askedTally S_groupOf S_groupSize S_links S_linkEnd S_pick S_groupMinedSet S_groupSafeSet O_sums O_nextSums R_found R_openEnds R_need R_waiting R_waits R_common R_met A_number Q_mined Q_all Q_choices Q_term Q_divisor Q_spare X_limbs X_sum Y_limbs Y_sum9) ∧ post Y_sum9) := by
  refine mV_of (lv0 := [(0, .ref (ad 61)), (1, .ref (ad 60)), (2, .int (iI x2)), (3, .int (iI x3))]) (by decide) (Nat.le_of_ble_eq_true rfl) rfl ?_
  intro p e s m args below meth c Q A C ret
  replace C : Cx p ({ frames := 2, cells := 0, slots := 0, locals := 120 } : Room) m c 0 0 cX10_addScaled 7 s args RX10 K A := C
  unfold P_X10_addScaled_61_60 at h
  refine wa_lconst C (v := 0) dX10_addScaled_0 rfl ?_
  refine wa_lstore C dX10_addScaled_1 (by decide) rfl ?_
  refine wa_iconst C (z := 0) dX10_addScaled_3 rfl ?_
  refine wa_istore C dX10_addScaled_4 (by decide) rfl ?_
  obtain ⟨Inv_1, ⟨n_2, h0Inv_1⟩, hInv_1⟩ := h
  have k_5 : ∀ (n_3 : Nat) (x4_6 : Int64) (x6_7 : Int) (Y_sum_8 : Int → Int64), inR x6_7 → Inv_1 n_3 x4_6 x6_7 Y_sum_8 → WA p l e ({ frames := 2, cells := 0, slots := 0, locals := 120 } : Room) s m args below meth c 0 0 Q K ad 7 A 6 [(0, .ref (ad 61)), (1, .ref (ad 60)), (2, .int (iI x2)), (3, .int (iI x3)), (4, .long x4_6), (6, .int (iI x6_7))] [] (dW D_hasBoard D_beganBlank F_mines F_moves F_changes G_width G_height G_size B_parts B_longest S_groups S_askedGroup S_taken R_waitingCount R_metCount A_grade A_cell A_mined A_withTotal A_numbers X_low X_high Y_low Y_high F_mined F_number F_state F_cellsIn F_unknownNear F_hitNear F_moveStart F_changed F_waiting F_seen G_near G_nearEnd B_chosen B_partOf B_rest B_unknowns B_partStart B_cells S_minedSet S_safeSet S_partSet S_tally S_askedTally S_groupOf S_groupSize S_links S_linkEnd S_pick S_groupMinedSet S_groupSafeSet O_sums O_nextSums R_found R_openEnds R_need R_waiting R_waits R_common R_met A_number Q_mined Q_all Q_choices Q_term Q_divisor Q_spare X_limbs X_sum Y_limbs Y_sum_8) := by
    intro n_3
    induction n_3 using Nat.strongRecOn with
    | ind n_3 ih_4 =>
      intro x4_6 x6_7 Y_sum_8 rx6_7 h
      replace h := hInv_1 n_3 x4_6 x6_7 Y_sum_8 rx6_7 h
      refine wa_iload C 5 rfl dX10_addScaled_6 ?_
      refine wa_bipush C (z := 6) dX10_addScaled_8 (by decide) ?_
      refine wa_icmp_ge C (tgt := 55) rx6_7 (inR_k 6 rfl) dX10_addScaled_10 (by decide) (fun c_9 => ?_) (fun c_9 => ?_)
      · replace h := h.1 c_9
        exact ret dX10_addScaled_55 ⟨_, rfl, h⟩
      · replace h := h.2 c_9
        refine wa_lload C 4 rfl dX10_addScaled_13 ?_
        refine wa_aload_n C 0 rfl dX10_addScaled_15 rfl ?_
        refine wa_iload C 5 rfl dX10_addScaled_16 ?_
        obtain ⟨t_10, h⟩ := h
        refine wa_lald C 61 dW_61 dX10_addScaled_18 t_10.1 t_10.2 (fun v_11 ev_11 => ?_)
        replace h := h v_11 ev_11
        refine wa_aload_n C 1 rfl dX10_addScaled_19 rfl ?_
        refine wa_iload_n C 2 rfl dX10_addScaled_20 rfl ?_
        refine wa_iload C 5 rfl dX10_addScaled_21 ?_
        refine wa_iadd C dX10_addScaled_23 ?_
        obtain ⟨t_12, h⟩ := h
        refine wa_lald C 60 dW_60 dX10_addScaled_24 t_12.1 t_12.2 (fun v_13 ev_13 => ?_)
        replace h := h v_13 ev_13
        refine wa_iload_n C 3 rfl dX10_addScaled_25 rfl ?_
        refine wa_i2l C rx3 dX10_addScaled_26 ?_
        refine wa_lmul C dX10_addScaled_27 ?_
        refine wa_ladd C dX10_addScaled_28 ?_
        refine wa_ladd C dX10_addScaled_29 ?_
        refine wa_nml (fun x4_14 ex4_14 => ?_)
        replace h := h x4_14 ex4_14
        refine wa_lstore C dX10_addScaled_30 (by decide) rfl ?_
        refine wa_aload_n C 1 rfl dX10_addScaled_32 rfl ?_
        refine wa_iload C 5 rfl dX10_addScaled_33 ?_
        refine wa_lload C 0 rfl dX10_addScaled_35 ?_
        refine wa_ldc2 C gw_1108 dX10_addScaled_37 ?_
        refine wa_land C dX10_addScaled_40 ?_
        obtain ⟨t_15, h⟩ := h
        refine wa_last C (ws' := fun w9 => (dW D_hasBoard D_beganBlank F_mines F_moves F_changes G_width G_height G_size B_parts B_longest S_groups S_askedGroup S_taken R_waitingCount R_metCount A_grade A_cell A_mined A_withTotal A_numbers X_low X_high Y_low Y_high F_mined F_number F_state F_cellsIn F_unknownNear F_hitNear F_moveStart F_changed F_waiting F_seen G_near G_nearEnd B_chosen B_partOf B_rest B_unknowns B_partStart B_cells S_minedSet S_safeSet S_partSet S_tally S_askedTally S_groupOf S_groupSize S_links S_linkEnd S_pick S_groupMinedSet S_groupSafeSet O_sums O_nextSums R_found R_openEnds R_need R_waiting R_waits R_common R_met A_number Q_mined Q_all Q_choices Q_term Q_divisor Q_spare X_limbs X_sum Y_limbs w9)) 61 dW_61 dX10_addScaled_41 t_15.1 t_15.2 dWs_61 (fun Y_sum_16 eY_sum_16 => ?_)
        replace h := h Y_sum_16 eY_sum_16
        refine wa_lload C 0 rfl dX10_addScaled_42 ?_
        refine wa_bipush C (z := 31) dX10_addScaled_44 (by decide) ?_
        refine wa_lushr C dX10_addScaled_46 ?_
        refine wa_nml (fun x4_17 ex4_17 => ?_)
        replace h := h x4_17 ex4_17
        refine wa_lstore C dX10_addScaled_47 (by decide) rfl ?_
        obtain ⟨r_18, h⟩ := h
        refine wa_iinc C (lv' := fun w9 => [(6, .int (iI w9)), (4, .long x4_17), (0, .ref (ad 61)), (1, .ref (ad 60)), (2, .int (iI x2)), (3, .int (iI x3))]) 5 rfl dX10_addScaled_49 (by decide) (fun _ => rfl) (fun x6_19 ex6_19 => ?_)
        replace h := h x6_19 ex6_19
        have rx6_19 : inR x6_19 := by rw [ex6_19]; exact r_18
        refine wa_goto C (tgt := 6) dX10_addScaled_52 (by decide) ?_
        obtain ⟨n_20, ln_20, h⟩ := h
        refine wa_sub C [2, 3, 4, 5, 1, 0] rfl ?_
        exact ih_4 n_20 ln_20 x4_17 x6_19 Y_sum_16 rx6_19 h
  refine wa_sub C [2, 3, 4, 5, 1, 0] rfl ?_
  exact k_5 n_2 (0 : Int64) 0 Y_sum (inR_k 0 rfl) h0Inv_1
def P_X8_multiply_10_34 (post : (Int) → (Int) → (Int → Int64) → (Int → Int64) → Prop) (Y_low : Int) (Y_high : Int) (S_askedTally : Int → Int) (Y_limbs : Int → Int64) (Y_sum : Int → Int64) (x2 : Int) (x3 : Int) : Prop :=
  ∃ Inv_1 : Nat → (Int) → (Int) → (Int) → Prop, (∃ n_2 : Nat, Inv_1 n_2 (-1) (-1) 0) ∧ ∀ (n_3 : Nat) (x4_6 : Int) (x5_7 : Int) (x6_8 : Int), inR x4_6 → inR x5_7 → inR x6_8 → Inv_1 n_3 x4_6 x5_7 x6_8 → ((x3 < x6_8 → (∃ J_10 : Prop, ((x4_6 = (-1) → (J_10)) ∧ (¬ x4_6 = (-1) → (inR (Y_high + x5_7) ∧ (((Y_high + x5_7) ≤ 144 → (∀ x6_20 : Int, x6_20 = (Y_high + x5_7) → (∃ Inv_21 : Nat → (Int) → (Int → Int64) → (Int → Int64) → Prop, (∃ n_22 : Nat, Inv_21 n_22 x6_20 Y_limbs Y_sum) ∧ ∀ (n_23 : Nat) (x6_26 : Int) (Y_limbs_27 : Int → Int64) (Y_sum_28 : Int → Int64), inR x6_26 → Inv_21 n_23 x6_26 Y_limbs_27 Y_sum_28 → (inR (Y_low + x4_6) ∧ ((x6_26 < (Y_low + x4_6) → (∀ Y_low_33 : Int, Y_low_33 = (Y_low + x4_6) → (∀ Y_high_35 : Int, Y_high_35 = (Y_high + x5_7) → (post Y_low_33 Y_high_35 Y_limbs_27 Y_sum_28)))) ∧ (¬ x6_26 < (Y_low + x4_6) → (P_J7_fill_d0a16_61 (fun (Y_sum_36 : Int → Int64) => (inR (x6_26 - Y_high) ∧ (inR (if x4_6 < (x6_26 - Y_high) then (x6_26 - Y_high) else x4_6) ∧ (∀ x7_40 : Int, x7_40 = (if x4_6 < (x6_26 - Y_high) then (x6_26 - Y_high) else x4_6) → (∃ Inv_41 : Nat → (Int) → (Int → Int64) → Prop, (∃ n_42 : Nat, Inv_41 n_42 x7_40 Y_sum_36) ∧ ∀ (n_43 : Nat) (x7_46 : Int) (Y_sum_47 : Int → Int64), inR x7_46 → Inv_41 n_43 x7_46 Y_sum_47 → (∃ J_48 : Prop, ((x5_7 < x7_46 → (J_48)) ∧ (¬ x5_7 < x7_46 → (inR (x6_26 - Y_low) ∧ (((x6_26 - Y_low) < x7_46 → (J_48)) ∧ (¬ (x6_26 - Y_low) < x7_46 → ((0 ≤ (x2 + x7_46) ∧ (x2 + x7_46) < 17) ∧ (∀ v_61 : Int, v_61 = S_askedTally (x2 + x7_46) → inR v_61 → (inR ((x6_26 - x7_46) * 6) ∧ (P_X10_addScaled_61_60 (fun (Y_sum_63 : Int → Int64) => (inR (x7_46 + 1) ∧ (∀ x7_65 : Int, x7_65 = (x7_46 + 1) → (∃ n_66 : Nat, n_66 < n_43 ∧ Inv_41 n_66 x7_65 Y_sum_63)))) Y_limbs_27 Y_sum_47 ((x6_26 - x7_46) * 6) v_61))))))))) ∧ (J_48 → (inR (x6_26 * 6) ∧ (((0 : Int) ≤ 0 ∧ (0 : Int) ≤ (x6_26 * 6) ∧ (0 : Int) ≤ 6 ∧ (0 : Int) + 6 ≤ 6 ∧ ((x6_26 * 6) : Int) + 6 ≤ 870) ∧ (∀ Y_limbs_52 : Int → Int64, Y_limbs_52 = cpZ Y_sum_47 Y_limbs_27 0 (x6_26 * 6) 6 → (inR (x6_26 + (-1)) ∧ (∀ x6_54 : Int, x6_54 = (x6_26 + (-1)) → (∃ n_55 : Nat, n_55 < n_23 ∧ Inv_21 n_55 x6_54 Y_limbs_52 Y_sum_47))))))))))))) Y_sum_28 (0 : Int64)))))))) ∧ (¬ (Y_high + x5_7) ≤ 144 → (J_10)))))) ∧ (J_10 → (inR (Y_low - 1) ∧ (∀ Y_high_14 : Int, Y_high_14 = (Y_low - 1) → (post Y_low Y_high_14 Y_limbs Y_sum)))))) ∧ (¬ x3 < x6_8 → ((0 ≤ (x2 + x6_8) ∧ (x2 + x6_8) < 17) ∧ (∀ v_68 : Int, v_68 = S_askedTally (x2 + x6_8) → inR v_68 → (∃ J_69 : (Int) → (Int) → Prop, ((v_68 = 0 → (J_69 x4_6 x5_7)) ∧ (¬ v_68 = 0 → (∃ J_77 : (Int) → Prop, ((¬ x4_6 = (-1) → (J_77 x4_6)) ∧ (x4_6 = (-1) → (J_77 x6_8))) ∧ (∀ (z_79 : Int), inR z_79 → J_77 z_79 → (J_69 z_79 x6_8))))) ∧ (∀ (x4_71 : Int) (x5_72 : Int), inR x4_71 → inR x5_72 → J_69 x4_71 x5_72 → (inR (x6_8 + 1) ∧ (∀ x6_74 : Int, x6_74 = (x6_8 + 1) → (∃ n_75 : Nat, n_75 < n_3 ∧ Inv_1 n_75 x4_71 x5_72 x6_74)))))))))
set_option maxRecDepth 100000 in
set_option maxHeartbeats 4000000 in
theorem c_X8_multiply_10_34 (l : Launch) (K : wK) (ad : Nat → Nat) {D_hasBoard : Int} {D_beganBlank : Int} {F_mines : Int} {F_moves : Int} {F_changes : Int} {G_width : Int} {G_height : Int} {G_size : Int} {B_parts : Int} {B_longest : Int} {S_groups : Int} {S_askedGroup : Int} {S_taken : Int} {R_waitingCount : Int} {R_metCount : Int} {A_grade : Int} {A_cell : Int} {A_mined : Int} {A_withTotal : Int} {A_numbers : Int} {X_low : Int} {X_high : Int} {Y_low : Int} {Y_high : Int} {F_mined : Int → Int} {F_number : Int → Int} {F_state : Int → Int} {F_cellsIn : Int → Int} {F_unknownNear : Int → Int} {F_hitNear : Int → Int} {F_moveStart : Int → Int} {F_changed : Int → Int} {F_waiting : Int → Int} {F_seen : Int → Int} {G_near : Int → Int} {G_nearEnd : Int → Int} {B_chosen : Int → Int} {B_partOf : Int → Int} {B_rest : Int → Int} {B_unknowns : Int → Int} {B_partStart : Int → Int} {B_cells : Int → Int} {S_minedSet : Int → Int} {S_safeSet : Int → Int} {S_partSet : Int → Int} {S_tally : Int → Int} {S_askedTally : Int → Int} {S_groupOf : Int → Int} {S_groupSize : Int → Int} {S_links : Int → Int} {S_linkEnd : Int → Int} {S_pick : Int → Int} {S_groupMinedSet : Int → Int} {S_groupSafeSet : Int → Int} {O_sums : Int → Int64} {O_nextSums : Int → Int64} {R_found : Int → Int} {R_openEnds : Int → Int} {R_need : Int → Int} {R_waiting : Int → Int} {R_waits : Int → Int} {R_common : Int → Int} {R_met : Int → Int} {A_number : Int → Int} {Q_mined : Int → Int64} {Q_all : Int → Int64} {Q_choices : Int → Int64} {Q_term : Int → Int64} {Q_divisor : Int → Int64} {Q_spare : Int → Int64} {X_limbs : Int → Int64} {X_sum : Int → Int64} {Y_limbs : Int → Int64} {Y_sum : Int → Int64} (x2 : Int) (x3 : Int) (rx2 : inR x2) (rx3 : inR x3) (post : (Int) → (Int) → (Int → Int64) → (Int → Int64) → Prop) (h : P_X8_multiply_10_34 post Y_low Y_high S_askedTally Y_limbs Y_sum x2 x3) : mV l yX8_multiply (Cond.code yX8_multiply cX8_multiply 8 none :: GT) ({ frames := 3, cells := 0, slots := 0, locals := 180 } : Room) [.ref (ad 10), .ref (ad 34), .int (iI x2), .int (iI x3)] K ad (dW D_hasBoard D_beganBlank F_mines F_moves F_changes G_width G_height G_size B_parts B_longest S_groups S_askedGroup S_taken R_waitingCount R_metCount A_grade A_cell A_mined A_withTotal A_numbers X_low X_high Y_low Y_high F_mined F_number F_state F_cellsIn F_unknownNear F_hitNear F_moveStart F_changed F_waiting F_seen G_near G_nearEnd B_chosen B_partOf B_rest B_unknowns B_partStart B_cells S_minedSet S_safeSet S_partSet S_tally S_askedTally S_groupOf S_groupSize S_links S_linkEnd S_pick S_groupMinedSet S_groupSafeSet O_sums O_nextSums R_found R_openEnds R_need R_waiting R_waits R_common R_met A_number Q_mined Q_all Q_choices Q_term Q_divisor Q_spare X_limbs X_sum Y_limbs Y_sum) (fun u9 => ∃ Y_low9 Y_high9 Y_limbs9 Y_sum9, u9 = (dW D_hasBoard D_beganBlank F_mines F_moves F_changes G_width G_height G_size B_parts B_longest S_groups S_askedGroup S_taken R_waitingCount R_metCount A_grade A_cell A_mined A_withTotal A_numbers X_low X_high Y_low9 Y_high9 F_mined F_number F_state F_cellsIn F_unknownNear F_hitNear F_moveStart F_changed F_waiting F_seen G_near G_nearEnd B_chosen B_partOf B_rest B_unknowns B_partStart B_cells S_minedSet S_safeSet S_partSet S_tally S_askedTally S_groupOf S_groupSize S_links S_linkEnd S_pick S_groupMinedSet S_groupSafeSet O_sums O_nextSums R_found R_openEnds R_need R_waiting R_waits R_common R_met A_number Q_mined Q_all Q_choices Q_term Q_divisor Q_spare X_limbs X_sum Y_limbs9 Y_sum9) ∧ post Y_low9 Y_high9 Y_limbs9 Y_sum9) := by
  refine mV_of (lv0 := [(0, .ref (ad 10)), (1, .ref (ad 34)), (2, .int (iI x2)), (3, .int (iI x3))]) (by decide) (Nat.le_of_ble_eq_true rfl) rfl ?_
  intro p e s m args below meth c Q A C ret
  replace C : Cx p ({ frames := 3, cells := 0, slots := 0, locals := 180 } : Room) m c 0 0 cX8_multiply 8 s args RX8 K A := C
  unfold P_X8_multiply_10_34 at h
  refine wa_iconst C (z := -1) dX8_multiply_0 rfl ?_
  refine wa_istore C dX8_multiply_1 (by decide) rfl ?_
  refine wa_iconst C (z := -1) dX8_multiply_3 rfl ?_
  refine wa_istore C dX8_multiply_4 (by decide) rfl ?_
  refine wa_iconst C (z := 0) dX8_multiply_6 rfl ?_
  refine wa_istore C dX8_multiply_7 (by decide) rfl ?_
  obtain ⟨Inv_1, ⟨n_2, h0Inv_1⟩, hInv_1⟩ := h
  have k_5 : ∀ (n_3 : Nat) (x4_6 : Int) (x5_7 : Int) (x6_8 : Int), inR x4_6 → inR x5_7 → inR x6_8 → Inv_1 n_3 x4_6 x5_7 x6_8 → WA p l e ({ frames := 3, cells := 0, slots := 0, locals := 180 } : Room) s m args below meth c 0 0 Q K ad 8 A 9 [(0, .ref (ad 10)), (1, .ref (ad 34)), (2, .int (iI x2)), (3, .int (iI x3)), (4, .int (iI x4_6)), (5, .int (iI x5_7)), (6, .int (iI x6_8))] [] (dW D_hasBoard D_beganBlank F_mines F_moves F_changes G_width G_height G_size B_parts B_longest S_groups S_askedGroup S_taken R_waitingCount R_metCount A_grade A_cell A_mined A_withTotal A_numbers X_low X_high Y_low Y_high F_mined F_number F_state F_cellsIn F_unknownNear F_hitNear F_moveStart F_changed F_waiting F_seen G_near G_nearEnd B_chosen B_partOf B_rest B_unknowns B_partStart B_cells S_minedSet S_safeSet S_partSet S_tally S_askedTally S_groupOf S_groupSize S_links S_linkEnd S_pick S_groupMinedSet S_groupSafeSet O_sums O_nextSums R_found R_openEnds R_need R_waiting R_waits R_common R_met A_number Q_mined Q_all Q_choices Q_term Q_divisor Q_spare X_limbs X_sum Y_limbs Y_sum) := by
    intro n_3
    induction n_3 using Nat.strongRecOn with
    | ind n_3 ih_4 =>
      intro x4_6 x5_7 x6_8 rx4_6 rx5_7 rx6_8 h
      replace h := hInv_1 n_3 x4_6 x5_7 x6_8 rx4_6 rx5_7 rx6_8 h
      refine wa_iload C 6 rfl dX8_multiply_9 ?_
      refine wa_iload_n C 3 rfl dX8_multiply_11 rfl ?_
      refine wa_icmp_gt C (tgt := 49) rx6_8 rx3 dX8_multiply_12 (by decide) (fun c_9 => ?_) (fun c_9 => ?_)
      · replace h := h.1 c_9
        refine wa_iload C 4 rfl dX8_multiply_49 ?_
        refine wa_iconst C (z := -1) dX8_multiply_51 rfl ?_
        obtain ⟨J_10, h, hJ_10⟩ := h
        have k_11 : J_10 → WA p l e ({ frames := 3, cells := 0, slots := 0, locals := 180 } : Room) s m args below meth c 0 0 Q K ad 8 A 68 [(0, .ref (ad 10))] [] (dW D_hasBoard D_beganBlank F_mines F_moves F_changes G_width G_height G_size B_parts B_longest S_groups S_askedGroup S_taken R_waitingCount R_metCount A_grade A_cell A_mined A_withTotal A_numbers X_low X_high Y_low Y_high F_mined F_number F_state F_cellsIn F_unknownNear F_hitNear F_moveStart F_changed F_waiting F_seen G_near G_nearEnd B_chosen B_partOf B_rest B_unknowns B_partStart B_cells S_minedSet S_safeSet S_partSet S_tally S_askedTally S_groupOf S_groupSize S_links S_linkEnd S_pick S_groupMinedSet S_groupSafeSet O_sums O_nextSums R_found R_openEnds R_need R_waiting R_waits R_common R_met A_number Q_mined Q_all Q_choices Q_term Q_divisor Q_spare X_limbs X_sum Y_limbs Y_sum) := by
          intro h
          replace h := hJ_10 h
          refine wa_aload_n C 0 rfl dX8_multiply_68 rfl ?_
          refine wa_aload_n C 0 rfl dX8_multiply_69 rfl ?_
          refine wa_getI C 10 1 dW_10 rfl rfl (by decide) okX8 gw_392 dX8_multiply_70 (fun r_12 => ?_)
          refine wa_iconst C (z := 1) dX8_multiply_73 rfl ?_
          refine wa_isub C dX8_multiply_74 ?_
          obtain ⟨r_13, h⟩ := h
          refine wa_nmi (fun Y_high_14 eY_high_14 => ?_)
          replace h := h Y_high_14 eY_high_14
          have rY_high_14 : inR Y_high_14 := by rw [eY_high_14]; exact r_13
          refine wa_putI C (ws' := (dW D_hasBoard D_beganBlank F_mines F_moves F_changes G_width G_height G_size B_parts B_longest S_groups S_askedGroup S_taken R_waitingCount R_metCount A_grade A_cell A_mined A_withTotal A_numbers X_low X_high Y_low Y_high_14 F_mined F_number F_state F_cellsIn F_unknownNear F_hitNear F_moveStart F_changed F_waiting F_seen G_near G_nearEnd B_chosen B_partOf B_rest B_unknowns B_partStart B_cells S_minedSet S_safeSet S_partSet S_tally S_askedTally S_groupOf S_groupSize S_links S_linkEnd S_pick S_groupMinedSet S_groupSafeSet O_sums O_nextSums R_found R_openEnds R_need R_waiting R_waits R_common R_met A_number Q_mined Q_all Q_choices Q_term Q_divisor Q_spare X_limbs X_sum Y_limbs Y_sum)) 10 2 dW_10 rfl (by decide) okX8 gw_394 rfl rfl (Nat.le_of_ble_eq_true rfl) rY_high_14 (dWp_10_2 _) dX8_multiply_75 ?_
          exact ret dX8_multiply_78 ⟨_, _, _, _, rfl, h⟩
        refine wa_icmp_eq C (tgt := 68) rx4_6 (inR_k (-1) rfl) dX8_multiply_52 (by decide) (fun c_15 => ?_) (fun c_15 => ?_)
        · replace h := h.1 c_15
          refine wa_sub C [0] rfl ?_
          exact k_11 h
        · replace h := h.2 c_15
          refine wa_aload_n C 0 rfl dX8_multiply_55 rfl ?_
          refine wa_getI C 10 2 dW_10 rfl rfl (by decide) okX8 gw_394 dX8_multiply_56 (fun r_16 => ?_)
          refine wa_iload C 5 rfl dX8_multiply_59 ?_
          refine wa_iadd C dX8_multiply_61 ?_
          refine wa_sipush C (z := 144) dX8_multiply_62 (by decide) ?_
          obtain ⟨r_17, h⟩ := h
          refine wa_icmp_le C (tgt := 79) r_17 (inR_k 144 rfl) dX8_multiply_65 (by decide) (fun c_18 => ?_) (fun c_18 => ?_)
          · replace h := h.1 c_18
            refine wa_aload_n C 0 rfl dX8_multiply_79 rfl ?_
            refine wa_getI C 10 2 dW_10 rfl rfl (by decide) okX8 gw_394 dX8_multiply_80 (fun r_19 => ?_)
            refine wa_iload C 5 rfl dX8_multiply_83 ?_
            refine wa_iadd C dX8_multiply_85 ?_
            refine wa_nmi (fun x6_20 ex6_20 => ?_)
            replace h := h x6_20 ex6_20
            have rx6_20 : inR x6_20 := by rw [ex6_20]; exact r_17
            refine wa_istore C dX8_multiply_86 (by decide) rfl ?_
            obtain ⟨Inv_21, ⟨n_22, h0Inv_21⟩, hInv_21⟩ := h
            have k_25 : ∀ (n_23 : Nat) (x6_26 : Int) (Y_limbs_27 : Int → Int64) (Y_sum_28 : Int → Int64), inR x6_26 → Inv_21 n_23 x6_26 Y_limbs_27 Y_sum_28 → WA p l e ({ frames := 3, cells := 0, slots := 0, locals := 180 } : Room) s m args below meth c 0 0 Q K ad 8 A 88 [(0, .ref (ad 10)), (1, .ref (ad 34)), (2, .int (iI x2)), (4, .int (iI x4_6)), (5, .int (iI x5_7)), (6, .int (iI x6_26))] [] (dW D_hasBoard D_beganBlank F_mines F_moves F_changes G_width G_height G_size B_parts B_longest S_groups S_askedGroup S_taken R_waitingCount R_metCount A_grade A_cell A_mined A_withTotal A_numbers X_low X_high Y_low Y_high F_mined F_number F_state F_cellsIn F_unknownNear F_hitNear F_moveStart F_changed F_waiting F_seen G_near G_nearEnd B_chosen B_partOf B_rest B_unknowns B_partStart B_cells S_minedSet S_safeSet S_partSet S_tally S_askedTally S_groupOf S_groupSize S_links S_linkEnd S_pick S_groupMinedSet S_groupSafeSet O_sums O_nextSums R_found R_openEnds R_need R_waiting R_waits R_common R_met A_number Q_mined Q_all Q_choices Q_term Q_divisor Q_spare X_limbs X_sum Y_limbs_27 Y_sum_28) := by
              intro n_23
              induction n_23 using Nat.strongRecOn with
              | ind n_23 ih_24 =>
                intro x6_26 Y_limbs_27 Y_sum_28 rx6_26 h
                replace h := hInv_21 n_23 x6_26 Y_limbs_27 Y_sum_28 rx6_26 h
                refine wa_iload C 5 rfl dX8_multiply_88 ?_
                refine wa_aload_n C 0 rfl dX8_multiply_90 rfl ?_
                refine wa_getI C 10 1 dW_10 rfl rfl (by decide) okX8 gw_392 dX8_multiply_91 (fun r_29 => ?_)
                refine wa_iload C 3 rfl dX8_multiply_94 ?_
                refine wa_iadd C dX8_multiply_96 ?_
                obtain ⟨r_30, h⟩ := h
                refine wa_icmp_lt C (tgt := 197) rx6_26 r_30 dX8_multiply_97 (by decide) (fun c_31 => ?_) (fun c_31 => ?_)
                · replace h := h.1 c_31
                  refine wa_aload_n C 0 rfl dX8_multiply_197 rfl ?_
                  refine wa_dup C dX8_multiply_198 rfl ?_
                  refine wa_getI C 10 1 dW_10 rfl rfl (by decide) okX8 gw_392 dX8_multiply_199 (fun r_32 => ?_)
                  refine wa_iload C 3 rfl dX8_multiply_202 ?_
                  refine wa_iadd C dX8_multiply_204 ?_
                  refine wa_nmi (fun Y_low_33 eY_low_33 => ?_)
                  replace h := h Y_low_33 eY_low_33
                  have rY_low_33 : inR Y_low_33 := by rw [eY_low_33]; exact r_30
                  refine wa_putI C (ws' := (dW D_hasBoard D_beganBlank F_mines F_moves F_changes G_width G_height G_size B_parts B_longest S_groups S_askedGroup S_taken R_waitingCount R_metCount A_grade A_cell A_mined A_withTotal A_numbers X_low X_high Y_low_33 Y_high F_mined F_number F_state F_cellsIn F_unknownNear F_hitNear F_moveStart F_changed F_waiting F_seen G_near G_nearEnd B_chosen B_partOf B_rest B_unknowns B_partStart B_cells S_minedSet S_safeSet S_partSet S_tally S_askedTally S_groupOf S_groupSize S_links S_linkEnd S_pick S_groupMinedSet S_groupSafeSet O_sums O_nextSums R_found R_openEnds R_need R_waiting R_waits R_common R_met A_number Q_mined Q_all Q_choices Q_term Q_divisor Q_spare X_limbs X_sum Y_limbs_27 Y_sum_28)) 10 1 dW_10 rfl (by decide) okX8 gw_392 rfl rfl (Nat.le_of_ble_eq_true rfl) rY_low_33 (dWp_10_1 _) dX8_multiply_205 ?_
                  refine wa_aload_n C 0 rfl dX8_multiply_208 rfl ?_
                  refine wa_dup C dX8_multiply_209 rfl ?_
                  refine wa_getI C 10 2 dW_10 rfl rfl (by decide) okX8 gw_394 dX8_multiply_210 (fun r_34 => ?_)
                  refine wa_iload C 4 rfl dX8_multiply_213 ?_
                  refine wa_iadd C dX8_multiply_215 ?_
                  refine wa_nmi (fun Y_high_35 eY_high_35 => ?_)
                  replace h := h Y_high_35 eY_high_35
                  have rY_high_35 : inR Y_high_35 := by rw [eY_high_35]; exact r_17
                  refine wa_putI C (ws' := (dW D_hasBoard D_beganBlank F_mines F_moves F_changes G_width G_height G_size B_parts B_longest S_groups S_askedGroup S_taken R_waitingCount R_metCount A_grade A_cell A_mined A_withTotal A_numbers X_low X_high Y_low_33 Y_high_35 F_mined F_number F_state F_cellsIn F_unknownNear F_hitNear F_moveStart F_changed F_waiting F_seen G_near G_nearEnd B_chosen B_partOf B_rest B_unknowns B_partStart B_cells S_minedSet S_safeSet S_partSet S_tally S_askedTally S_groupOf S_groupSize S_links S_linkEnd S_pick S_groupMinedSet S_groupSafeSet O_sums O_nextSums R_found R_openEnds R_need R_waiting R_waits R_common R_met A_number Q_mined Q_all Q_choices Q_term Q_divisor Q_spare X_limbs X_sum Y_limbs_27 Y_sum_28)) 10 2 dW_10 rfl (by decide) okX8 gw_394 rfl rfl (Nat.le_of_ble_eq_true rfl) rY_high_35 (dWp_10_2 _) dX8_multiply_216 ?_
                  exact ret dX8_multiply_219 ⟨_, _, _, _, rfl, h⟩
                · replace h := h.2 c_31
                  refine wa_aload_n C 0 rfl dX8_multiply_100 rfl ?_
                  refine wa_getR C 10 3 dW_10 rfl rfl (by decide) okX8 gw_396 dX8_multiply_101 ?_
                  refine wa_lconst C (v := 0) dX8_multiply_104 rfl ?_
                  refine wa_callSv C (As := [.ref (ad 61), .long (0 : Int64)]) (rest := []) (c_J7_fill_d0a16_61 l K ad (0 : Int64) _ h) gw_822 gw_1103 gw_821 gw_17 q_J7_fill_d0a16 rfl rfl rfl ⟨by decide, by decide⟩ rfl (Nat.le_of_ble_eq_true rfl) dX8_multiply_105 (fun u9 hp => ?_)
                  obtain ⟨Y_sum_36, rfl, h⟩ := hp
                  refine wa_iload C 3 rfl dX8_multiply_108 ?_
                  refine wa_iload C 5 rfl dX8_multiply_110 ?_
                  refine wa_aload_n C 0 rfl dX8_multiply_112 rfl ?_
                  refine wa_getI C 10 2 dW_10 rfl rfl (by decide) okX8 gw_394 dX8_multiply_113 (fun r_37 => ?_)
                  refine wa_isub C dX8_multiply_116 ?_
                  obtain ⟨r_38, h⟩ := h
                  refine wa_max C rx4_6 r_38 gw_1104 gw_744 gw_18 gw_745 (by decide) (Nat.le_of_ble_eq_true rfl) dX8_multiply_117 ?_
                  obtain ⟨r_39, h⟩ := h
                  refine wa_nmi (fun x7_40 ex7_40 => ?_)
                  replace h := h x7_40 ex7_40
                  have rx7_40 : inR x7_40 := by rw [ex7_40]; exact r_39
                  refine wa_istore C dX8_multiply_120 (by decide) rfl ?_
                  obtain ⟨Inv_41, ⟨n_42, h0Inv_41⟩, hInv_41⟩ := h
                  have k_45 : ∀ (n_43 : Nat) (x7_46 : Int) (Y_sum_47 : Int → Int64), inR x7_46 → Inv_41 n_43 x7_46 Y_sum_47 → WA p l e ({ frames := 3, cells := 0, slots := 0, locals := 180 } : Room) s m args below meth c 0 0 Q K ad 8 A 122 [(0, .ref (ad 10)), (1, .ref (ad 34)), (2, .int (iI x2)), (4, .int (iI x4_6)), (5, .int (iI x5_7)), (6, .int (iI x6_26)), (7, .int (iI x7_46))] [] (dW D_hasBoard D_beganBlank F_mines F_moves F_changes G_width G_height G_size B_parts B_longest S_groups S_askedGroup S_taken R_waitingCount R_metCount A_grade A_cell A_mined A_withTotal A_numbers X_low X_high Y_low Y_high F_mined F_number F_state F_cellsIn F_unknownNear F_hitNear F_moveStart F_changed F_waiting F_seen G_near G_nearEnd B_chosen B_partOf B_rest B_unknowns B_partStart B_cells S_minedSet S_safeSet S_partSet S_tally S_askedTally S_groupOf S_groupSize S_links S_linkEnd S_pick S_groupMinedSet S_groupSafeSet O_sums O_nextSums R_found R_openEnds R_need R_waiting R_waits R_common R_met A_number Q_mined Q_all Q_choices Q_term Q_divisor Q_spare X_limbs X_sum Y_limbs_27 Y_sum_47) := by
                    intro n_43
                    induction n_43 using Nat.strongRecOn with
                    | ind n_43 ih_44 =>
                      intro x7_46 Y_sum_47 rx7_46 h
                      replace h := hInv_41 n_43 x7_46 Y_sum_47 rx7_46 h
                      refine wa_iload C 6 rfl dX8_multiply_122 ?_
                      refine wa_iload C 4 rfl dX8_multiply_124 ?_
                      obtain ⟨J_48, h, hJ_48⟩ := h
                      have k_49 : J_48 → WA p l e ({ frames := 3, cells := 0, slots := 0, locals := 180 } : Room) s m args below meth c 0 0 Q K ad 8 A 172 [(0, .ref (ad 10)), (1, .ref (ad 34)), (2, .int (iI x2)), (4, .int (iI x4_6)), (5, .int (iI x5_7)), (6, .int (iI x6_26))] [] (dW D_hasBoard D_beganBlank F_mines F_moves F_changes G_width G_height G_size B_parts B_longest S_groups S_askedGroup S_taken R_waitingCount R_metCount A_grade A_cell A_mined A_withTotal A_numbers X_low X_high Y_low Y_high F_mined F_number F_state F_cellsIn F_unknownNear F_hitNear F_moveStart F_changed F_waiting F_seen G_near G_nearEnd B_chosen B_partOf B_rest B_unknowns B_partStart B_cells S_minedSet S_safeSet S_partSet S_tally S_askedTally S_groupOf S_groupSize S_links S_linkEnd S_pick S_groupMinedSet S_groupSafeSet O_sums O_nextSums R_found R_openEnds R_need R_waiting R_waits R_common R_met A_number Q_mined Q_all Q_choices Q_term Q_divisor Q_spare X_limbs X_sum Y_limbs_27 Y_sum_47) := by
                        intro h
                        replace h := hJ_48 h
                        refine wa_aload_n C 0 rfl dX8_multiply_172 rfl ?_
                        refine wa_getR C 10 3 dW_10 rfl rfl (by decide) okX8 gw_396 dX8_multiply_173 ?_
                        refine wa_iconst C (z := 0) dX8_multiply_176 rfl ?_
                        refine wa_aload_n C 0 rfl dX8_multiply_177 rfl ?_
                        refine wa_getR C 10 0 dW_10 rfl rfl (by decide) okX8 gw_390 dX8_multiply_178 ?_
                        refine wa_iload C 5 rfl dX8_multiply_181 ?_
                        refine wa_bipush C (z := 6) dX8_multiply_183 (by decide) ?_
                        refine wa_imul C dX8_multiply_185 ?_
                        refine wa_bipush C (z := 6) dX8_multiply_186 (by decide) ?_
                        obtain ⟨r_51, h⟩ := h
                        obtain ⟨t_50, h⟩ := h
                        refine wa_copyl C (ws' := fun w9 => (dW D_hasBoard D_beganBlank F_mines F_moves F_changes G_width G_height G_size B_parts B_longest S_groups S_askedGroup S_taken R_waitingCount R_metCount A_grade A_cell A_mined A_withTotal A_numbers X_low X_high Y_low Y_high F_mined F_number F_state F_cellsIn F_unknownNear F_hitNear F_moveStart F_changed F_waiting F_seen G_near G_nearEnd B_chosen B_partOf B_rest B_unknowns B_partStart B_cells S_minedSet S_safeSet S_partSet S_tally S_askedTally S_groupOf S_groupSize S_links S_linkEnd S_pick S_groupMinedSet S_groupSafeSet O_sums O_nextSums R_found R_openEnds R_need R_waiting R_waits R_common R_met A_number Q_mined Q_all Q_choices Q_term Q_divisor Q_spare X_limbs X_sum w9 Y_sum_47)) 61 60 dW_61 dW_60 (by decide) gw_1095 (inR_k 0 rfl) r_51 (inR_k 6 rfl) t_50 (by decide) (by decide) dX8_multiply_188 dWs_60 (fun Y_limbs_52 eY_limbs_52 => ?_)
                        replace h := h Y_limbs_52 eY_limbs_52
                        obtain ⟨r_53, h⟩ := h
                        refine wa_iinc C (lv' := fun w9 => [(6, .int (iI w9)), (0, .ref (ad 10)), (1, .ref (ad 34)), (2, .int (iI x2)), (4, .int (iI x4_6)), (5, .int (iI x5_7))]) 5 rfl dX8_multiply_191 (by decide) (fun _ => rfl) (fun x6_54 ex6_54 => ?_)
                        replace h := h x6_54 ex6_54
                        have rx6_54 : inR x6_54 := by rw [ex6_54]; exact r_53
                        refine wa_goto C (tgt := 88) dX8_multiply_194 (by decide) ?_
                        obtain ⟨n_55, ln_55, h⟩ := h
                        refine wa_sub C [1, 2, 3, 4, 5, 0] rfl ?_
                        exact ih_24 n_55 ln_55 x6_54 Y_limbs_52 Y_sum_47 rx6_54 h
                      refine wa_icmp_gt C (tgt := 172) rx7_46 rx5_7 dX8_multiply_126 (by decide) (fun c_56 => ?_) (fun c_56 => ?_)
                      · replace h := h.1 c_56
                        refine wa_sub C [0, 1, 2, 3, 4, 5] rfl ?_
                        exact k_49 h
                      · replace h := h.2 c_56
                        refine wa_iload C 6 rfl dX8_multiply_129 ?_
                        refine wa_iload C 5 rfl dX8_multiply_131 ?_
                        refine wa_aload_n C 0 rfl dX8_multiply_133 rfl ?_
                        refine wa_getI C 10 1 dW_10 rfl rfl (by decide) okX8 gw_392 dX8_multiply_134 (fun r_57 => ?_)
                        refine wa_isub C dX8_multiply_137 ?_
                        obtain ⟨r_58, h⟩ := h
                        refine wa_icmp_gt C (tgt := 172) rx7_46 r_58 dX8_multiply_138 (by decide) (fun c_59 => ?_) (fun c_59 => ?_)
                        · replace h := h.1 c_59
                          refine wa_sub C [0, 1, 2, 3, 4, 5] rfl ?_
                          exact k_49 h
                        · replace h := h.2 c_59
                          refine wa_aload_n C 0 rfl dX8_multiply_141 rfl ?_
                          refine wa_getR C 10 3 dW_10 rfl rfl (by decide) okX8 gw_396 dX8_multiply_142 ?_
                          refine wa_aload_n C 0 rfl dX8_multiply_145 rfl ?_
                          refine wa_getR C 10 0 dW_10 rfl rfl (by decide) okX8 gw_390 dX8_multiply_146 ?_
                          refine wa_iload C 5 rfl dX8_multiply_149 ?_
                          refine wa_iload C 6 rfl dX8_multiply_151 ?_
                          refine wa_isub C dX8_multiply_153 ?_
                          refine wa_bipush C (z := 6) dX8_multiply_154 (by decide) ?_
                          refine wa_imul C dX8_multiply_156 ?_
                          refine wa_aload_n C 1 rfl dX8_multiply_157 rfl ?_
                          refine wa_iload_n C 2 rfl dX8_multiply_158 rfl ?_
                          refine wa_iload C 6 rfl dX8_multiply_159 ?_
                          refine wa_iadd C dX8_multiply_161 ?_
                          obtain ⟨t_60, h⟩ := h
                          refine wa_iald C 34 dW_34 dX8_multiply_162 t_60.1 t_60.2 (fun v_61 ev_61 rv_61 => ?_)
                          replace h := h v_61 ev_61 rv_61
                          obtain ⟨r_62, h⟩ := h
                          refine wa_callSv C (As := [.ref (ad 61), .ref (ad 60), .int (iI ((x6_26 - x7_46) * 6)), .int (iI v_61)]) (rest := []) (c_X10_addScaled_61_60 l K ad ((x6_26 - x7_46) * 6) v_61 r_62 rv_61 _ h) gw_1107 gw_1105 gw_1106 gw_23 q_X10_addScaled rfl rfl rfl ⟨by decide, by decide⟩ rfl (Nat.le_of_ble_eq_true rfl) dX8_multiply_163 (fun u9 hp => ?_)
                          obtain ⟨Y_sum_63, rfl, h⟩ := hp
                          obtain ⟨r_64, h⟩ := h
                          refine wa_iinc C (lv' := fun w9 => [(7, .int (iI w9)), (0, .ref (ad 10)), (1, .ref (ad 34)), (2, .int (iI x2)), (4, .int (iI x4_6)), (5, .int (iI x5_7)), (6, .int (iI x6_26))]) 6 rfl dX8_multiply_166 (by decide) (fun _ => rfl) (fun x7_65 ex7_65 => ?_)
                          replace h := h x7_65 ex7_65
                          have rx7_65 : inR x7_65 := by rw [ex7_65]; exact r_64
                          refine wa_goto C (tgt := 122) dX8_multiply_169 (by decide) ?_
                          obtain ⟨n_66, ln_66, h⟩ := h
                          refine wa_sub C [1, 2, 3, 4, 5, 6, 0] rfl ?_
                          exact ih_44 n_66 ln_66 x7_65 Y_sum_63 rx7_65 h
                  refine wa_sub C [1, 2, 3, 4, 5, 6, 0] rfl ?_
                  exact k_45 n_42 x7_40 Y_sum_36 rx7_40 h0Inv_41
            refine wa_sub C [1, 2, 3, 5, 6, 0] rfl ?_
            exact k_25 n_22 x6_20 Y_limbs Y_sum rx6_20 h0Inv_21
          · replace h := h.2 c_18
            refine wa_sub C [0] rfl ?_
            exact k_11 h
      · replace h := h.2 c_9
        refine wa_aload_n C 1 rfl dX8_multiply_15 rfl ?_
        refine wa_iload_n C 2 rfl dX8_multiply_16 rfl ?_
        refine wa_iload C 6 rfl dX8_multiply_17 ?_
        refine wa_iadd C dX8_multiply_19 ?_
        obtain ⟨t_67, h⟩ := h
        refine wa_iald C 34 dW_34 dX8_multiply_20 t_67.1 t_67.2 (fun v_68 ev_68 rv_68 => ?_)
        replace h := h v_68 ev_68 rv_68
        obtain ⟨J_69, h, hJ_69⟩ := h
        have k_70 : ∀ (x4_71 : Int) (x5_72 : Int), inR x4_71 → inR x5_72 → J_69 x4_71 x5_72 → WA p l e ({ frames := 3, cells := 0, slots := 0, locals := 180 } : Room) s m args below meth c 0 0 Q K ad 8 A 43 [(0, .ref (ad 10)), (1, .ref (ad 34)), (2, .int (iI x2)), (3, .int (iI x3)), (4, .int (iI x4_71)), (5, .int (iI x5_72)), (6, .int (iI x6_8))] [] (dW D_hasBoard D_beganBlank F_mines F_moves F_changes G_width G_height G_size B_parts B_longest S_groups S_askedGroup S_taken R_waitingCount R_metCount A_grade A_cell A_mined A_withTotal A_numbers X_low X_high Y_low Y_high F_mined F_number F_state F_cellsIn F_unknownNear F_hitNear F_moveStart F_changed F_waiting F_seen G_near G_nearEnd B_chosen B_partOf B_rest B_unknowns B_partStart B_cells S_minedSet S_safeSet S_partSet S_tally S_askedTally S_groupOf S_groupSize S_links S_linkEnd S_pick S_groupMinedSet S_groupSafeSet O_sums O_nextSums R_found R_openEnds R_need R_waiting R_waits R_common R_met A_number Q_mined Q_all Q_choices Q_term Q_divisor Q_spare X_limbs X_sum Y_limbs Y_sum) := by
          intro x4_71 x5_72 rx4_71 rx5_72 h
          replace h := hJ_69 x4_71 x5_72 rx4_71 rx5_72 h
          obtain ⟨r_73, h⟩ := h
          refine wa_iinc C (lv' := fun w9 => [(6, .int (iI w9)), (0, .ref (ad 10)), (1, .ref (ad 34)), (2, .int (iI x2)), (3, .int (iI x3)), (4, .int (iI x4_71)), (5, .int (iI x5_72))]) 6 rfl dX8_multiply_43 (by decide) (fun _ => rfl) (fun x6_74 ex6_74 => ?_)
          replace h := h x6_74 ex6_74
          have rx6_74 : inR x6_74 := by rw [ex6_74]; exact r_73
          refine wa_goto C (tgt := 9) dX8_multiply_46 (by decide) ?_
          obtain ⟨n_75, ln_75, h⟩ := h
          refine wa_sub C [1, 2, 3, 4, 5, 6, 0] rfl ?_
          exact ih_4 n_75 ln_75 x4_71 x5_72 x6_74 rx4_71 rx5_72 rx6_74 h
        refine wa_if_eq C (tgt := 43) rv_68 dX8_multiply_21 (by decide) (fun c_76 => ?_) (fun c_76 => ?_)
        · replace h := h.1 c_76
          refine wa_sub C [0, 1, 2, 3, 4, 5, 6] rfl ?_
          exact k_70 x4_6 x5_7 rx4_6 rx5_7 h
        · replace h := h.2 c_76
          refine wa_iload C 4 rfl dX8_multiply_24 ?_
          refine wa_iconst C (z := -1) dX8_multiply_26 rfl ?_
          obtain ⟨J_77, h, hJ_77⟩ := h
          have k_78 : ∀ (z_79 : Int), inR z_79 → J_77 z_79 → WA p l e ({ frames := 3, cells := 0, slots := 0, locals := 180 } : Room) s m args below meth c 0 0 Q K ad 8 A 37 [(0, .ref (ad 10)), (1, .ref (ad 34)), (2, .int (iI x2)), (3, .int (iI x3)), (6, .int (iI x6_8))] [.int (iI z_79)] (dW D_hasBoard D_beganBlank F_mines F_moves F_changes G_width G_height G_size B_parts B_longest S_groups S_askedGroup S_taken R_waitingCount R_metCount A_grade A_cell A_mined A_withTotal A_numbers X_low X_high Y_low Y_high F_mined F_number F_state F_cellsIn F_unknownNear F_hitNear F_moveStart F_changed F_waiting F_seen G_near G_nearEnd B_chosen B_partOf B_rest B_unknowns B_partStart B_cells S_minedSet S_safeSet S_partSet S_tally S_askedTally S_groupOf S_groupSize S_links S_linkEnd S_pick S_groupMinedSet S_groupSafeSet O_sums O_nextSums R_found R_openEnds R_need R_waiting R_waits R_common R_met A_number Q_mined Q_all Q_choices Q_term Q_divisor Q_spare X_limbs X_sum Y_limbs Y_sum) := by
            intro z_79 rz_79 h
            replace h := hJ_77 z_79 rz_79 h
            refine wa_istore C dX8_multiply_37 (by decide) rfl ?_
            refine wa_iload C 5 rfl dX8_multiply_39 ?_
            refine wa_istore C dX8_multiply_41 (by decide) rfl ?_
            refine wa_sub C [2, 3, 4, 5, 1, 0, 6] rfl ?_
            exact k_70 z_79 x6_8 rz_79 rx6_8 h
          refine wa_icmp_ne C (tgt := 35) rx4_6 (inR_k (-1) rfl) dX8_multiply_27 (by decide) (fun c_80 => ?_) (fun c_80 => ?_)
          · replace h := h.1 c_80
            refine wa_iload C 4 rfl dX8_multiply_35 ?_
            refine wa_sub C [0, 1, 2, 3, 6] rfl ?_
            exact k_78 x4_6 rx4_6 h
          · replace h := h.2 c_80
            refine wa_iload C 6 rfl dX8_multiply_30 ?_
            refine wa_goto C (tgt := 37) dX8_multiply_32 (by decide) ?_
            refine wa_sub C [0, 1, 2, 3, 6] rfl ?_
            exact k_78 x6_8 rx6_8 h
  refine wa_sub C [3, 4, 5, 6, 2, 1, 0] rfl ?_
  exact k_5 n_2 (-1) (-1) 0 (inR_k (-1) rfl) (inR_k (-1) rfl) (inR_k 0 rfl) h0Inv_1
def P_X10_addScaled_59_58 (post : (Int → Int64) → Prop) (X_limbs : Int → Int64) (X_sum : Int → Int64) (x2 : Int) (x3 : Int) : Prop :=
  ∃ Inv_1 : Nat → (Int64) → (Int) → (Int → Int64) → Prop, (∃ n_2 : Nat, Inv_1 n_2 (0 : Int64) 0 X_sum) ∧ ∀ (n_3 : Nat) (x4_6 : Int64) (x6_7 : Int) (X_sum_8 : Int → Int64), inR x6_7 → Inv_1 n_3 x4_6 x6_7 X_sum_8 → ((6 ≤ x6_7 → (post X_sum_8)) ∧ (¬ 6 ≤ x6_7 → ((0 ≤ x6_7 ∧ x6_7 < 6) ∧ (∀ v_11 : Int64, v_11 = X_sum_8 x6_7 → ((0 ≤ (x2 + x6_7) ∧ (x2 + x6_7) < 870) ∧ (∀ v_13 : Int64, v_13 = X_limbs (x2 + x6_7) → (∀ x4_14 : Int64, x4_14 = (x4_6 + (v_11 + (v_13 * (Int64.ofInt x3)))) → ((0 ≤ x6_7 ∧ x6_7 < 6) ∧ (∀ X_sum_16 : Int → Int64, X_sum_16 = upZ X_sum_8 x6_7 (x4_14 &&& (2147483647 : Int64)) → (∀ x4_17 : Int64, x4_17 = (ushrL x4_14 31) → (inR (x6_7 + 1) ∧ (∀ x6_19 : Int, x6_19 = (x6_7 + 1) → (∃ n_20 : Nat, n_20 < n_3 ∧ Inv_1 n_20 x4_17 x6_19 X_sum_16)))))))))))))
set_option maxRecDepth 100000 in
set_option maxHeartbeats 4000000 in
theorem c_X10_addScaled_59_58 (l : Launch) (K : wK) (ad : Nat → Nat) {D_hasBoard : Int} {D_beganBlank : Int} {F_mines : Int} {F_moves : Int} {F_changes : Int} {G_width : Int} {G_height : Int} {G_size : Int} {B_parts : Int} {B_longest : Int} {S_groups : Int} {S_askedGroup : Int} {S_taken : Int} {R_waitingCount : Int} {R_metCount : Int} {A_grade : Int} {A_cell : Int} {A_mined : Int} {A_withTotal : Int} {A_numbers : Int} {X_low : Int} {X_high : Int} {Y_low : Int} {Y_high : Int} {F_mined : Int → Int} {F_number : Int → Int} {F_state : Int → Int} {F_cellsIn : Int → Int} {F_unknownNear : Int → Int} {F_hitNear : Int → Int} {F_moveStart : Int → Int} {F_changed : Int → Int} {F_waiting : Int → Int} {F_seen : Int → Int} {G_near : Int → Int} {G_nearEnd : Int → Int} {B_chosen : Int → Int} {B_partOf : Int → Int} {B_rest : Int → Int} {B_unknowns : Int → Int} {B_partStart : Int → Int} {B_cells : Int → Int} {S_minedSet : Int → Int} {S_safeSet : Int → Int} {S_partSet : Int → Int} {S_tally : Int → Int} {S_askedTally : Int → Int} {S_groupOf : Int → Int} {S_groupSize : Int → Int} {S_links : Int → Int} {S_linkEnd : Int → Int} {S_pick : Int → Int} {S_groupMinedSet : Int → Int} {S_groupSafeSet : Int → Int} {O_sums : Int → Int64} {O_nextSums : Int → Int64} {R_found : Int → Int} {R_openEnds : Int → Int} {R_need : Int → Int} {R_waiting : Int → Int} {R_waits : Int → Int} {R_common : Int → Int} {R_met : Int → Int} {A_number : Int → Int} {Q_mined : Int → Int64} {Q_all : Int → Int64} {Q_choices : Int → Int64} {Q_term : Int → Int64} {Q_divisor : Int → Int64} {Q_spare : Int → Int64} {X_limbs : Int → Int64} {X_sum : Int → Int64} {Y_limbs : Int → Int64} {Y_sum : Int → Int64} (x2 : Int) (x3 : Int) (rx2 : inR x2) (rx3 : inR x3) (post : (Int → Int64) → Prop) (h : P_X10_addScaled_59_58 post X_limbs X_sum x2 x3) : mV l yX10_addScaled (Cond.code yX10_addScaled cX10_addScaled 7 none :: GT) ({ frames := 2, cells := 0, slots := 0, locals := 120 } : Room) [.ref (ad 59), .ref (ad 58), .int (iI x2), .int (iI x3)] K ad (dW D_hasBoard D_beganBlank F_mines F_moves F_changes G_width G_height G_size B_parts B_longest S_groups S_askedGroup S_taken R_waitingCount R_metCount A_grade A_cell A_mined A_withTotal A_numbers X_low X_high Y_low Y_high F_mined F_number F_state F_cellsIn F_unknownNear F_hitNear F_moveStart F_changed F_waiting F_seen G_near G_nearEnd B_chosen B_partOf B_rest B_unknowns B_partStart B_cells S_minedSet S_safeSet S_partSet S_tally S_askedTally S_groupOf S_groupSize S_links S_linkEnd S_pick S_groupMinedSet S_groupSafeSet O_sums O_nextSums R_found R_openEnds R_need R_waiting R_waits R_common R_met A_number Q_mined Q_all Q_choices Q_term Q_divisor Q_spare X_limbs X_sum Y_limbs Y_sum) (fun u9 => ∃ X_sum9, u9 = (dW D_hasBoard D_beganBlank F_mines F_moves F_changes G_width G_height G_size B_parts B_longest S_groups S_askedGroup S_taken R_waitingCount R_metCount A_grade A_cell A_mined A_withTotal A_numbers X_low X_high Y_low Y_high F_mined F_number F_state F_cellsIn F_unknownNear F_hitNear F_moveStart F_changed F_waiting F_seen G_near G_nearEnd B_chosen B_partOf B_rest B_unknowns B_partStart B_cells S_minedSet S_safeSet S_partSet S_tally S_askedTally S_groupOf S_groupSize S_links S_linkEnd S_pick S_groupMinedSet S_groupSafeSet O_sums O_nextSums R_found R_openEnds R_need R_waiting R_waits R_common R_met A_number Q_mined Q_all Q_choices Q_term Q_divisor Q_spare X_limbs X_sum9 Y_limbs Y_sum) ∧ post X_sum9) := by
  refine mV_of (lv0 := [(0, .ref (ad 59)), (1, .ref (ad 58)), (2, .int (iI x2)), (3, .int (iI x3))]) (by decide) (Nat.le_of_ble_eq_true rfl) rfl ?_
  intro p e s m args below meth c Q A C ret
  replace C : Cx p ({ frames := 2, cells := 0, slots := 0, locals := 120 } : Room) m c 0 0 cX10_addScaled 7 s args RX10 K A := C
  unfold P_X10_addScaled_59_58 at h
  refine wa_lconst C (v := 0) dX10_addScaled_0 rfl ?_
  refine wa_lstore C dX10_addScaled_1 (by decide) rfl ?_
  refine wa_iconst C (z := 0) dX10_addScaled_3 rfl ?_
  refine wa_istore C dX10_addScaled_4 (by decide) rfl ?_
  obtain ⟨Inv_1, ⟨n_2, h0Inv_1⟩, hInv_1⟩ := h
  have k_5 : ∀ (n_3 : Nat) (x4_6 : Int64) (x6_7 : Int) (X_sum_8 : Int → Int64), inR x6_7 → Inv_1 n_3 x4_6 x6_7 X_sum_8 → WA p l e ({ frames := 2, cells := 0, slots := 0, locals := 120 } : Room) s m args below meth c 0 0 Q K ad 7 A 6 [(0, .ref (ad 59)), (1, .ref (ad 58)), (2, .int (iI x2)), (3, .int (iI x3)), (4, .long x4_6), (6, .int (iI x6_7))] [] (dW D_hasBoard D_beganBlank F_mines F_moves F_changes G_width G_height G_size B_parts B_longest S_groups S_askedGroup S_taken R_waitingCount R_metCount A_grade A_cell A_mined A_withTotal A_numbers X_low X_high Y_low Y_high F_mined F_number F_state F_cellsIn F_unknownNear F_hitNear F_moveStart F_changed F_waiting F_seen G_near G_nearEnd B_chosen B_partOf B_rest B_unknowns B_partStart B_cells S_minedSet S_safeSet S_partSet S_tally S_askedTally S_groupOf S_groupSize S_links S_linkEnd S_pick S_groupMinedSet S_groupSafeSet O_sums O_nextSums R_found R_openEnds R_need R_waiting R_waits R_common R_met A_number Q_mined Q_all Q_choices Q_term Q_divisor Q_spare X_limbs X_sum_8 Y_limbs Y_sum) := by
    intro n_3
    induction n_3 using Nat.strongRecOn with
    | ind n_3 ih_4 =>
      intro x4_6 x6_7 X_sum_8 rx6_7 h
      replace h := hInv_1 n_3 x4_6 x6_7 X_sum_8 rx6_7 h
      refine wa_iload C 5 rfl dX10_addScaled_6 ?_
      refine wa_bipush C (z := 6) dX10_addScaled_8 (by decide) ?_
      refine wa_icmp_ge C (tgt := 55) rx6_7 (inR_k 6 rfl) dX10_addScaled_10 (by decide) (fun c_9 => ?_) (fun c_9 => ?_)
      · replace h := h.1 c_9
        exact ret dX10_addScaled_55 ⟨_, rfl, h⟩
      · replace h := h.2 c_9
        refine wa_lload C 4 rfl dX10_addScaled_13 ?_
        refine wa_aload_n C 0 rfl dX10_addScaled_15 rfl ?_
        refine wa_iload C 5 rfl dX10_addScaled_16 ?_
        obtain ⟨t_10, h⟩ := h
        refine wa_lald C 59 dW_59 dX10_addScaled_18 t_10.1 t_10.2 (fun v_11 ev_11 => ?_)
        replace h := h v_11 ev_11
        refine wa_aload_n C 1 rfl dX10_addScaled_19 rfl ?_
        refine wa_iload_n C 2 rfl dX10_addScaled_20 rfl ?_
        refine wa_iload C 5 rfl dX10_addScaled_21 ?_
        refine wa_iadd C dX10_addScaled_23 ?_
        obtain ⟨t_12, h⟩ := h
        refine wa_lald C 58 dW_58 dX10_addScaled_24 t_12.1 t_12.2 (fun v_13 ev_13 => ?_)
        replace h := h v_13 ev_13
        refine wa_iload_n C 3 rfl dX10_addScaled_25 rfl ?_
        refine wa_i2l C rx3 dX10_addScaled_26 ?_
        refine wa_lmul C dX10_addScaled_27 ?_
        refine wa_ladd C dX10_addScaled_28 ?_
        refine wa_ladd C dX10_addScaled_29 ?_
        refine wa_nml (fun x4_14 ex4_14 => ?_)
        replace h := h x4_14 ex4_14
        refine wa_lstore C dX10_addScaled_30 (by decide) rfl ?_
        refine wa_aload_n C 1 rfl dX10_addScaled_32 rfl ?_
        refine wa_iload C 5 rfl dX10_addScaled_33 ?_
        refine wa_lload C 0 rfl dX10_addScaled_35 ?_
        refine wa_ldc2 C gw_1108 dX10_addScaled_37 ?_
        refine wa_land C dX10_addScaled_40 ?_
        obtain ⟨t_15, h⟩ := h
        refine wa_last C (ws' := fun w9 => (dW D_hasBoard D_beganBlank F_mines F_moves F_changes G_width G_height G_size B_parts B_longest S_groups S_askedGroup S_taken R_waitingCount R_metCount A_grade A_cell A_mined A_withTotal A_numbers X_low X_high Y_low Y_high F_mined F_number F_state F_cellsIn F_unknownNear F_hitNear F_moveStart F_changed F_waiting F_seen G_near G_nearEnd B_chosen B_partOf B_rest B_unknowns B_partStart B_cells S_minedSet S_safeSet S_partSet S_tally S_askedTally S_groupOf S_groupSize S_links S_linkEnd S_pick S_groupMinedSet S_groupSafeSet O_sums O_nextSums R_found R_openEnds R_need R_waiting R_waits R_common R_met A_number Q_mined Q_all Q_choices Q_term Q_divisor Q_spare X_limbs w9 Y_limbs Y_sum)) 59 dW_59 dX10_addScaled_41 t_15.1 t_15.2 dWs_59 (fun X_sum_16 eX_sum_16 => ?_)
        replace h := h X_sum_16 eX_sum_16
        refine wa_lload C 0 rfl dX10_addScaled_42 ?_
        refine wa_bipush C (z := 31) dX10_addScaled_44 (by decide) ?_
        refine wa_lushr C dX10_addScaled_46 ?_
        refine wa_nml (fun x4_17 ex4_17 => ?_)
        replace h := h x4_17 ex4_17
        refine wa_lstore C dX10_addScaled_47 (by decide) rfl ?_
        obtain ⟨r_18, h⟩ := h
        refine wa_iinc C (lv' := fun w9 => [(6, .int (iI w9)), (4, .long x4_17), (0, .ref (ad 59)), (1, .ref (ad 58)), (2, .int (iI x2)), (3, .int (iI x3))]) 5 rfl dX10_addScaled_49 (by decide) (fun _ => rfl) (fun x6_19 ex6_19 => ?_)
        replace h := h x6_19 ex6_19
        have rx6_19 : inR x6_19 := by rw [ex6_19]; exact r_18
        refine wa_goto C (tgt := 6) dX10_addScaled_52 (by decide) ?_
        obtain ⟨n_20, ln_20, h⟩ := h
        refine wa_sub C [2, 3, 4, 5, 1, 0] rfl ?_
        exact ih_4 n_20 ln_20 x4_17 x6_19 X_sum_16 rx6_19 h
  refine wa_sub C [2, 3, 4, 5, 1, 0] rfl ?_
  exact k_5 n_2 (0 : Int64) 0 X_sum (inR_k 0 rfl) h0Inv_1
def P_X8_multiply_9_33 (post : (Int) → (Int) → (Int → Int64) → (Int → Int64) → Prop) (X_low : Int) (X_high : Int) (S_tally : Int → Int) (X_limbs : Int → Int64) (X_sum : Int → Int64) (x2 : Int) (x3 : Int) : Prop :=
  ∃ Inv_1 : Nat → (Int) → (Int) → (Int) → Prop, (∃ n_2 : Nat, Inv_1 n_2 (-1) (-1) 0) ∧ ∀ (n_3 : Nat) (x4_6 : Int) (x5_7 : Int) (x6_8 : Int), inR x4_6 → inR x5_7 → inR x6_8 → Inv_1 n_3 x4_6 x5_7 x6_8 → ((x3 < x6_8 → (∃ J_10 : Prop, ((x4_6 = (-1) → (J_10)) ∧ (¬ x4_6 = (-1) → (inR (X_high + x5_7) ∧ (((X_high + x5_7) ≤ 144 → (∀ x6_20 : Int, x6_20 = (X_high + x5_7) → (∃ Inv_21 : Nat → (Int) → (Int → Int64) → (Int → Int64) → Prop, (∃ n_22 : Nat, Inv_21 n_22 x6_20 X_limbs X_sum) ∧ ∀ (n_23 : Nat) (x6_26 : Int) (X_limbs_27 : Int → Int64) (X_sum_28 : Int → Int64), inR x6_26 → Inv_21 n_23 x6_26 X_limbs_27 X_sum_28 → (inR (X_low + x4_6) ∧ ((x6_26 < (X_low + x4_6) → (∀ X_low_33 : Int, X_low_33 = (X_low + x4_6) → (∀ X_high_35 : Int, X_high_35 = (X_high + x5_7) → (post X_low_33 X_high_35 X_limbs_27 X_sum_28)))) ∧ (¬ x6_26 < (X_low + x4_6) → (P_J7_fill_d0a16_59 (fun (X_sum_36 : Int → Int64) => (inR (x6_26 - X_high) ∧ (inR (if x4_6 < (x6_26 - X_high) then (x6_26 - X_high) else x4_6) ∧ (∀ x7_40 : Int, x7_40 = (if x4_6 < (x6_26 - X_high) then (x6_26 - X_high) else x4_6) → (∃ Inv_41 : Nat → (Int) → (Int → Int64) → Prop, (∃ n_42 : Nat, Inv_41 n_42 x7_40 X_sum_36) ∧ ∀ (n_43 : Nat) (x7_46 : Int) (X_sum_47 : Int → Int64), inR x7_46 → Inv_41 n_43 x7_46 X_sum_47 → (∃ J_48 : Prop, ((x5_7 < x7_46 → (J_48)) ∧ (¬ x5_7 < x7_46 → (inR (x6_26 - X_low) ∧ (((x6_26 - X_low) < x7_46 → (J_48)) ∧ (¬ (x6_26 - X_low) < x7_46 → ((0 ≤ (x2 + x7_46) ∧ (x2 + x7_46) < 288) ∧ (∀ v_61 : Int, v_61 = S_tally (x2 + x7_46) → inR v_61 → (inR ((x6_26 - x7_46) * 6) ∧ (P_X10_addScaled_59_58 (fun (X_sum_63 : Int → Int64) => (inR (x7_46 + 1) ∧ (∀ x7_65 : Int, x7_65 = (x7_46 + 1) → (∃ n_66 : Nat, n_66 < n_43 ∧ Inv_41 n_66 x7_65 X_sum_63)))) X_limbs_27 X_sum_47 ((x6_26 - x7_46) * 6) v_61))))))))) ∧ (J_48 → (inR (x6_26 * 6) ∧ (((0 : Int) ≤ 0 ∧ (0 : Int) ≤ (x6_26 * 6) ∧ (0 : Int) ≤ 6 ∧ (0 : Int) + 6 ≤ 6 ∧ ((x6_26 * 6) : Int) + 6 ≤ 870) ∧ (∀ X_limbs_52 : Int → Int64, X_limbs_52 = cpZ X_sum_47 X_limbs_27 0 (x6_26 * 6) 6 → (inR (x6_26 + (-1)) ∧ (∀ x6_54 : Int, x6_54 = (x6_26 + (-1)) → (∃ n_55 : Nat, n_55 < n_23 ∧ Inv_21 n_55 x6_54 X_limbs_52 X_sum_47))))))))))))) X_sum_28 (0 : Int64)))))))) ∧ (¬ (X_high + x5_7) ≤ 144 → (J_10)))))) ∧ (J_10 → (inR (X_low - 1) ∧ (∀ X_high_14 : Int, X_high_14 = (X_low - 1) → (post X_low X_high_14 X_limbs X_sum)))))) ∧ (¬ x3 < x6_8 → ((0 ≤ (x2 + x6_8) ∧ (x2 + x6_8) < 288) ∧ (∀ v_68 : Int, v_68 = S_tally (x2 + x6_8) → inR v_68 → (∃ J_69 : (Int) → (Int) → Prop, ((v_68 = 0 → (J_69 x4_6 x5_7)) ∧ (¬ v_68 = 0 → (∃ J_77 : (Int) → Prop, ((¬ x4_6 = (-1) → (J_77 x4_6)) ∧ (x4_6 = (-1) → (J_77 x6_8))) ∧ (∀ (z_79 : Int), inR z_79 → J_77 z_79 → (J_69 z_79 x6_8))))) ∧ (∀ (x4_71 : Int) (x5_72 : Int), inR x4_71 → inR x5_72 → J_69 x4_71 x5_72 → (inR (x6_8 + 1) ∧ (∀ x6_74 : Int, x6_74 = (x6_8 + 1) → (∃ n_75 : Nat, n_75 < n_3 ∧ Inv_1 n_75 x4_71 x5_72 x6_74)))))))))
set_option maxRecDepth 100000 in
set_option maxHeartbeats 4000000 in
theorem c_X8_multiply_9_33 (l : Launch) (K : wK) (ad : Nat → Nat) {D_hasBoard : Int} {D_beganBlank : Int} {F_mines : Int} {F_moves : Int} {F_changes : Int} {G_width : Int} {G_height : Int} {G_size : Int} {B_parts : Int} {B_longest : Int} {S_groups : Int} {S_askedGroup : Int} {S_taken : Int} {R_waitingCount : Int} {R_metCount : Int} {A_grade : Int} {A_cell : Int} {A_mined : Int} {A_withTotal : Int} {A_numbers : Int} {X_low : Int} {X_high : Int} {Y_low : Int} {Y_high : Int} {F_mined : Int → Int} {F_number : Int → Int} {F_state : Int → Int} {F_cellsIn : Int → Int} {F_unknownNear : Int → Int} {F_hitNear : Int → Int} {F_moveStart : Int → Int} {F_changed : Int → Int} {F_waiting : Int → Int} {F_seen : Int → Int} {G_near : Int → Int} {G_nearEnd : Int → Int} {B_chosen : Int → Int} {B_partOf : Int → Int} {B_rest : Int → Int} {B_unknowns : Int → Int} {B_partStart : Int → Int} {B_cells : Int → Int} {S_minedSet : Int → Int} {S_safeSet : Int → Int} {S_partSet : Int → Int} {S_tally : Int → Int} {S_askedTally : Int → Int} {S_groupOf : Int → Int} {S_groupSize : Int → Int} {S_links : Int → Int} {S_linkEnd : Int → Int} {S_pick : Int → Int} {S_groupMinedSet : Int → Int} {S_groupSafeSet : Int → Int} {O_sums : Int → Int64} {O_nextSums : Int → Int64} {R_found : Int → Int} {R_openEnds : Int → Int} {R_need : Int → Int} {R_waiting : Int → Int} {R_waits : Int → Int} {R_common : Int → Int} {R_met : Int → Int} {A_number : Int → Int} {Q_mined : Int → Int64} {Q_all : Int → Int64} {Q_choices : Int → Int64} {Q_term : Int → Int64} {Q_divisor : Int → Int64} {Q_spare : Int → Int64} {X_limbs : Int → Int64} {X_sum : Int → Int64} {Y_limbs : Int → Int64} {Y_sum : Int → Int64} (x2 : Int) (x3 : Int) (rx2 : inR x2) (rx3 : inR x3) (post : (Int) → (Int) → (Int → Int64) → (Int → Int64) → Prop) (h : P_X8_multiply_9_33 post X_low X_high S_tally X_limbs X_sum x2 x3) : mV l yX8_multiply (Cond.code yX8_multiply cX8_multiply 8 none :: GT) ({ frames := 3, cells := 0, slots := 0, locals := 180 } : Room) [.ref (ad 9), .ref (ad 33), .int (iI x2), .int (iI x3)] K ad (dW D_hasBoard D_beganBlank F_mines F_moves F_changes G_width G_height G_size B_parts B_longest S_groups S_askedGroup S_taken R_waitingCount R_metCount A_grade A_cell A_mined A_withTotal A_numbers X_low X_high Y_low Y_high F_mined F_number F_state F_cellsIn F_unknownNear F_hitNear F_moveStart F_changed F_waiting F_seen G_near G_nearEnd B_chosen B_partOf B_rest B_unknowns B_partStart B_cells S_minedSet S_safeSet S_partSet S_tally S_askedTally S_groupOf S_groupSize S_links S_linkEnd S_pick S_groupMinedSet S_groupSafeSet O_sums O_nextSums R_found R_openEnds R_need R_waiting R_waits R_common R_met A_number Q_mined Q_all Q_choices Q_term Q_divisor Q_spare X_limbs X_sum Y_limbs Y_sum) (fun u9 => ∃ X_low9 X_high9 X_limbs9 X_sum9, u9 = (dW D_hasBoard D_beganBlank F_mines F_moves F_changes G_width G_height G_size B_parts B_longest S_groups S_askedGroup S_taken R_waitingCount R_metCount A_grade A_cell A_mined A_withTotal A_numbers X_low9 X_high9 Y_low Y_high F_mined F_number F_state F_cellsIn F_unknownNear F_hitNear F_moveStart F_changed F_waiting F_seen G_near G_nearEnd B_chosen B_partOf B_rest B_unknowns B_partStart B_cells S_minedSet S_safeSet S_partSet S_tally S_askedTally S_groupOf S_groupSize S_links S_linkEnd S_pick S_groupMinedSet S_groupSafeSet O_sums O_nextSums R_found R_openEnds R_need R_waiting R_waits R_common R_met A_number Q_mined Q_all Q_choices Q_term Q_divisor Q_spare X_limbs9 X_sum9 Y_limbs Y_sum) ∧ post X_low9 X_high9 X_limbs9 X_sum9) := by
  refine mV_of (lv0 := [(0, .ref (ad 9)), (1, .ref (ad 33)), (2, .int (iI x2)), (3, .int (iI x3))]) (by decide) (Nat.le_of_ble_eq_true rfl) rfl ?_
  intro p e s m args below meth c Q A C ret
  replace C : Cx p ({ frames := 3, cells := 0, slots := 0, locals := 180 } : Room) m c 0 0 cX8_multiply 8 s args RX8 K A := C
  unfold P_X8_multiply_9_33 at h
  refine wa_iconst C (z := -1) dX8_multiply_0 rfl ?_
  refine wa_istore C dX8_multiply_1 (by decide) rfl ?_
  refine wa_iconst C (z := -1) dX8_multiply_3 rfl ?_
  refine wa_istore C dX8_multiply_4 (by decide) rfl ?_
  refine wa_iconst C (z := 0) dX8_multiply_6 rfl ?_
  refine wa_istore C dX8_multiply_7 (by decide) rfl ?_
  obtain ⟨Inv_1, ⟨n_2, h0Inv_1⟩, hInv_1⟩ := h
  have k_5 : ∀ (n_3 : Nat) (x4_6 : Int) (x5_7 : Int) (x6_8 : Int), inR x4_6 → inR x5_7 → inR x6_8 → Inv_1 n_3 x4_6 x5_7 x6_8 → WA p l e ({ frames := 3, cells := 0, slots := 0, locals := 180 } : Room) s m args below meth c 0 0 Q K ad 8 A 9 [(0, .ref (ad 9)), (1, .ref (ad 33)), (2, .int (iI x2)), (3, .int (iI x3)), (4, .int (iI x4_6)), (5, .int (iI x5_7)), (6, .int (iI x6_8))] [] (dW D_hasBoard D_beganBlank F_mines F_moves F_changes G_width G_height G_size B_parts B_longest S_groups S_askedGroup S_taken R_waitingCount R_metCount A_grade A_cell A_mined A_withTotal A_numbers X_low X_high Y_low Y_high F_mined F_number F_state F_cellsIn F_unknownNear F_hitNear F_moveStart F_changed F_waiting F_seen G_near G_nearEnd B_chosen B_partOf B_rest B_unknowns B_partStart B_cells S_minedSet S_safeSet S_partSet S_tally S_askedTally S_groupOf S_groupSize S_links S_linkEnd S_pick S_groupMinedSet S_groupSafeSet O_sums O_nextSums R_found R_openEnds R_need R_waiting R_waits R_common R_met A_number Q_mined Q_all Q_choices Q_term Q_divisor Q_spare X_limbs X_sum Y_limbs Y_sum) := by
    intro n_3
    induction n_3 using Nat.strongRecOn with
    | ind n_3 ih_4 =>
      intro x4_6 x5_7 x6_8 rx4_6 rx5_7 rx6_8 h
      replace h := hInv_1 n_3 x4_6 x5_7 x6_8 rx4_6 rx5_7 rx6_8 h
      refine wa_iload C 6 rfl dX8_multiply_9 ?_
      refine wa_iload_n C 3 rfl dX8_multiply_11 rfl ?_
      refine wa_icmp_gt C (tgt := 49) rx6_8 rx3 dX8_multiply_12 (by decide) (fun c_9 => ?_) (fun c_9 => ?_)
      · replace h := h.1 c_9
        refine wa_iload C 4 rfl dX8_multiply_49 ?_
        refine wa_iconst C (z := -1) dX8_multiply_51 rfl ?_
        obtain ⟨J_10, h, hJ_10⟩ := h
        have k_11 : J_10 → WA p l e ({ frames := 3, cells := 0, slots := 0, locals := 180 } : Room) s m args below meth c 0 0 Q K ad 8 A 68 [(0, .ref (ad 9))] [] (dW D_hasBoard D_beganBlank F_mines F_moves F_changes G_width G_height G_size B_parts B_longest S_groups S_askedGroup S_taken R_waitingCount R_metCount A_grade A_cell A_mined A_withTotal A_numbers X_low X_high Y_low Y_high F_mined F_number F_state F_cellsIn F_unknownNear F_hitNear F_moveStart F_changed F_waiting F_seen G_near G_nearEnd B_chosen B_partOf B_rest B_unknowns B_partStart B_cells S_minedSet S_safeSet S_partSet S_tally S_askedTally S_groupOf S_groupSize S_links S_linkEnd S_pick S_groupMinedSet S_groupSafeSet O_sums O_nextSums R_found R_openEnds R_need R_waiting R_waits R_common R_met A_number Q_mined Q_all Q_choices Q_term Q_divisor Q_spare X_limbs X_sum Y_limbs Y_sum) := by
          intro h
          replace h := hJ_10 h
          refine wa_aload_n C 0 rfl dX8_multiply_68 rfl ?_
          refine wa_aload_n C 0 rfl dX8_multiply_69 rfl ?_
          refine wa_getI C 9 1 dW_9 rfl rfl (by decide) okX8 gw_392 dX8_multiply_70 (fun r_12 => ?_)
          refine wa_iconst C (z := 1) dX8_multiply_73 rfl ?_
          refine wa_isub C dX8_multiply_74 ?_
          obtain ⟨r_13, h⟩ := h
          refine wa_nmi (fun X_high_14 eX_high_14 => ?_)
          replace h := h X_high_14 eX_high_14
          have rX_high_14 : inR X_high_14 := by rw [eX_high_14]; exact r_13
          refine wa_putI C (ws' := (dW D_hasBoard D_beganBlank F_mines F_moves F_changes G_width G_height G_size B_parts B_longest S_groups S_askedGroup S_taken R_waitingCount R_metCount A_grade A_cell A_mined A_withTotal A_numbers X_low X_high_14 Y_low Y_high F_mined F_number F_state F_cellsIn F_unknownNear F_hitNear F_moveStart F_changed F_waiting F_seen G_near G_nearEnd B_chosen B_partOf B_rest B_unknowns B_partStart B_cells S_minedSet S_safeSet S_partSet S_tally S_askedTally S_groupOf S_groupSize S_links S_linkEnd S_pick S_groupMinedSet S_groupSafeSet O_sums O_nextSums R_found R_openEnds R_need R_waiting R_waits R_common R_met A_number Q_mined Q_all Q_choices Q_term Q_divisor Q_spare X_limbs X_sum Y_limbs Y_sum)) 9 2 dW_9 rfl (by decide) okX8 gw_394 rfl rfl (Nat.le_of_ble_eq_true rfl) rX_high_14 (dWp_9_2 _) dX8_multiply_75 ?_
          exact ret dX8_multiply_78 ⟨_, _, _, _, rfl, h⟩
        refine wa_icmp_eq C (tgt := 68) rx4_6 (inR_k (-1) rfl) dX8_multiply_52 (by decide) (fun c_15 => ?_) (fun c_15 => ?_)
        · replace h := h.1 c_15
          refine wa_sub C [0] rfl ?_
          exact k_11 h
        · replace h := h.2 c_15
          refine wa_aload_n C 0 rfl dX8_multiply_55 rfl ?_
          refine wa_getI C 9 2 dW_9 rfl rfl (by decide) okX8 gw_394 dX8_multiply_56 (fun r_16 => ?_)
          refine wa_iload C 5 rfl dX8_multiply_59 ?_
          refine wa_iadd C dX8_multiply_61 ?_
          refine wa_sipush C (z := 144) dX8_multiply_62 (by decide) ?_
          obtain ⟨r_17, h⟩ := h
          refine wa_icmp_le C (tgt := 79) r_17 (inR_k 144 rfl) dX8_multiply_65 (by decide) (fun c_18 => ?_) (fun c_18 => ?_)
          · replace h := h.1 c_18
            refine wa_aload_n C 0 rfl dX8_multiply_79 rfl ?_
            refine wa_getI C 9 2 dW_9 rfl rfl (by decide) okX8 gw_394 dX8_multiply_80 (fun r_19 => ?_)
            refine wa_iload C 5 rfl dX8_multiply_83 ?_
            refine wa_iadd C dX8_multiply_85 ?_
            refine wa_nmi (fun x6_20 ex6_20 => ?_)
            replace h := h x6_20 ex6_20
            have rx6_20 : inR x6_20 := by rw [ex6_20]; exact r_17
            refine wa_istore C dX8_multiply_86 (by decide) rfl ?_
            obtain ⟨Inv_21, ⟨n_22, h0Inv_21⟩, hInv_21⟩ := h
            have k_25 : ∀ (n_23 : Nat) (x6_26 : Int) (X_limbs_27 : Int → Int64) (X_sum_28 : Int → Int64), inR x6_26 → Inv_21 n_23 x6_26 X_limbs_27 X_sum_28 → WA p l e ({ frames := 3, cells := 0, slots := 0, locals := 180 } : Room) s m args below meth c 0 0 Q K ad 8 A 88 [(0, .ref (ad 9)), (1, .ref (ad 33)), (2, .int (iI x2)), (4, .int (iI x4_6)), (5, .int (iI x5_7)), (6, .int (iI x6_26))] [] (dW D_hasBoard D_beganBlank F_mines F_moves F_changes G_width G_height G_size B_parts B_longest S_groups S_askedGroup S_taken R_waitingCount R_metCount A_grade A_cell A_mined A_withTotal A_numbers X_low X_high Y_low Y_high F_mined F_number F_state F_cellsIn F_unknownNear F_hitNear F_moveStart F_changed F_waiting F_seen G_near G_nearEnd B_chosen B_partOf B_rest B_unknowns B_partStart B_cells S_minedSet S_safeSet S_partSet S_tally S_askedTally S_groupOf S_groupSize S_links S_linkEnd S_pick S_groupMinedSet S_groupSafeSet O_sums O_nextSums R_found R_openEnds R_need R_waiting R_waits R_common R_met A_number Q_mined Q_all Q_choices Q_term Q_divisor Q_spare X_limbs_27 X_sum_28 Y_limbs Y_sum) := by
              intro n_23
              induction n_23 using Nat.strongRecOn with
              | ind n_23 ih_24 =>
                intro x6_26 X_limbs_27 X_sum_28 rx6_26 h
                replace h := hInv_21 n_23 x6_26 X_limbs_27 X_sum_28 rx6_26 h
                refine wa_iload C 5 rfl dX8_multiply_88 ?_
                refine wa_aload_n C 0 rfl dX8_multiply_90 rfl ?_
                refine wa_getI C 9 1 dW_9 rfl rfl (by decide) okX8 gw_392 dX8_multiply_91 (fun r_29 => ?_)
                refine wa_iload C 3 rfl dX8_multiply_94 ?_
                refine wa_iadd C dX8_multiply_96 ?_
                obtain ⟨r_30, h⟩ := h
                refine wa_icmp_lt C (tgt := 197) rx6_26 r_30 dX8_multiply_97 (by decide) (fun c_31 => ?_) (fun c_31 => ?_)
                · replace h := h.1 c_31
                  refine wa_aload_n C 0 rfl dX8_multiply_197 rfl ?_
                  refine wa_dup C dX8_multiply_198 rfl ?_
                  refine wa_getI C 9 1 dW_9 rfl rfl (by decide) okX8 gw_392 dX8_multiply_199 (fun r_32 => ?_)
                  refine wa_iload C 3 rfl dX8_multiply_202 ?_
                  refine wa_iadd C dX8_multiply_204 ?_
                  refine wa_nmi (fun X_low_33 eX_low_33 => ?_)
                  replace h := h X_low_33 eX_low_33
                  have rX_low_33 : inR X_low_33 := by rw [eX_low_33]; exact r_30
                  refine wa_putI C (ws' := (dW D_hasBoard D_beganBlank F_mines F_moves F_changes G_width G_height G_size B_parts B_longest S_groups S_askedGroup S_taken R_waitingCount R_metCount A_grade A_cell A_mined A_withTotal A_numbers X_low_33 X_high Y_low Y_high F_mined F_number F_state F_cellsIn F_unknownNear F_hitNear F_moveStart F_changed F_waiting F_seen G_near G_nearEnd B_chosen B_partOf B_rest B_unknowns B_partStart B_cells S_minedSet S_safeSet S_partSet S_tally S_askedTally S_groupOf S_groupSize S_links S_linkEnd S_pick S_groupMinedSet S_groupSafeSet O_sums O_nextSums R_found R_openEnds R_need R_waiting R_waits R_common R_met A_number Q_mined Q_all Q_choices Q_term Q_divisor Q_spare X_limbs_27 X_sum_28 Y_limbs Y_sum)) 9 1 dW_9 rfl (by decide) okX8 gw_392 rfl rfl (Nat.le_of_ble_eq_true rfl) rX_low_33 (dWp_9_1 _) dX8_multiply_205 ?_
                  refine wa_aload_n C 0 rfl dX8_multiply_208 rfl ?_
                  refine wa_dup C dX8_multiply_209 rfl ?_
                  refine wa_getI C 9 2 dW_9 rfl rfl (by decide) okX8 gw_394 dX8_multiply_210 (fun r_34 => ?_)
                  refine wa_iload C 4 rfl dX8_multiply_213 ?_
                  refine wa_iadd C dX8_multiply_215 ?_
                  refine wa_nmi (fun X_high_35 eX_high_35 => ?_)
                  replace h := h X_high_35 eX_high_35
                  have rX_high_35 : inR X_high_35 := by rw [eX_high_35]; exact r_17
                  refine wa_putI C (ws' := (dW D_hasBoard D_beganBlank F_mines F_moves F_changes G_width G_height G_size B_parts B_longest S_groups S_askedGroup S_taken R_waitingCount R_metCount A_grade A_cell A_mined A_withTotal A_numbers X_low_33 X_high_35 Y_low Y_high F_mined F_number F_state F_cellsIn F_unknownNear F_hitNear F_moveStart F_changed F_waiting F_seen G_near G_nearEnd B_chosen B_partOf B_rest B_unknowns B_partStart B_cells S_minedSet S_safeSet S_partSet S_tally S_askedTally S_groupOf S_groupSize S_links S_linkEnd S_pick S_groupMinedSet S_groupSafeSet O_sums O_nextSums R_found R_openEnds R_need R_waiting R_waits R_common R_met A_number Q_mined Q_all Q_choices Q_term Q_divisor Q_spare X_limbs_27 X_sum_28 Y_limbs Y_sum)) 9 2 dW_9 rfl (by decide) okX8 gw_394 rfl rfl (Nat.le_of_ble_eq_true rfl) rX_high_35 (dWp_9_2 _) dX8_multiply_216 ?_
                  exact ret dX8_multiply_219 ⟨_, _, _, _, rfl, h⟩
                · replace h := h.2 c_31
                  refine wa_aload_n C 0 rfl dX8_multiply_100 rfl ?_
                  refine wa_getR C 9 3 dW_9 rfl rfl (by decide) okX8 gw_396 dX8_multiply_101 ?_
                  refine wa_lconst C (v := 0) dX8_multiply_104 rfl ?_
                  refine wa_callSv C (As := [.ref (ad 59), .long (0 : Int64)]) (rest := []) (c_J7_fill_d0a16_59 l K ad (0 : Int64) _ h) gw_822 gw_1103 gw_821 gw_17 q_J7_fill_d0a16 rfl rfl rfl ⟨by decide, by decide⟩ rfl (Nat.le_of_ble_eq_true rfl) dX8_multiply_105 (fun u9 hp => ?_)
                  obtain ⟨X_sum_36, rfl, h⟩ := hp
                  refine wa_iload C 3 rfl dX8_multiply_108 ?_
                  refine wa_iload C 5 rfl dX8_multiply_110 ?_
                  refine wa_aload_n C 0 rfl dX8_multiply_112 rfl ?_
                  refine wa_getI C 9 2 dW_9 rfl rfl (by decide) okX8 gw_394 dX8_multiply_113 (fun r_37 => ?_)
                  refine wa_isub C dX8_multiply_116 ?_
                  obtain ⟨r_38, h⟩ := h
                  refine wa_max C rx4_6 r_38 gw_1104 gw_744 gw_18 gw_745 (by decide) (Nat.le_of_ble_eq_true rfl) dX8_multiply_117 ?_
                  obtain ⟨r_39, h⟩ := h
                  refine wa_nmi (fun x7_40 ex7_40 => ?_)
                  replace h := h x7_40 ex7_40
                  have rx7_40 : inR x7_40 := by rw [ex7_40]; exact r_39
                  refine wa_istore C dX8_multiply_120 (by decide) rfl ?_
                  obtain ⟨Inv_41, ⟨n_42, h0Inv_41⟩, hInv_41⟩ := h
                  have k_45 : ∀ (n_43 : Nat) (x7_46 : Int) (X_sum_47 : Int → Int64), inR x7_46 → Inv_41 n_43 x7_46 X_sum_47 → WA p l e ({ frames := 3, cells := 0, slots := 0, locals := 180 } : Room) s m args below meth c 0 0 Q K ad 8 A 122 [(0, .ref (ad 9)), (1, .ref (ad 33)), (2, .int (iI x2)), (4, .int (iI x4_6)), (5, .int (iI x5_7)), (6, .int (iI x6_26)), (7, .int (iI x7_46))] [] (dW D_hasBoard D_beganBlank F_mines F_moves F_changes G_width G_height G_size B_parts B_longest S_groups S_askedGroup S_taken R_waitingCount R_metCount A_grade A_cell A_mined A_withTotal A_numbers X_low X_high Y_low Y_high F_mined F_number F_state F_cellsIn F_unknownNear F_hitNear F_moveStart F_changed F_waiting F_seen G_near G_nearEnd B_chosen B_partOf B_rest B_unknowns B_partStart B_cells S_minedSet S_safeSet S_partSet S_tally S_askedTally S_groupOf S_groupSize S_links S_linkEnd S_pick S_groupMinedSet S_groupSafeSet O_sums O_nextSums R_found R_openEnds R_need R_waiting R_waits R_common R_met A_number Q_mined Q_all Q_choices Q_term Q_divisor Q_spare X_limbs_27 X_sum_47 Y_limbs Y_sum) := by
                    intro n_43
                    induction n_43 using Nat.strongRecOn with
                    | ind n_43 ih_44 =>
                      intro x7_46 X_sum_47 rx7_46 h
                      replace h := hInv_41 n_43 x7_46 X_sum_47 rx7_46 h
                      refine wa_iload C 6 rfl dX8_multiply_122 ?_
                      refine wa_iload C 4 rfl dX8_multiply_124 ?_
                      obtain ⟨J_48, h, hJ_48⟩ := h
                      have k_49 : J_48 → WA p l e ({ frames := 3, cells := 0, slots := 0, locals := 180 } : Room) s m args below meth c 0 0 Q K ad 8 A 172 [(0, .ref (ad 9)), (1, .ref (ad 33)), (2, .int (iI x2)), (4, .int (iI x4_6)), (5, .int (iI x5_7)), (6, .int (iI x6_26))] [] (dW D_hasBoard D_beganBlank F_mines F_moves F_changes G_width G_height G_size B_parts B_longest S_groups S_askedGroup S_taken R_waitingCount R_metCount A_grade A_cell A_mined A_withTotal A_numbers X_low X_high Y_low Y_high F_mined F_number F_state F_cellsIn F_unknownNear F_hitNear F_moveStart F_changed F_waiting F_seen G_near G_nearEnd B_chosen B_partOf B_rest B_unknowns B_partStart B_cells S_minedSet S_safeSet S_partSet S_tally S_askedTally S_groupOf S_groupSize S_links S_linkEnd S_pick S_groupMinedSet S_groupSafeSet O_sums O_nextSums R_found R_openEnds R_need R_waiting R_waits R_common R_met A_number Q_mined Q_all Q_choices Q_term Q_divisor Q_spare X_limbs_27 X_sum_47 Y_limbs Y_sum) := by
                        intro h
                        replace h := hJ_48 h
                        refine wa_aload_n C 0 rfl dX8_multiply_172 rfl ?_
                        refine wa_getR C 9 3 dW_9 rfl rfl (by decide) okX8 gw_396 dX8_multiply_173 ?_
                        refine wa_iconst C (z := 0) dX8_multiply_176 rfl ?_
                        refine wa_aload_n C 0 rfl dX8_multiply_177 rfl ?_
                        refine wa_getR C 9 0 dW_9 rfl rfl (by decide) okX8 gw_390 dX8_multiply_178 ?_
                        refine wa_iload C 5 rfl dX8_multiply_181 ?_
                        refine wa_bipush C (z := 6) dX8_multiply_183 (by decide) ?_
                        refine wa_imul C dX8_multiply_185 ?_
                        refine wa_bipush C (z := 6) dX8_multiply_186 (by decide) ?_
                        obtain ⟨r_51, h⟩ := h
                        obtain ⟨t_50, h⟩ := h
                        refine wa_copyl C (ws' := fun w9 => (dW D_hasBoard D_beganBlank F_mines F_moves F_changes G_width G_height G_size B_parts B_longest S_groups S_askedGroup S_taken R_waitingCount R_metCount A_grade A_cell A_mined A_withTotal A_numbers X_low X_high Y_low Y_high F_mined F_number F_state F_cellsIn F_unknownNear F_hitNear F_moveStart F_changed F_waiting F_seen G_near G_nearEnd B_chosen B_partOf B_rest B_unknowns B_partStart B_cells S_minedSet S_safeSet S_partSet S_tally S_askedTally S_groupOf S_groupSize S_links S_linkEnd S_pick S_groupMinedSet S_groupSafeSet O_sums O_nextSums R_found R_openEnds R_need R_waiting R_waits R_common R_met A_number Q_mined Q_all Q_choices Q_term Q_divisor Q_spare w9 X_sum_47 Y_limbs Y_sum)) 59 58 dW_59 dW_58 (by decide) gw_1095 (inR_k 0 rfl) r_51 (inR_k 6 rfl) t_50 (by decide) (by decide) dX8_multiply_188 dWs_58 (fun X_limbs_52 eX_limbs_52 => ?_)
                        replace h := h X_limbs_52 eX_limbs_52
                        obtain ⟨r_53, h⟩ := h
                        refine wa_iinc C (lv' := fun w9 => [(6, .int (iI w9)), (0, .ref (ad 9)), (1, .ref (ad 33)), (2, .int (iI x2)), (4, .int (iI x4_6)), (5, .int (iI x5_7))]) 5 rfl dX8_multiply_191 (by decide) (fun _ => rfl) (fun x6_54 ex6_54 => ?_)
                        replace h := h x6_54 ex6_54
                        have rx6_54 : inR x6_54 := by rw [ex6_54]; exact r_53
                        refine wa_goto C (tgt := 88) dX8_multiply_194 (by decide) ?_
                        obtain ⟨n_55, ln_55, h⟩ := h
                        refine wa_sub C [1, 2, 3, 4, 5, 0] rfl ?_
                        exact ih_24 n_55 ln_55 x6_54 X_limbs_52 X_sum_47 rx6_54 h
                      refine wa_icmp_gt C (tgt := 172) rx7_46 rx5_7 dX8_multiply_126 (by decide) (fun c_56 => ?_) (fun c_56 => ?_)
                      · replace h := h.1 c_56
                        refine wa_sub C [0, 1, 2, 3, 4, 5] rfl ?_
                        exact k_49 h
                      · replace h := h.2 c_56
                        refine wa_iload C 6 rfl dX8_multiply_129 ?_
                        refine wa_iload C 5 rfl dX8_multiply_131 ?_
                        refine wa_aload_n C 0 rfl dX8_multiply_133 rfl ?_
                        refine wa_getI C 9 1 dW_9 rfl rfl (by decide) okX8 gw_392 dX8_multiply_134 (fun r_57 => ?_)
                        refine wa_isub C dX8_multiply_137 ?_
                        obtain ⟨r_58, h⟩ := h
                        refine wa_icmp_gt C (tgt := 172) rx7_46 r_58 dX8_multiply_138 (by decide) (fun c_59 => ?_) (fun c_59 => ?_)
                        · replace h := h.1 c_59
                          refine wa_sub C [0, 1, 2, 3, 4, 5] rfl ?_
                          exact k_49 h
                        · replace h := h.2 c_59
                          refine wa_aload_n C 0 rfl dX8_multiply_141 rfl ?_
                          refine wa_getR C 9 3 dW_9 rfl rfl (by decide) okX8 gw_396 dX8_multiply_142 ?_
                          refine wa_aload_n C 0 rfl dX8_multiply_145 rfl ?_
                          refine wa_getR C 9 0 dW_9 rfl rfl (by decide) okX8 gw_390 dX8_multiply_146 ?_
                          refine wa_iload C 5 rfl dX8_multiply_149 ?_
                          refine wa_iload C 6 rfl dX8_multiply_151 ?_
                          refine wa_isub C dX8_multiply_153 ?_
                          refine wa_bipush C (z := 6) dX8_multiply_154 (by decide) ?_
                          refine wa_imul C dX8_multiply_156 ?_
                          refine wa_aload_n C 1 rfl dX8_multiply_157 rfl ?_
                          refine wa_iload_n C 2 rfl dX8_multiply_158 rfl ?_
                          refine wa_iload C 6 rfl dX8_multiply_159 ?_
                          refine wa_iadd C dX8_multiply_161 ?_
                          obtain ⟨t_60, h⟩ := h
                          refine wa_iald C 33 dW_33 dX8_multiply_162 t_60.1 t_60.2 (fun v_61 ev_61 rv_61 => ?_)
                          replace h := h v_61 ev_61 rv_61
                          obtain ⟨r_62, h⟩ := h
                          refine wa_callSv C (As := [.ref (ad 59), .ref (ad 58), .int (iI ((x6_26 - x7_46) * 6)), .int (iI v_61)]) (rest := []) (c_X10_addScaled_59_58 l K ad ((x6_26 - x7_46) * 6) v_61 r_62 rv_61 _ h) gw_1107 gw_1105 gw_1106 gw_23 q_X10_addScaled rfl rfl rfl ⟨by decide, by decide⟩ rfl (Nat.le_of_ble_eq_true rfl) dX8_multiply_163 (fun u9 hp => ?_)
                          obtain ⟨X_sum_63, rfl, h⟩ := hp
                          obtain ⟨r_64, h⟩ := h
                          refine wa_iinc C (lv' := fun w9 => [(7, .int (iI w9)), (0, .ref (ad 9)), (1, .ref (ad 33)), (2, .int (iI x2)), (4, .int (iI x4_6)), (5, .int (iI x5_7)), (6, .int (iI x6_26))]) 6 rfl dX8_multiply_166 (by decide) (fun _ => rfl) (fun x7_65 ex7_65 => ?_)
                          replace h := h x7_65 ex7_65
                          have rx7_65 : inR x7_65 := by rw [ex7_65]; exact r_64
                          refine wa_goto C (tgt := 122) dX8_multiply_169 (by decide) ?_
                          obtain ⟨n_66, ln_66, h⟩ := h
                          refine wa_sub C [1, 2, 3, 4, 5, 6, 0] rfl ?_
                          exact ih_44 n_66 ln_66 x7_65 X_sum_63 rx7_65 h
                  refine wa_sub C [1, 2, 3, 4, 5, 6, 0] rfl ?_
                  exact k_45 n_42 x7_40 X_sum_36 rx7_40 h0Inv_41
            refine wa_sub C [1, 2, 3, 5, 6, 0] rfl ?_
            exact k_25 n_22 x6_20 X_limbs X_sum rx6_20 h0Inv_21
          · replace h := h.2 c_18
            refine wa_sub C [0] rfl ?_
            exact k_11 h
      · replace h := h.2 c_9
        refine wa_aload_n C 1 rfl dX8_multiply_15 rfl ?_
        refine wa_iload_n C 2 rfl dX8_multiply_16 rfl ?_
        refine wa_iload C 6 rfl dX8_multiply_17 ?_
        refine wa_iadd C dX8_multiply_19 ?_
        obtain ⟨t_67, h⟩ := h
        refine wa_iald C 33 dW_33 dX8_multiply_20 t_67.1 t_67.2 (fun v_68 ev_68 rv_68 => ?_)
        replace h := h v_68 ev_68 rv_68
        obtain ⟨J_69, h, hJ_69⟩ := h
        have k_70 : ∀ (x4_71 : Int) (x5_72 : Int), inR x4_71 → inR x5_72 → J_69 x4_71 x5_72 → WA p l e ({ frames := 3, cells := 0, slots := 0, locals := 180 } : Room) s m args below meth c 0 0 Q K ad 8 A 43 [(0, .ref (ad 9)), (1, .ref (ad 33)), (2, .int (iI x2)), (3, .int (iI x3)), (4, .int (iI x4_71)), (5, .int (iI x5_72)), (6, .int (iI x6_8))] [] (dW D_hasBoard D_beganBlank F_mines F_moves F_changes G_width G_height G_size B_parts B_longest S_groups S_askedGroup S_taken R_waitingCount R_metCount A_grade A_cell A_mined A_withTotal A_numbers X_low X_high Y_low Y_high F_mined F_number F_state F_cellsIn F_unknownNear F_hitNear F_moveStart F_changed F_waiting F_seen G_near G_nearEnd B_chosen B_partOf B_rest B_unknowns B_partStart B_cells S_minedSet S_safeSet S_partSet S_tally S_askedTally S_groupOf S_groupSize S_links S_linkEnd S_pick S_groupMinedSet S_groupSafeSet O_sums O_nextSums R_found R_openEnds R_need R_waiting R_waits R_common R_met A_number Q_mined Q_all Q_choices Q_term Q_divisor Q_spare X_limbs X_sum Y_limbs Y_sum) := by
          intro x4_71 x5_72 rx4_71 rx5_72 h
          replace h := hJ_69 x4_71 x5_72 rx4_71 rx5_72 h
          obtain ⟨r_73, h⟩ := h
          refine wa_iinc C (lv' := fun w9 => [(6, .int (iI w9)), (0, .ref (ad 9)), (1, .ref (ad 33)), (2, .int (iI x2)), (3, .int (iI x3)), (4, .int (iI x4_71)), (5, .int (iI x5_72))]) 6 rfl dX8_multiply_43 (by decide) (fun _ => rfl) (fun x6_74 ex6_74 => ?_)
          replace h := h x6_74 ex6_74
          have rx6_74 : inR x6_74 := by rw [ex6_74]; exact r_73
          refine wa_goto C (tgt := 9) dX8_multiply_46 (by decide) ?_
          obtain ⟨n_75, ln_75, h⟩ := h
          refine wa_sub C [1, 2, 3, 4, 5, 6, 0] rfl ?_
          exact ih_4 n_75 ln_75 x4_71 x5_72 x6_74 rx4_71 rx5_72 rx6_74 h
        refine wa_if_eq C (tgt := 43) rv_68 dX8_multiply_21 (by decide) (fun c_76 => ?_) (fun c_76 => ?_)
        · replace h := h.1 c_76
          refine wa_sub C [0, 1, 2, 3, 4, 5, 6] rfl ?_
          exact k_70 x4_6 x5_7 rx4_6 rx5_7 h
        · replace h := h.2 c_76
          refine wa_iload C 4 rfl dX8_multiply_24 ?_
          refine wa_iconst C (z := -1) dX8_multiply_26 rfl ?_
          obtain ⟨J_77, h, hJ_77⟩ := h
          have k_78 : ∀ (z_79 : Int), inR z_79 → J_77 z_79 → WA p l e ({ frames := 3, cells := 0, slots := 0, locals := 180 } : Room) s m args below meth c 0 0 Q K ad 8 A 37 [(0, .ref (ad 9)), (1, .ref (ad 33)), (2, .int (iI x2)), (3, .int (iI x3)), (6, .int (iI x6_8))] [.int (iI z_79)] (dW D_hasBoard D_beganBlank F_mines F_moves F_changes G_width G_height G_size B_parts B_longest S_groups S_askedGroup S_taken R_waitingCount R_metCount A_grade A_cell A_mined A_withTotal A_numbers X_low X_high Y_low Y_high F_mined F_number F_state F_cellsIn F_unknownNear F_hitNear F_moveStart F_changed F_waiting F_seen G_near G_nearEnd B_chosen B_partOf B_rest B_unknowns B_partStart B_cells S_minedSet S_safeSet S_partSet S_tally S_askedTally S_groupOf S_groupSize S_links S_linkEnd S_pick S_groupMinedSet S_groupSafeSet O_sums O_nextSums R_found R_openEnds R_need R_waiting R_waits R_common R_met A_number Q_mined Q_all Q_choices Q_term Q_divisor Q_spare X_limbs X_sum Y_limbs Y_sum) := by
            intro z_79 rz_79 h
            replace h := hJ_77 z_79 rz_79 h
            refine wa_istore C dX8_multiply_37 (by decide) rfl ?_
            refine wa_iload C 5 rfl dX8_multiply_39 ?_
            refine wa_istore C dX8_multiply_41 (by decide) rfl ?_
            refine wa_sub C [2, 3, 4, 5, 1, 0, 6] rfl ?_
            exact k_70 z_79 x6_8 rz_79 rx6_8 h
          refine wa_icmp_ne C (tgt := 35) rx4_6 (inR_k (-1) rfl) dX8_multiply_27 (by decide) (fun c_80 => ?_) (fun c_80 => ?_)
          · replace h := h.1 c_80
            refine wa_iload C 4 rfl dX8_multiply_35 ?_
            refine wa_sub C [0, 1, 2, 3, 6] rfl ?_
            exact k_78 x4_6 rx4_6 h
          · replace h := h.2 c_80
            refine wa_iload C 6 rfl dX8_multiply_30 ?_
            refine wa_goto C (tgt := 37) dX8_multiply_32 (by decide) ?_
            refine wa_sub C [0, 1, 2, 3, 6] rfl ?_
            exact k_78 x6_8 rx6_8 h
  refine wa_sub C [3, 4, 5, 6, 2, 1, 0] rfl ?_
  exact k_5 n_2 (-1) (-1) 0 (inR_k (-1) rfl) (inR_k (-1) rfl) (inR_k 0 rfl) h0Inv_1
def P_J7_fill_d0a16_54 (post : (Int → Int64) → Prop) (Q_choices : Int → Int64) (x1 : Int64) : Prop :=
  ∃ Inv_1 : Nat → (Int) → (Int → Int64) → Prop, (∃ n_2 : Nat, Inv_1 n_2 0 Q_choices) ∧ ∀ (n_3 : Nat) (x3_6 : Int) (Q_choices_7 : Int → Int64), inR x3_6 → Inv_1 n_3 x3_6 Q_choices_7 → ((6 ≤ x3_6 → (post Q_choices_7)) ∧ (¬ 6 ≤ x3_6 → ((0 ≤ x3_6 ∧ x3_6 < 6) ∧ (∀ Q_choices_10 : Int → Int64, Q_choices_10 = upZ Q_choices_7 x3_6 x1 → (inR (x3_6 + 1) ∧ (∀ x3_12 : Int, x3_12 = (x3_6 + 1) → (∃ n_13 : Nat, n_13 < n_3 ∧ Inv_1 n_13 x3_12 Q_choices_10)))))))
set_option maxRecDepth 100000 in
set_option maxHeartbeats 4000000 in
theorem c_J7_fill_d0a16_54 (l : Launch) (K : wK) (ad : Nat → Nat) {D_hasBoard : Int} {D_beganBlank : Int} {F_mines : Int} {F_moves : Int} {F_changes : Int} {G_width : Int} {G_height : Int} {G_size : Int} {B_parts : Int} {B_longest : Int} {S_groups : Int} {S_askedGroup : Int} {S_taken : Int} {R_waitingCount : Int} {R_metCount : Int} {A_grade : Int} {A_cell : Int} {A_mined : Int} {A_withTotal : Int} {A_numbers : Int} {X_low : Int} {X_high : Int} {Y_low : Int} {Y_high : Int} {F_mined : Int → Int} {F_number : Int → Int} {F_state : Int → Int} {F_cellsIn : Int → Int} {F_unknownNear : Int → Int} {F_hitNear : Int → Int} {F_moveStart : Int → Int} {F_changed : Int → Int} {F_waiting : Int → Int} {F_seen : Int → Int} {G_near : Int → Int} {G_nearEnd : Int → Int} {B_chosen : Int → Int} {B_partOf : Int → Int} {B_rest : Int → Int} {B_unknowns : Int → Int} {B_partStart : Int → Int} {B_cells : Int → Int} {S_minedSet : Int → Int} {S_safeSet : Int → Int} {S_partSet : Int → Int} {S_tally : Int → Int} {S_askedTally : Int → Int} {S_groupOf : Int → Int} {S_groupSize : Int → Int} {S_links : Int → Int} {S_linkEnd : Int → Int} {S_pick : Int → Int} {S_groupMinedSet : Int → Int} {S_groupSafeSet : Int → Int} {O_sums : Int → Int64} {O_nextSums : Int → Int64} {R_found : Int → Int} {R_openEnds : Int → Int} {R_need : Int → Int} {R_waiting : Int → Int} {R_waits : Int → Int} {R_common : Int → Int} {R_met : Int → Int} {A_number : Int → Int} {Q_mined : Int → Int64} {Q_all : Int → Int64} {Q_choices : Int → Int64} {Q_term : Int → Int64} {Q_divisor : Int → Int64} {Q_spare : Int → Int64} {X_limbs : Int → Int64} {X_sum : Int → Int64} {Y_limbs : Int → Int64} {Y_sum : Int → Int64} (x1 : Int64)  (post : (Int → Int64) → Prop) (h : P_J7_fill_d0a16_54 post Q_choices x1) : mV l yJ7_fill_d0a16 (Cond.code yJ7_fill_d0a16 cJ7_fill_d0a16 5 none :: GT) ({ frames := 2, cells := 0, slots := 0, locals := 120 } : Room) [.ref (ad 54), .long x1] K ad (dW D_hasBoard D_beganBlank F_mines F_moves F_changes G_width G_height G_size B_parts B_longest S_groups S_askedGroup S_taken R_waitingCount R_metCount A_grade A_cell A_mined A_withTotal A_numbers X_low X_high Y_low Y_high F_mined F_number F_state F_cellsIn F_unknownNear F_hitNear F_moveStart F_changed F_waiting F_seen G_near G_nearEnd B_chosen B_partOf B_rest B_unknowns B_partStart B_cells S_minedSet S_safeSet S_partSet S_tally S_askedTally S_groupOf S_groupSize S_links S_linkEnd S_pick S_groupMinedSet S_groupSafeSet O_sums O_nextSums R_found R_openEnds R_need R_waiting R_waits R_common R_met A_number Q_mined Q_all Q_choices Q_term Q_divisor Q_spare X_limbs X_sum Y_limbs Y_sum) (fun u9 => ∃ Q_choices9, u9 = (dW D_hasBoard D_beganBlank F_mines F_moves F_changes G_width G_height G_size B_parts B_longest S_groups S_askedGroup S_taken R_waitingCount R_metCount A_grade A_cell A_mined A_withTotal A_numbers X_low X_high Y_low Y_high F_mined F_number F_state F_cellsIn F_unknownNear F_hitNear F_moveStart F_changed F_waiting F_seen G_near G_nearEnd B_chosen B_partOf B_rest B_unknowns B_partStart B_cells S_minedSet S_safeSet S_partSet S_tally S_askedTally S_groupOf S_groupSize S_links S_linkEnd S_pick S_groupMinedSet S_groupSafeSet O_sums O_nextSums R_found R_openEnds R_need R_waiting R_waits R_common R_met A_number Q_mined Q_all Q_choices9 Q_term Q_divisor Q_spare X_limbs X_sum Y_limbs Y_sum) ∧ post Q_choices9) := by
  refine mV_of (lv0 := [(0, .ref (ad 54)), (1, .long x1)]) (by decide) (Nat.le_of_ble_eq_true rfl) rfl ?_
  intro p e s m args below meth c Q A C ret
  replace C : Cx p ({ frames := 2, cells := 0, slots := 0, locals := 120 } : Room) m c 0 0 cJ7_fill_d0a16 5 s args RJ7 K A := C
  unfold P_J7_fill_d0a16_54 at h
  refine wa_iconst C (z := 0) dJ7_fill_d0a16_0 rfl ?_
  refine wa_istore_n C dJ7_fill_d0a16_1 rfl (by decide) rfl ?_
  refine wa_aload_n C 1 rfl dJ7_fill_d0a16_2 rfl ?_
  refine wa_alen C (z := 6) 54 dW_54 rfl dJ7_fill_d0a16_3 ?_
  refine wa_istore C dJ7_fill_d0a16_4 (by decide) rfl ?_
  obtain ⟨Inv_1, ⟨n_2, h0Inv_1⟩, hInv_1⟩ := h
  have k_5 : ∀ (n_3 : Nat) (x3_6 : Int) (Q_choices_7 : Int → Int64), inR x3_6 → Inv_1 n_3 x3_6 Q_choices_7 → WA p l e ({ frames := 2, cells := 0, slots := 0, locals := 120 } : Room) s m args below meth c 0 0 Q K ad 5 A 6 [(0, .ref (ad 54)), (1, .long x1), (3, .int (iI x3_6)), (4, .int (iI 6))] [] (dW D_hasBoard D_beganBlank F_mines F_moves F_changes G_width G_height G_size B_parts B_longest S_groups S_askedGroup S_taken R_waitingCount R_metCount A_grade A_cell A_mined A_withTotal A_numbers X_low X_high Y_low Y_high F_mined F_number F_state F_cellsIn F_unknownNear F_hitNear F_moveStart F_changed F_waiting F_seen G_near G_nearEnd B_chosen B_partOf B_rest B_unknowns B_partStart B_cells S_minedSet S_safeSet S_partSet S_tally S_askedTally S_groupOf S_groupSize S_links S_linkEnd S_pick S_groupMinedSet S_groupSafeSet O_sums O_nextSums R_found R_openEnds R_need R_waiting R_waits R_common R_met A_number Q_mined Q_all Q_choices_7 Q_term Q_divisor Q_spare X_limbs X_sum Y_limbs Y_sum) := by
    intro n_3
    induction n_3 using Nat.strongRecOn with
    | ind n_3 ih_4 =>
      intro x3_6 Q_choices_7 rx3_6 h
      replace h := hInv_1 n_3 x3_6 Q_choices_7 rx3_6 h
      refine wa_iload_n C 2 rfl dJ7_fill_d0a16_6 rfl ?_
      refine wa_iload C 3 rfl dJ7_fill_d0a16_7 ?_
      refine wa_icmp_ge C (tgt := 22) rx3_6 (inR_k 6 rfl) dJ7_fill_d0a16_9 (by decide) (fun c_8 => ?_) (fun c_8 => ?_)
      · replace h := h.1 c_8
        exact ret dJ7_fill_d0a16_22 ⟨_, rfl, h⟩
      · replace h := h.2 c_8
        refine wa_aload_n C 0 rfl dJ7_fill_d0a16_12 rfl ?_
        refine wa_iload_n C 2 rfl dJ7_fill_d0a16_13 rfl ?_
        refine wa_lload_n C 1 rfl dJ7_fill_d0a16_14 rfl ?_
        obtain ⟨t_9, h⟩ := h
        refine wa_last C (ws' := fun w9 => (dW D_hasBoard D_beganBlank F_mines F_moves F_changes G_width G_height G_size B_parts B_longest S_groups S_askedGroup S_taken R_waitingCount R_metCount A_grade A_cell A_mined A_withTotal A_numbers X_low X_high Y_low Y_high F_mined F_number F_state F_cellsIn F_unknownNear F_hitNear F_moveStart F_changed F_waiting F_seen G_near G_nearEnd B_chosen B_partOf B_rest B_unknowns B_partStart B_cells S_minedSet S_safeSet S_partSet S_tally S_askedTally S_groupOf S_groupSize S_links S_linkEnd S_pick S_groupMinedSet S_groupSafeSet O_sums O_nextSums R_found R_openEnds R_need R_waiting R_waits R_common R_met A_number Q_mined Q_all w9 Q_term Q_divisor Q_spare X_limbs X_sum Y_limbs Y_sum)) 54 dW_54 dJ7_fill_d0a16_15 t_9.1 t_9.2 dWs_54 (fun Q_choices_10 eQ_choices_10 => ?_)
        replace h := h Q_choices_10 eQ_choices_10
        obtain ⟨r_11, h⟩ := h
        refine wa_iinc C (lv' := fun w9 => [(3, .int (iI w9)), (0, .ref (ad 54)), (1, .long x1), (4, .int (iI 6))]) 2 rfl dJ7_fill_d0a16_16 (by decide) (fun _ => rfl) (fun x3_12 ex3_12 => ?_)
        replace h := h x3_12 ex3_12
        have rx3_12 : inR x3_12 := by rw [ex3_12]; exact r_11
        refine wa_goto C (tgt := 6) dJ7_fill_d0a16_19 (by decide) ?_
        obtain ⟨n_13, ln_13, h⟩ := h
        refine wa_sub C [1, 2, 0, 3] rfl ?_
        exact ih_4 n_13 ln_13 x3_12 Q_choices_10 rx3_12 h
  refine wa_sub C [2, 3, 1, 0] rfl ?_
  exact k_5 n_2 0 Q_choices (inR_k 0 rfl) h0Inv_1
def P_X10_set_54 (post : (Int → Int64) → Prop) (Q_choices : Int → Int64) (x1 : Int) : Prop :=
  P_J7_fill_d0a16_54 (fun (Q_choices_1 : Int → Int64) => (∀ Q_choices_2 : Int → Int64, Q_choices_2 = upZ Q_choices_1 0 (Int64.ofInt x1) → (post Q_choices_2))) Q_choices (0 : Int64)
set_option maxRecDepth 100000 in
set_option maxHeartbeats 4000000 in
theorem c_X10_set_54 (l : Launch) (K : wK) (ad : Nat → Nat) {D_hasBoard : Int} {D_beganBlank : Int} {F_mines : Int} {F_moves : Int} {F_changes : Int} {G_width : Int} {G_height : Int} {G_size : Int} {B_parts : Int} {B_longest : Int} {S_groups : Int} {S_askedGroup : Int} {S_taken : Int} {R_waitingCount : Int} {R_metCount : Int} {A_grade : Int} {A_cell : Int} {A_mined : Int} {A_withTotal : Int} {A_numbers : Int} {X_low : Int} {X_high : Int} {Y_low : Int} {Y_high : Int} {F_mined : Int → Int} {F_number : Int → Int} {F_state : Int → Int} {F_cellsIn : Int → Int} {F_unknownNear : Int → Int} {F_hitNear : Int → Int} {F_moveStart : Int → Int} {F_changed : Int → Int} {F_waiting : Int → Int} {F_seen : Int → Int} {G_near : Int → Int} {G_nearEnd : Int → Int} {B_chosen : Int → Int} {B_partOf : Int → Int} {B_rest : Int → Int} {B_unknowns : Int → Int} {B_partStart : Int → Int} {B_cells : Int → Int} {S_minedSet : Int → Int} {S_safeSet : Int → Int} {S_partSet : Int → Int} {S_tally : Int → Int} {S_askedTally : Int → Int} {S_groupOf : Int → Int} {S_groupSize : Int → Int} {S_links : Int → Int} {S_linkEnd : Int → Int} {S_pick : Int → Int} {S_groupMinedSet : Int → Int} {S_groupSafeSet : Int → Int} {O_sums : Int → Int64} {O_nextSums : Int → Int64} {R_found : Int → Int} {R_openEnds : Int → Int} {R_need : Int → Int} {R_waiting : Int → Int} {R_waits : Int → Int} {R_common : Int → Int} {R_met : Int → Int} {A_number : Int → Int} {Q_mined : Int → Int64} {Q_all : Int → Int64} {Q_choices : Int → Int64} {Q_term : Int → Int64} {Q_divisor : Int → Int64} {Q_spare : Int → Int64} {X_limbs : Int → Int64} {X_sum : Int → Int64} {Y_limbs : Int → Int64} {Y_sum : Int → Int64} (x1 : Int) (rx1 : inR x1) (post : (Int → Int64) → Prop) (h : P_X10_set_54 post Q_choices x1) : mV l yX10_set (Cond.code yX10_set cX10_set 2 none :: GT) ({ frames := 3, cells := 0, slots := 0, locals := 180 } : Room) [.ref (ad 54), .int (iI x1)] K ad (dW D_hasBoard D_beganBlank F_mines F_moves F_changes G_width G_height G_size B_parts B_longest S_groups S_askedGroup S_taken R_waitingCount R_metCount A_grade A_cell A_mined A_withTotal A_numbers X_low X_high Y_low Y_high F_mined F_number F_state F_cellsIn F_unknownNear F_hitNear F_moveStart F_changed F_waiting F_seen G_near G_nearEnd B_chosen B_partOf B_rest B_unknowns B_partStart B_cells S_minedSet S_safeSet S_partSet S_tally S_askedTally S_groupOf S_groupSize S_links S_linkEnd S_pick S_groupMinedSet S_groupSafeSet O_sums O_nextSums R_found R_openEnds R_need R_waiting R_waits R_common R_met A_number Q_mined Q_all Q_choices Q_term Q_divisor Q_spare X_limbs X_sum Y_limbs Y_sum) (fun u9 => ∃ Q_choices9, u9 = (dW D_hasBoard D_beganBlank F_mines F_moves F_changes G_width G_height G_size B_parts B_longest S_groups S_askedGroup S_taken R_waitingCount R_metCount A_grade A_cell A_mined A_withTotal A_numbers X_low X_high Y_low Y_high F_mined F_number F_state F_cellsIn F_unknownNear F_hitNear F_moveStart F_changed F_waiting F_seen G_near G_nearEnd B_chosen B_partOf B_rest B_unknowns B_partStart B_cells S_minedSet S_safeSet S_partSet S_tally S_askedTally S_groupOf S_groupSize S_links S_linkEnd S_pick S_groupMinedSet S_groupSafeSet O_sums O_nextSums R_found R_openEnds R_need R_waiting R_waits R_common R_met A_number Q_mined Q_all Q_choices9 Q_term Q_divisor Q_spare X_limbs X_sum Y_limbs Y_sum) ∧ post Q_choices9) := by
  refine mV_of (lv0 := [(0, .ref (ad 54)), (1, .int (iI x1))]) (by decide) (Nat.le_of_ble_eq_true rfl) rfl ?_
  intro p e s m args below meth c Q A C ret
  replace C : Cx p ({ frames := 3, cells := 0, slots := 0, locals := 180 } : Room) m c 0 0 cX10_set 2 s args RX10 K A := C
  unfold P_X10_set_54 at h
  refine wa_aload_n C 0 rfl dX10_set_0 rfl ?_
  refine wa_lconst C (v := 0) dX10_set_1 rfl ?_
  refine wa_callSv C (As := [.ref (ad 54), .long (0 : Int64)]) (rest := []) (c_J7_fill_d0a16_54 l K ad (0 : Int64) _ h) gw_822 gw_1094 gw_821 gw_17 q_J7_fill_d0a16 rfl rfl rfl ⟨by decide, by decide⟩ rfl (Nat.le_of_ble_eq_true rfl) dX10_set_2 (fun u9 hp => ?_)
  obtain ⟨Q_choices_1, rfl, h⟩ := hp
  refine wa_aload_n C 0 rfl dX10_set_5 rfl ?_
  refine wa_iconst C (z := 0) dX10_set_6 rfl ?_
  refine wa_iload_n C 1 rfl dX10_set_7 rfl ?_
  refine wa_i2l C rx1 dX10_set_8 ?_
  refine wa_last C (ws' := fun w9 => (dW D_hasBoard D_beganBlank F_mines F_moves F_changes G_width G_height G_size B_parts B_longest S_groups S_askedGroup S_taken R_waitingCount R_metCount A_grade A_cell A_mined A_withTotal A_numbers X_low X_high Y_low Y_high F_mined F_number F_state F_cellsIn F_unknownNear F_hitNear F_moveStart F_changed F_waiting F_seen G_near G_nearEnd B_chosen B_partOf B_rest B_unknowns B_partStart B_cells S_minedSet S_safeSet S_partSet S_tally S_askedTally S_groupOf S_groupSize S_links S_linkEnd S_pick S_groupMinedSet S_groupSafeSet O_sums O_nextSums R_found R_openEnds R_need R_waiting R_waits R_common R_met A_number Q_mined Q_all w9 Q_term Q_divisor Q_spare X_limbs X_sum Y_limbs Y_sum)) 54 dW_54 dX10_set_9 (by decide) (by decide) dWs_54 (fun Q_choices_2 eQ_choices_2 => ?_)
  replace h := h Q_choices_2 eQ_choices_2
  exact ret dX10_set_10 ⟨_, rfl, h⟩
def P_J7_fill_d0a16_55 (post : (Int → Int64) → Prop) (Q_term : Int → Int64) (x1 : Int64) : Prop :=
  ∃ Inv_1 : Nat → (Int) → (Int → Int64) → Prop, (∃ n_2 : Nat, Inv_1 n_2 0 Q_term) ∧ ∀ (n_3 : Nat) (x3_6 : Int) (Q_term_7 : Int → Int64), inR x3_6 → Inv_1 n_3 x3_6 Q_term_7 → ((6 ≤ x3_6 → (post Q_term_7)) ∧ (¬ 6 ≤ x3_6 → ((0 ≤ x3_6 ∧ x3_6 < 6) ∧ (∀ Q_term_10 : Int → Int64, Q_term_10 = upZ Q_term_7 x3_6 x1 → (inR (x3_6 + 1) ∧ (∀ x3_12 : Int, x3_12 = (x3_6 + 1) → (∃ n_13 : Nat, n_13 < n_3 ∧ Inv_1 n_13 x3_12 Q_term_10)))))))
set_option maxRecDepth 100000 in
set_option maxHeartbeats 4000000 in
theorem c_J7_fill_d0a16_55 (l : Launch) (K : wK) (ad : Nat → Nat) {D_hasBoard : Int} {D_beganBlank : Int} {F_mines : Int} {F_moves : Int} {F_changes : Int} {G_width : Int} {G_height : Int} {G_size : Int} {B_parts : Int} {B_longest : Int} {S_groups : Int} {S_askedGroup : Int} {S_taken : Int} {R_waitingCount : Int} {R_metCount : Int} {A_grade : Int} {A_cell : Int} {A_mined : Int} {A_withTotal : Int} {A_numbers : Int} {X_low : Int} {X_high : Int} {Y_low : Int} {Y_high : Int} {F_mined : Int → Int} {F_number : Int → Int} {F_state : Int → Int} {F_cellsIn : Int → Int} {F_unknownNear : Int → Int} {F_hitNear : Int → Int} {F_moveStart : Int → Int} {F_changed : Int → Int} {F_waiting : Int → Int} {F_seen : Int → Int} {G_near : Int → Int} {G_nearEnd : Int → Int} {B_chosen : Int → Int} {B_partOf : Int → Int} {B_rest : Int → Int} {B_unknowns : Int → Int} {B_partStart : Int → Int} {B_cells : Int → Int} {S_minedSet : Int → Int} {S_safeSet : Int → Int} {S_partSet : Int → Int} {S_tally : Int → Int} {S_askedTally : Int → Int} {S_groupOf : Int → Int} {S_groupSize : Int → Int} {S_links : Int → Int} {S_linkEnd : Int → Int} {S_pick : Int → Int} {S_groupMinedSet : Int → Int} {S_groupSafeSet : Int → Int} {O_sums : Int → Int64} {O_nextSums : Int → Int64} {R_found : Int → Int} {R_openEnds : Int → Int} {R_need : Int → Int} {R_waiting : Int → Int} {R_waits : Int → Int} {R_common : Int → Int} {R_met : Int → Int} {A_number : Int → Int} {Q_mined : Int → Int64} {Q_all : Int → Int64} {Q_choices : Int → Int64} {Q_term : Int → Int64} {Q_divisor : Int → Int64} {Q_spare : Int → Int64} {X_limbs : Int → Int64} {X_sum : Int → Int64} {Y_limbs : Int → Int64} {Y_sum : Int → Int64} (x1 : Int64)  (post : (Int → Int64) → Prop) (h : P_J7_fill_d0a16_55 post Q_term x1) : mV l yJ7_fill_d0a16 (Cond.code yJ7_fill_d0a16 cJ7_fill_d0a16 5 none :: GT) ({ frames := 2, cells := 0, slots := 0, locals := 120 } : Room) [.ref (ad 55), .long x1] K ad (dW D_hasBoard D_beganBlank F_mines F_moves F_changes G_width G_height G_size B_parts B_longest S_groups S_askedGroup S_taken R_waitingCount R_metCount A_grade A_cell A_mined A_withTotal A_numbers X_low X_high Y_low Y_high F_mined F_number F_state F_cellsIn F_unknownNear F_hitNear F_moveStart F_changed F_waiting F_seen G_near G_nearEnd B_chosen B_partOf B_rest B_unknowns B_partStart B_cells S_minedSet S_safeSet S_partSet S_tally S_askedTally S_groupOf S_groupSize S_links S_linkEnd S_pick S_groupMinedSet S_groupSafeSet O_sums O_nextSums R_found R_openEnds R_need R_waiting R_waits R_common R_met A_number Q_mined Q_all Q_choices Q_term Q_divisor Q_spare X_limbs X_sum Y_limbs Y_sum) (fun u9 => ∃ Q_term9, u9 = (dW D_hasBoard D_beganBlank F_mines F_moves F_changes G_width G_height G_size B_parts B_longest S_groups S_askedGroup S_taken R_waitingCount R_metCount A_grade A_cell A_mined A_withTotal A_numbers X_low X_high Y_low Y_high F_mined F_number F_state F_cellsIn F_unknownNear F_hitNear F_moveStart F_changed F_waiting F_seen G_near G_nearEnd B_chosen B_partOf B_rest B_unknowns B_partStart B_cells S_minedSet S_safeSet S_partSet S_tally S_askedTally S_groupOf S_groupSize S_links S_linkEnd S_pick S_groupMinedSet S_groupSafeSet O_sums O_nextSums R_found R_openEnds R_need R_waiting R_waits R_common R_met A_number Q_mined Q_all Q_choices Q_term9 Q_divisor Q_spare X_limbs X_sum Y_limbs Y_sum) ∧ post Q_term9) := by
  refine mV_of (lv0 := [(0, .ref (ad 55)), (1, .long x1)]) (by decide) (Nat.le_of_ble_eq_true rfl) rfl ?_
  intro p e s m args below meth c Q A C ret
  replace C : Cx p ({ frames := 2, cells := 0, slots := 0, locals := 120 } : Room) m c 0 0 cJ7_fill_d0a16 5 s args RJ7 K A := C
  unfold P_J7_fill_d0a16_55 at h
  refine wa_iconst C (z := 0) dJ7_fill_d0a16_0 rfl ?_
  refine wa_istore_n C dJ7_fill_d0a16_1 rfl (by decide) rfl ?_
  refine wa_aload_n C 1 rfl dJ7_fill_d0a16_2 rfl ?_
  refine wa_alen C (z := 6) 55 dW_55 rfl dJ7_fill_d0a16_3 ?_
  refine wa_istore C dJ7_fill_d0a16_4 (by decide) rfl ?_
  obtain ⟨Inv_1, ⟨n_2, h0Inv_1⟩, hInv_1⟩ := h
  have k_5 : ∀ (n_3 : Nat) (x3_6 : Int) (Q_term_7 : Int → Int64), inR x3_6 → Inv_1 n_3 x3_6 Q_term_7 → WA p l e ({ frames := 2, cells := 0, slots := 0, locals := 120 } : Room) s m args below meth c 0 0 Q K ad 5 A 6 [(0, .ref (ad 55)), (1, .long x1), (3, .int (iI x3_6)), (4, .int (iI 6))] [] (dW D_hasBoard D_beganBlank F_mines F_moves F_changes G_width G_height G_size B_parts B_longest S_groups S_askedGroup S_taken R_waitingCount R_metCount A_grade A_cell A_mined A_withTotal A_numbers X_low X_high Y_low Y_high F_mined F_number F_state F_cellsIn F_unknownNear F_hitNear F_moveStart F_changed F_waiting F_seen G_near G_nearEnd B_chosen B_partOf B_rest B_unknowns B_partStart B_cells S_minedSet S_safeSet S_partSet S_tally S_askedTally S_groupOf S_groupSize S_links S_linkEnd S_pick S_groupMinedSet S_groupSafeSet O_sums O_nextSums R_found R_openEnds R_need R_waiting R_waits R_common R_met A_number Q_mined Q_all Q_choices Q_term_7 Q_divisor Q_spare X_limbs X_sum Y_limbs Y_sum) := by
    intro n_3
    induction n_3 using Nat.strongRecOn with
    | ind n_3 ih_4 =>
      intro x3_6 Q_term_7 rx3_6 h
      replace h := hInv_1 n_3 x3_6 Q_term_7 rx3_6 h
      refine wa_iload_n C 2 rfl dJ7_fill_d0a16_6 rfl ?_
      refine wa_iload C 3 rfl dJ7_fill_d0a16_7 ?_
      refine wa_icmp_ge C (tgt := 22) rx3_6 (inR_k 6 rfl) dJ7_fill_d0a16_9 (by decide) (fun c_8 => ?_) (fun c_8 => ?_)
      · replace h := h.1 c_8
        exact ret dJ7_fill_d0a16_22 ⟨_, rfl, h⟩
      · replace h := h.2 c_8
        refine wa_aload_n C 0 rfl dJ7_fill_d0a16_12 rfl ?_
        refine wa_iload_n C 2 rfl dJ7_fill_d0a16_13 rfl ?_
        refine wa_lload_n C 1 rfl dJ7_fill_d0a16_14 rfl ?_
        obtain ⟨t_9, h⟩ := h
        refine wa_last C (ws' := fun w9 => (dW D_hasBoard D_beganBlank F_mines F_moves F_changes G_width G_height G_size B_parts B_longest S_groups S_askedGroup S_taken R_waitingCount R_metCount A_grade A_cell A_mined A_withTotal A_numbers X_low X_high Y_low Y_high F_mined F_number F_state F_cellsIn F_unknownNear F_hitNear F_moveStart F_changed F_waiting F_seen G_near G_nearEnd B_chosen B_partOf B_rest B_unknowns B_partStart B_cells S_minedSet S_safeSet S_partSet S_tally S_askedTally S_groupOf S_groupSize S_links S_linkEnd S_pick S_groupMinedSet S_groupSafeSet O_sums O_nextSums R_found R_openEnds R_need R_waiting R_waits R_common R_met A_number Q_mined Q_all Q_choices w9 Q_divisor Q_spare X_limbs X_sum Y_limbs Y_sum)) 55 dW_55 dJ7_fill_d0a16_15 t_9.1 t_9.2 dWs_55 (fun Q_term_10 eQ_term_10 => ?_)
        replace h := h Q_term_10 eQ_term_10
        obtain ⟨r_11, h⟩ := h
        refine wa_iinc C (lv' := fun w9 => [(3, .int (iI w9)), (0, .ref (ad 55)), (1, .long x1), (4, .int (iI 6))]) 2 rfl dJ7_fill_d0a16_16 (by decide) (fun _ => rfl) (fun x3_12 ex3_12 => ?_)
        replace h := h x3_12 ex3_12
        have rx3_12 : inR x3_12 := by rw [ex3_12]; exact r_11
        refine wa_goto C (tgt := 6) dJ7_fill_d0a16_19 (by decide) ?_
        obtain ⟨n_13, ln_13, h⟩ := h
        refine wa_sub C [1, 2, 0, 3] rfl ?_
        exact ih_4 n_13 ln_13 x3_12 Q_term_10 rx3_12 h
  refine wa_sub C [2, 3, 1, 0] rfl ?_
  exact k_5 n_2 0 Q_term (inR_k 0 rfl) h0Inv_1
def P_X10_addProduct_55_60_54 (post : (Int → Int64) → Prop) (Q_choices : Int → Int64) (Q_term : Int → Int64) (Y_limbs : Int → Int64) (x2 : Int) : Prop :=
  ∃ Inv_1 : Nat → (Int) → (Int → Int64) → Prop, (∃ n_2 : Nat, Inv_1 n_2 0 Q_term) ∧ ∀ (n_3 : Nat) (x4_6 : Int) (Q_term_7 : Int → Int64), inR x4_6 → Inv_1 n_3 x4_6 Q_term_7 → ((6 ≤ x4_6 → (post Q_term_7)) ∧ (¬ 6 ≤ x4_6 → ((0 ≤ (x2 + x4_6) ∧ (x2 + x4_6) < 870) ∧ (∀ v_10 : Int64, v_10 = Y_limbs (x2 + x4_6) → (∃ Inv_11 : Nat → (Int64) → (Int) → (Int → Int64) → Prop, (∃ n_12 : Nat, Inv_11 n_12 (0 : Int64) 0 Q_term_7) ∧ ∀ (n_13 : Nat) (x7_16 : Int64) (x9_17 : Int) (Q_term_18 : Int → Int64), inR x9_17 → Inv_11 n_13 x7_16 x9_17 Q_term_18 → (∃ J_19 : Prop, (((lcI v_10 (0 : Int64)) = 0 → (J_19)) ∧ (¬ (lcI v_10 (0 : Int64)) = 0 → (inR (x4_6 + x9_17) ∧ ((6 ≤ (x4_6 + x9_17) → (J_19)) ∧ (¬ 6 ≤ (x4_6 + x9_17) → ((0 ≤ (x4_6 + x9_17) ∧ (x4_6 + x9_17) < 6) ∧ (∀ v_28 : Int64, v_28 = Q_term_18 (x4_6 + x9_17) → ((0 ≤ x9_17 ∧ x9_17 < 6) ∧ (∀ v_30 : Int64, v_30 = Q_choices x9_17 → (∀ x7_31 : Int64, x7_31 = (x7_16 + (v_28 + (v_10 * v_30))) → ((0 ≤ (x4_6 + x9_17) ∧ (x4_6 + x9_17) < 6) ∧ (∀ Q_term_33 : Int → Int64, Q_term_33 = upZ Q_term_18 (x4_6 + x9_17) (x7_31 &&& (2147483647 : Int64)) → (∀ x7_34 : Int64, x7_34 = (ushrL x7_31 31) → (inR (x9_17 + 1) ∧ (∀ x9_36 : Int, x9_36 = (x9_17 + 1) → (∃ n_37 : Nat, n_37 < n_13 ∧ Inv_11 n_37 x7_34 x9_36 Q_term_33)))))))))))))))) ∧ (J_19 → (inR (x4_6 + 1) ∧ (∀ x4_22 : Int, x4_22 = (x4_6 + 1) → (∃ n_23 : Nat, n_23 < n_3 ∧ Inv_1 n_23 x4_22 Q_term_18))))))))))
set_option maxRecDepth 100000 in
set_option maxHeartbeats 4000000 in
theorem c_X10_addProduct_55_60_54 (l : Launch) (K : wK) (ad : Nat → Nat) {D_hasBoard : Int} {D_beganBlank : Int} {F_mines : Int} {F_moves : Int} {F_changes : Int} {G_width : Int} {G_height : Int} {G_size : Int} {B_parts : Int} {B_longest : Int} {S_groups : Int} {S_askedGroup : Int} {S_taken : Int} {R_waitingCount : Int} {R_metCount : Int} {A_grade : Int} {A_cell : Int} {A_mined : Int} {A_withTotal : Int} {A_numbers : Int} {X_low : Int} {X_high : Int} {Y_low : Int} {Y_high : Int} {F_mined : Int → Int} {F_number : Int → Int} {F_state : Int → Int} {F_cellsIn : Int → Int} {F_unknownNear : Int → Int} {F_hitNear : Int → Int} {F_moveStart : Int → Int} {F_changed : Int → Int} {F_waiting : Int → Int} {F_seen : Int → Int} {G_near : Int → Int} {G_nearEnd : Int → Int} {B_chosen : Int → Int} {B_partOf : Int → Int} {B_rest : Int → Int} {B_unknowns : Int → Int} {B_partStart : Int → Int} {B_cells : Int → Int} {S_minedSet : Int → Int} {S_safeSet : Int → Int} {S_partSet : Int → Int} {S_tally : Int → Int} {S_askedTally : Int → Int} {S_groupOf : Int → Int} {S_groupSize : Int → Int} {S_links : Int → Int} {S_linkEnd : Int → Int} {S_pick : Int → Int} {S_groupMinedSet : Int → Int} {S_groupSafeSet : Int → Int} {O_sums : Int → Int64} {O_nextSums : Int → Int64} {R_found : Int → Int} {R_openEnds : Int → Int} {R_need : Int → Int} {R_waiting : Int → Int} {R_waits : Int → Int} {R_common : Int → Int} {R_met : Int → Int} {A_number : Int → Int} {Q_mined : Int → Int64} {Q_all : Int → Int64} {Q_choices : Int → Int64} {Q_term : Int → Int64} {Q_divisor : Int → Int64} {Q_spare : Int → Int64} {X_limbs : Int → Int64} {X_sum : Int → Int64} {Y_limbs : Int → Int64} {Y_sum : Int → Int64} (x2 : Int) (rx2 : inR x2) (post : (Int → Int64) → Prop) (h : P_X10_addProduct_55_60_54 post Q_choices Q_term Y_limbs x2) : mV l yX10_addProduct (Cond.code yX10_addProduct cX10_addProduct 10 none :: GT) ({ frames := 2, cells := 0, slots := 0, locals := 120 } : Room) [.ref (ad 55), .ref (ad 60), .int (iI x2), .ref (ad 54)] K ad (dW D_hasBoard D_beganBlank F_mines F_moves F_changes G_width G_height G_size B_parts B_longest S_groups S_askedGroup S_taken R_waitingCount R_metCount A_grade A_cell A_mined A_withTotal A_numbers X_low X_high Y_low Y_high F_mined F_number F_state F_cellsIn F_unknownNear F_hitNear F_moveStart F_changed F_waiting F_seen G_near G_nearEnd B_chosen B_partOf B_rest B_unknowns B_partStart B_cells S_minedSet S_safeSet S_partSet S_tally S_askedTally S_groupOf S_groupSize S_links S_linkEnd S_pick S_groupMinedSet S_groupSafeSet O_sums O_nextSums R_found R_openEnds R_need R_waiting R_waits R_common R_met A_number Q_mined Q_all Q_choices Q_term Q_divisor Q_spare X_limbs X_sum Y_limbs Y_sum) (fun u9 => ∃ Q_term9, u9 = (dW D_hasBoard D_beganBlank F_mines F_moves F_changes G_width G_height G_size B_parts B_longest S_groups S_askedGroup S_taken R_waitingCount R_metCount A_grade A_cell A_mined A_withTotal A_numbers X_low X_high Y_low Y_high F_mined F_number F_state F_cellsIn F_unknownNear F_hitNear F_moveStart F_changed F_waiting F_seen G_near G_nearEnd B_chosen B_partOf B_rest B_unknowns B_partStart B_cells S_minedSet S_safeSet S_partSet S_tally S_askedTally S_groupOf S_groupSize S_links S_linkEnd S_pick S_groupMinedSet S_groupSafeSet O_sums O_nextSums R_found R_openEnds R_need R_waiting R_waits R_common R_met A_number Q_mined Q_all Q_choices Q_term9 Q_divisor Q_spare X_limbs X_sum Y_limbs Y_sum) ∧ post Q_term9) := by
  refine mV_of (lv0 := [(0, .ref (ad 55)), (1, .ref (ad 60)), (2, .int (iI x2)), (3, .ref (ad 54))]) (by decide) (Nat.le_of_ble_eq_true rfl) rfl ?_
  intro p e s m args below meth c Q A C ret
  replace C : Cx p ({ frames := 2, cells := 0, slots := 0, locals := 120 } : Room) m c 0 0 cX10_addProduct 10 s args RX10 K A := C
  unfold P_X10_addProduct_55_60_54 at h
  refine wa_iconst C (z := 0) dX10_addProduct_0 rfl ?_
  refine wa_istore C dX10_addProduct_1 (by decide) rfl ?_
  obtain ⟨Inv_1, ⟨n_2, h0Inv_1⟩, hInv_1⟩ := h
  have k_5 : ∀ (n_3 : Nat) (x4_6 : Int) (Q_term_7 : Int → Int64), inR x4_6 → Inv_1 n_3 x4_6 Q_term_7 → WA p l e ({ frames := 2, cells := 0, slots := 0, locals := 120 } : Room) s m args below meth c 0 0 Q K ad 10 A 3 [(0, .ref (ad 55)), (1, .ref (ad 60)), (2, .int (iI x2)), (3, .ref (ad 54)), (4, .int (iI x4_6))] [] (dW D_hasBoard D_beganBlank F_mines F_moves F_changes G_width G_height G_size B_parts B_longest S_groups S_askedGroup S_taken R_waitingCount R_metCount A_grade A_cell A_mined A_withTotal A_numbers X_low X_high Y_low Y_high F_mined F_number F_state F_cellsIn F_unknownNear F_hitNear F_moveStart F_changed F_waiting F_seen G_near G_nearEnd B_chosen B_partOf B_rest B_unknowns B_partStart B_cells S_minedSet S_safeSet S_partSet S_tally S_askedTally S_groupOf S_groupSize S_links S_linkEnd S_pick S_groupMinedSet S_groupSafeSet O_sums O_nextSums R_found R_openEnds R_need R_waiting R_waits R_common R_met A_number Q_mined Q_all Q_choices Q_term_7 Q_divisor Q_spare X_limbs X_sum Y_limbs Y_sum) := by
    intro n_3
    induction n_3 using Nat.strongRecOn with
    | ind n_3 ih_4 =>
      intro x4_6 Q_term_7 rx4_6 h
      replace h := hInv_1 n_3 x4_6 Q_term_7 rx4_6 h
      refine wa_iload C 4 rfl dX10_addProduct_3 ?_
      refine wa_bipush C (z := 6) dX10_addProduct_5 (by decide) ?_
      refine wa_icmp_ge C (tgt := 93) rx4_6 (inR_k 6 rfl) dX10_addProduct_7 (by decide) (fun c_8 => ?_) (fun c_8 => ?_)
      · replace h := h.1 c_8
        exact ret dX10_addProduct_93 ⟨_, rfl, h⟩
      · replace h := h.2 c_8
        refine wa_aload_n C 1 rfl dX10_addProduct_10 rfl ?_
        refine wa_iload_n C 2 rfl dX10_addProduct_11 rfl ?_
        refine wa_iload C 4 rfl dX10_addProduct_12 ?_
        refine wa_iadd C dX10_addProduct_14 ?_
        obtain ⟨t_9, h⟩ := h
        refine wa_lald C 60 dW_60 dX10_addProduct_15 t_9.1 t_9.2 (fun v_10 ev_10 => ?_)
        replace h := h v_10 ev_10
        refine wa_lstore C dX10_addProduct_16 (by decide) rfl ?_
        refine wa_lconst C (v := 0) dX10_addProduct_18 rfl ?_
        refine wa_lstore C dX10_addProduct_19 (by decide) rfl ?_
        refine wa_iconst C (z := 0) dX10_addProduct_21 rfl ?_
        refine wa_istore C dX10_addProduct_22 (by decide) rfl ?_
        obtain ⟨Inv_11, ⟨n_12, h0Inv_11⟩, hInv_11⟩ := h
        have k_15 : ∀ (n_13 : Nat) (x7_16 : Int64) (x9_17 : Int) (Q_term_18 : Int → Int64), inR x9_17 → Inv_11 n_13 x7_16 x9_17 Q_term_18 → WA p l e ({ frames := 2, cells := 0, slots := 0, locals := 120 } : Room) s m args below meth c 0 0 Q K ad 10 A 24 [(0, .ref (ad 55)), (1, .ref (ad 60)), (2, .int (iI x2)), (3, .ref (ad 54)), (4, .int (iI x4_6)), (5, .long v_10), (7, .long x7_16), (9, .int (iI x9_17))] [] (dW D_hasBoard D_beganBlank F_mines F_moves F_changes G_width G_height G_size B_parts B_longest S_groups S_askedGroup S_taken R_waitingCount R_metCount A_grade A_cell A_mined A_withTotal A_numbers X_low X_high Y_low Y_high F_mined F_number F_state F_cellsIn F_unknownNear F_hitNear F_moveStart F_changed F_waiting F_seen G_near G_nearEnd B_chosen B_partOf B_rest B_unknowns B_partStart B_cells S_minedSet S_safeSet S_partSet S_tally S_askedTally S_groupOf S_groupSize S_links S_linkEnd S_pick S_groupMinedSet S_groupSafeSet O_sums O_nextSums R_found R_openEnds R_need R_waiting R_waits R_common R_met A_number Q_mined Q_all Q_choices Q_term_18 Q_divisor Q_spare X_limbs X_sum Y_limbs Y_sum) := by
          intro n_13
          induction n_13 using Nat.strongRecOn with
          | ind n_13 ih_14 =>
            intro x7_16 x9_17 Q_term_18 rx9_17 h
            replace h := hInv_11 n_13 x7_16 x9_17 Q_term_18 rx9_17 h
            refine wa_lload C 5 rfl dX10_addProduct_24 ?_
            refine wa_lconst C (v := 0) dX10_addProduct_26 rfl ?_
            refine wa_lcmp C dX10_addProduct_27 ?_
            obtain ⟨J_19, h, hJ_19⟩ := h
            have k_20 : J_19 → WA p l e ({ frames := 2, cells := 0, slots := 0, locals := 120 } : Room) s m args below meth c 0 0 Q K ad 10 A 87 [(0, .ref (ad 55)), (1, .ref (ad 60)), (2, .int (iI x2)), (3, .ref (ad 54)), (4, .int (iI x4_6))] [] (dW D_hasBoard D_beganBlank F_mines F_moves F_changes G_width G_height G_size B_parts B_longest S_groups S_askedGroup S_taken R_waitingCount R_metCount A_grade A_cell A_mined A_withTotal A_numbers X_low X_high Y_low Y_high F_mined F_number F_state F_cellsIn F_unknownNear F_hitNear F_moveStart F_changed F_waiting F_seen G_near G_nearEnd B_chosen B_partOf B_rest B_unknowns B_partStart B_cells S_minedSet S_safeSet S_partSet S_tally S_askedTally S_groupOf S_groupSize S_links S_linkEnd S_pick S_groupMinedSet S_groupSafeSet O_sums O_nextSums R_found R_openEnds R_need R_waiting R_waits R_common R_met A_number Q_mined Q_all Q_choices Q_term_18 Q_divisor Q_spare X_limbs X_sum Y_limbs Y_sum) := by
              intro h
              replace h := hJ_19 h
              obtain ⟨r_21, h⟩ := h
              refine wa_iinc C (lv' := fun w9 => [(4, .int (iI w9)), (0, .ref (ad 55)), (1, .ref (ad 60)), (2, .int (iI x2)), (3, .ref (ad 54))]) 4 rfl dX10_addProduct_87 (by decide) (fun _ => rfl) (fun x4_22 ex4_22 => ?_)
              replace h := h x4_22 ex4_22
              have rx4_22 : inR x4_22 := by rw [ex4_22]; exact r_21
              refine wa_goto C (tgt := 3) dX10_addProduct_90 (by decide) ?_
              obtain ⟨n_23, ln_23, h⟩ := h
              refine wa_sub C [1, 2, 3, 4, 0] rfl ?_
              exact ih_4 n_23 ln_23 x4_22 Q_term_18 rx4_22 h
            refine wa_if_eq C (tgt := 87) (lcI_r _ _) dX10_addProduct_28 (by decide) (fun c_24 => ?_) (fun c_24 => ?_)
            · replace h := h.1 c_24
              refine wa_sub C [0, 1, 2, 3, 4] rfl ?_
              exact k_20 h
            · replace h := h.2 c_24
              refine wa_iload C 4 rfl dX10_addProduct_31 ?_
              refine wa_iload C 7 rfl dX10_addProduct_33 ?_
              refine wa_iadd C dX10_addProduct_35 ?_
              refine wa_bipush C (z := 6) dX10_addProduct_36 (by decide) ?_
              obtain ⟨r_25, h⟩ := h
              refine wa_icmp_ge C (tgt := 87) r_25 (inR_k 6 rfl) dX10_addProduct_38 (by decide) (fun c_26 => ?_) (fun c_26 => ?_)
              · replace h := h.1 c_26
                refine wa_sub C [0, 1, 2, 3, 4] rfl ?_
                exact k_20 h
              · replace h := h.2 c_26
                refine wa_lload C 6 rfl dX10_addProduct_41 ?_
                refine wa_aload_n C 0 rfl dX10_addProduct_43 rfl ?_
                refine wa_iload C 4 rfl dX10_addProduct_44 ?_
                refine wa_iload C 7 rfl dX10_addProduct_46 ?_
                refine wa_iadd C dX10_addProduct_48 ?_
                obtain ⟨t_27, h⟩ := h
                refine wa_lald C 55 dW_55 dX10_addProduct_49 t_27.1 t_27.2 (fun v_28 ev_28 => ?_)
                replace h := h v_28 ev_28
                refine wa_lload C 5 rfl dX10_addProduct_50 ?_
                refine wa_aload_n C 3 rfl dX10_addProduct_52 rfl ?_
                refine wa_iload C 7 rfl dX10_addProduct_53 ?_
                obtain ⟨t_29, h⟩ := h
                refine wa_lald C 54 dW_54 dX10_addProduct_55 t_29.1 t_29.2 (fun v_30 ev_30 => ?_)
                replace h := h v_30 ev_30
                refine wa_lmul C dX10_addProduct_56 ?_
                refine wa_ladd C dX10_addProduct_57 ?_
                refine wa_ladd C dX10_addProduct_58 ?_
                refine wa_nml (fun x7_31 ex7_31 => ?_)
                replace h := h x7_31 ex7_31
                refine wa_lstore C dX10_addProduct_59 (by decide) rfl ?_
                refine wa_aload_n C 1 rfl dX10_addProduct_61 rfl ?_
                refine wa_iload C 5 rfl dX10_addProduct_62 ?_
                refine wa_iload C 7 rfl dX10_addProduct_64 ?_
                refine wa_iadd C dX10_addProduct_66 ?_
                refine wa_lload C 0 rfl dX10_addProduct_67 ?_
                refine wa_ldc2 C gw_1108 dX10_addProduct_69 ?_
                refine wa_land C dX10_addProduct_72 ?_
                obtain ⟨t_32, h⟩ := h
                refine wa_last C (ws' := fun w9 => (dW D_hasBoard D_beganBlank F_mines F_moves F_changes G_width G_height G_size B_parts B_longest S_groups S_askedGroup S_taken R_waitingCount R_metCount A_grade A_cell A_mined A_withTotal A_numbers X_low X_high Y_low Y_high F_mined F_number F_state F_cellsIn F_unknownNear F_hitNear F_moveStart F_changed F_waiting F_seen G_near G_nearEnd B_chosen B_partOf B_rest B_unknowns B_partStart B_cells S_minedSet S_safeSet S_partSet S_tally S_askedTally S_groupOf S_groupSize S_links S_linkEnd S_pick S_groupMinedSet S_groupSafeSet O_sums O_nextSums R_found R_openEnds R_need R_waiting R_waits R_common R_met A_number Q_mined Q_all Q_choices w9 Q_divisor Q_spare X_limbs X_sum Y_limbs Y_sum)) 55 dW_55 dX10_addProduct_73 t_32.1 t_32.2 dWs_55 (fun Q_term_33 eQ_term_33 => ?_)
                replace h := h Q_term_33 eQ_term_33
                refine wa_lload C 0 rfl dX10_addProduct_74 ?_
                refine wa_bipush C (z := 31) dX10_addProduct_76 (by decide) ?_
                refine wa_lushr C dX10_addProduct_78 ?_
                refine wa_nml (fun x7_34 ex7_34 => ?_)
                replace h := h x7_34 ex7_34
                refine wa_lstore C dX10_addProduct_79 (by decide) rfl ?_
                obtain ⟨r_35, h⟩ := h
                refine wa_iinc C (lv' := fun w9 => [(9, .int (iI w9)), (7, .long x7_34), (0, .ref (ad 55)), (1, .ref (ad 60)), (2, .int (iI x2)), (3, .ref (ad 54)), (4, .int (iI x4_6)), (5, .long v_10)]) 7 rfl dX10_addProduct_81 (by decide) (fun _ => rfl) (fun x9_36 ex9_36 => ?_)
                replace h := h x9_36 ex9_36
                have rx9_36 : inR x9_36 := by rw [ex9_36]; exact r_35
                refine wa_goto C (tgt := 24) dX10_addProduct_84 (by decide) ?_
                obtain ⟨n_37, ln_37, h⟩ := h
                refine wa_sub C [2, 3, 4, 5, 6, 7, 1, 0] rfl ?_
                exact ih_14 n_37 ln_37 x7_34 x9_36 Q_term_33 rx9_36 h
        refine wa_sub C [3, 4, 5, 6, 7, 2, 1, 0] rfl ?_
        exact k_15 n_12 (0 : Int64) 0 Q_term_7 (inR_k 0 rfl) h0Inv_11
  refine wa_sub C [1, 2, 3, 4, 0] rfl ?_
  exact k_5 n_2 0 Q_term (inR_k 0 rfl) h0Inv_1
def P_X10_addScaled_52_55 (post : (Int → Int64) → Prop) (Q_mined : Int → Int64) (Q_term : Int → Int64) (x2 : Int) (x3 : Int) : Prop :=
  ∃ Inv_1 : Nat → (Int64) → (Int) → (Int → Int64) → Prop, (∃ n_2 : Nat, Inv_1 n_2 (0 : Int64) 0 Q_mined) ∧ ∀ (n_3 : Nat) (x4_6 : Int64) (x6_7 : Int) (Q_mined_8 : Int → Int64), inR x6_7 → Inv_1 n_3 x4_6 x6_7 Q_mined_8 → ((6 ≤ x6_7 → (post Q_mined_8)) ∧ (¬ 6 ≤ x6_7 → ((0 ≤ x6_7 ∧ x6_7 < 6) ∧ (∀ v_11 : Int64, v_11 = Q_mined_8 x6_7 → ((0 ≤ (x2 + x6_7) ∧ (x2 + x6_7) < 6) ∧ (∀ v_13 : Int64, v_13 = Q_term (x2 + x6_7) → (∀ x4_14 : Int64, x4_14 = (x4_6 + (v_11 + (v_13 * (Int64.ofInt x3)))) → ((0 ≤ x6_7 ∧ x6_7 < 6) ∧ (∀ Q_mined_16 : Int → Int64, Q_mined_16 = upZ Q_mined_8 x6_7 (x4_14 &&& (2147483647 : Int64)) → (∀ x4_17 : Int64, x4_17 = (ushrL x4_14 31) → (inR (x6_7 + 1) ∧ (∀ x6_19 : Int, x6_19 = (x6_7 + 1) → (∃ n_20 : Nat, n_20 < n_3 ∧ Inv_1 n_20 x4_17 x6_19 Q_mined_16)))))))))))))
set_option maxRecDepth 100000 in
set_option maxHeartbeats 4000000 in
theorem c_X10_addScaled_52_55 (l : Launch) (K : wK) (ad : Nat → Nat) {D_hasBoard : Int} {D_beganBlank : Int} {F_mines : Int} {F_moves : Int} {F_changes : Int} {G_width : Int} {G_height : Int} {G_size : Int} {B_parts : Int} {B_longest : Int} {S_groups : Int} {S_askedGroup : Int} {S_taken : Int} {R_waitingCount : Int} {R_metCount : Int} {A_grade : Int} {A_cell : Int} {A_mined : Int} {A_withTotal : Int} {A_numbers : Int} {X_low : Int} {X_high : Int} {Y_low : Int} {Y_high : Int} {F_mined : Int → Int} {F_number : Int → Int} {F_state : Int → Int} {F_cellsIn : Int → Int} {F_unknownNear : Int → Int} {F_hitNear : Int → Int} {F_moveStart : Int → Int} {F_changed : Int → Int} {F_waiting : Int → Int} {F_seen : Int → Int} {G_near : Int → Int} {G_nearEnd : Int → Int} {B_chosen : Int → Int} {B_partOf : Int → Int} {B_rest : Int → Int} {B_unknowns : Int → Int} {B_partStart : Int → Int} {B_cells : Int → Int} {S_minedSet : Int → Int} {S_safeSet : Int → Int} {S_partSet : Int → Int} {S_tally : Int → Int} {S_askedTally : Int → Int} {S_groupOf : Int → Int} {S_groupSize : Int → Int} {S_links : Int → Int} {S_linkEnd : Int → Int} {S_pick : Int → Int} {S_groupMinedSet : Int → Int} {S_groupSafeSet : Int → Int} {O_sums : Int → Int64} {O_nextSums : Int → Int64} {R_found : Int → Int} {R_openEnds : Int → Int} {R_need : Int → Int} {R_waiting : Int → Int} {R_waits : Int → Int} {R_common : Int → Int} {R_met : Int → Int} {A_number : Int → Int} {Q_mined : Int → Int64} {Q_all : Int → Int64} {Q_choices : Int → Int64} {Q_term : Int → Int64} {Q_divisor : Int → Int64} {Q_spare : Int → Int64} {X_limbs : Int → Int64} {X_sum : Int → Int64} {Y_limbs : Int → Int64} {Y_sum : Int → Int64} (x2 : Int) (x3 : Int) (rx2 : inR x2) (rx3 : inR x3) (post : (Int → Int64) → Prop) (h : P_X10_addScaled_52_55 post Q_mined Q_term x2 x3) : mV l yX10_addScaled (Cond.code yX10_addScaled cX10_addScaled 7 none :: GT) ({ frames := 2, cells := 0, slots := 0, locals := 120 } : Room) [.ref (ad 52), .ref (ad 55), .int (iI x2), .int (iI x3)] K ad (dW D_hasBoard D_beganBlank F_mines F_moves F_changes G_width G_height G_size B_parts B_longest S_groups S_askedGroup S_taken R_waitingCount R_metCount A_grade A_cell A_mined A_withTotal A_numbers X_low X_high Y_low Y_high F_mined F_number F_state F_cellsIn F_unknownNear F_hitNear F_moveStart F_changed F_waiting F_seen G_near G_nearEnd B_chosen B_partOf B_rest B_unknowns B_partStart B_cells S_minedSet S_safeSet S_partSet S_tally S_askedTally S_groupOf S_groupSize S_links S_linkEnd S_pick S_groupMinedSet S_groupSafeSet O_sums O_nextSums R_found R_openEnds R_need R_waiting R_waits R_common R_met A_number Q_mined Q_all Q_choices Q_term Q_divisor Q_spare X_limbs X_sum Y_limbs Y_sum) (fun u9 => ∃ Q_mined9, u9 = (dW D_hasBoard D_beganBlank F_mines F_moves F_changes G_width G_height G_size B_parts B_longest S_groups S_askedGroup S_taken R_waitingCount R_metCount A_grade A_cell A_mined A_withTotal A_numbers X_low X_high Y_low Y_high F_mined F_number F_state F_cellsIn F_unknownNear F_hitNear F_moveStart F_changed F_waiting F_seen G_near G_nearEnd B_chosen B_partOf B_rest B_unknowns B_partStart B_cells S_minedSet S_safeSet S_partSet S_tally S_askedTally S_groupOf S_groupSize S_links S_linkEnd S_pick S_groupMinedSet S_groupSafeSet O_sums O_nextSums R_found R_openEnds R_need R_waiting R_waits R_common R_met A_number Q_mined9 Q_all Q_choices Q_term Q_divisor Q_spare X_limbs X_sum Y_limbs Y_sum) ∧ post Q_mined9) := by
  refine mV_of (lv0 := [(0, .ref (ad 52)), (1, .ref (ad 55)), (2, .int (iI x2)), (3, .int (iI x3))]) (by decide) (Nat.le_of_ble_eq_true rfl) rfl ?_
  intro p e s m args below meth c Q A C ret
  replace C : Cx p ({ frames := 2, cells := 0, slots := 0, locals := 120 } : Room) m c 0 0 cX10_addScaled 7 s args RX10 K A := C
  unfold P_X10_addScaled_52_55 at h
  refine wa_lconst C (v := 0) dX10_addScaled_0 rfl ?_
  refine wa_lstore C dX10_addScaled_1 (by decide) rfl ?_
  refine wa_iconst C (z := 0) dX10_addScaled_3 rfl ?_
  refine wa_istore C dX10_addScaled_4 (by decide) rfl ?_
  obtain ⟨Inv_1, ⟨n_2, h0Inv_1⟩, hInv_1⟩ := h
  have k_5 : ∀ (n_3 : Nat) (x4_6 : Int64) (x6_7 : Int) (Q_mined_8 : Int → Int64), inR x6_7 → Inv_1 n_3 x4_6 x6_7 Q_mined_8 → WA p l e ({ frames := 2, cells := 0, slots := 0, locals := 120 } : Room) s m args below meth c 0 0 Q K ad 7 A 6 [(0, .ref (ad 52)), (1, .ref (ad 55)), (2, .int (iI x2)), (3, .int (iI x3)), (4, .long x4_6), (6, .int (iI x6_7))] [] (dW D_hasBoard D_beganBlank F_mines F_moves F_changes G_width G_height G_size B_parts B_longest S_groups S_askedGroup S_taken R_waitingCount R_metCount A_grade A_cell A_mined A_withTotal A_numbers X_low X_high Y_low Y_high F_mined F_number F_state F_cellsIn F_unknownNear F_hitNear F_moveStart F_changed F_waiting F_seen G_near G_nearEnd B_chosen B_partOf B_rest B_unknowns B_partStart B_cells S_minedSet S_safeSet S_partSet S_tally S_askedTally S_groupOf S_groupSize S_links S_linkEnd S_pick S_groupMinedSet S_groupSafeSet O_sums O_nextSums R_found R_openEnds R_need R_waiting R_waits R_common R_met A_number Q_mined_8 Q_all Q_choices Q_term Q_divisor Q_spare X_limbs X_sum Y_limbs Y_sum) := by
    intro n_3
    induction n_3 using Nat.strongRecOn with
    | ind n_3 ih_4 =>
      intro x4_6 x6_7 Q_mined_8 rx6_7 h
      replace h := hInv_1 n_3 x4_6 x6_7 Q_mined_8 rx6_7 h
      refine wa_iload C 5 rfl dX10_addScaled_6 ?_
      refine wa_bipush C (z := 6) dX10_addScaled_8 (by decide) ?_
      refine wa_icmp_ge C (tgt := 55) rx6_7 (inR_k 6 rfl) dX10_addScaled_10 (by decide) (fun c_9 => ?_) (fun c_9 => ?_)
      · replace h := h.1 c_9
        exact ret dX10_addScaled_55 ⟨_, rfl, h⟩
      · replace h := h.2 c_9
        refine wa_lload C 4 rfl dX10_addScaled_13 ?_
        refine wa_aload_n C 0 rfl dX10_addScaled_15 rfl ?_
        refine wa_iload C 5 rfl dX10_addScaled_16 ?_
        obtain ⟨t_10, h⟩ := h
        refine wa_lald C 52 dW_52 dX10_addScaled_18 t_10.1 t_10.2 (fun v_11 ev_11 => ?_)
        replace h := h v_11 ev_11
        refine wa_aload_n C 1 rfl dX10_addScaled_19 rfl ?_
        refine wa_iload_n C 2 rfl dX10_addScaled_20 rfl ?_
        refine wa_iload C 5 rfl dX10_addScaled_21 ?_
        refine wa_iadd C dX10_addScaled_23 ?_
        obtain ⟨t_12, h⟩ := h
        refine wa_lald C 55 dW_55 dX10_addScaled_24 t_12.1 t_12.2 (fun v_13 ev_13 => ?_)
        replace h := h v_13 ev_13
        refine wa_iload_n C 3 rfl dX10_addScaled_25 rfl ?_
        refine wa_i2l C rx3 dX10_addScaled_26 ?_
        refine wa_lmul C dX10_addScaled_27 ?_
        refine wa_ladd C dX10_addScaled_28 ?_
        refine wa_ladd C dX10_addScaled_29 ?_
        refine wa_nml (fun x4_14 ex4_14 => ?_)
        replace h := h x4_14 ex4_14
        refine wa_lstore C dX10_addScaled_30 (by decide) rfl ?_
        refine wa_aload_n C 1 rfl dX10_addScaled_32 rfl ?_
        refine wa_iload C 5 rfl dX10_addScaled_33 ?_
        refine wa_lload C 0 rfl dX10_addScaled_35 ?_
        refine wa_ldc2 C gw_1108 dX10_addScaled_37 ?_
        refine wa_land C dX10_addScaled_40 ?_
        obtain ⟨t_15, h⟩ := h
        refine wa_last C (ws' := fun w9 => (dW D_hasBoard D_beganBlank F_mines F_moves F_changes G_width G_height G_size B_parts B_longest S_groups S_askedGroup S_taken R_waitingCount R_metCount A_grade A_cell A_mined A_withTotal A_numbers X_low X_high Y_low Y_high F_mined F_number F_state F_cellsIn F_unknownNear F_hitNear F_moveStart F_changed F_waiting F_seen G_near G_nearEnd B_chosen B_partOf B_rest B_unknowns B_partStart B_cells S_minedSet S_safeSet S_partSet S_tally S_askedTally S_groupOf S_groupSize S_links S_linkEnd S_pick S_groupMinedSet S_groupSafeSet O_sums O_nextSums R_found R_openEnds R_need R_waiting R_waits R_common R_met A_number w9 Q_all Q_choices Q_term Q_divisor Q_spare X_limbs X_sum Y_limbs Y_sum)) 52 dW_52 dX10_addScaled_41 t_15.1 t_15.2 dWs_52 (fun Q_mined_16 eQ_mined_16 => ?_)
        replace h := h Q_mined_16 eQ_mined_16
        refine wa_lload C 0 rfl dX10_addScaled_42 ?_
        refine wa_bipush C (z := 31) dX10_addScaled_44 (by decide) ?_
        refine wa_lushr C dX10_addScaled_46 ?_
        refine wa_nml (fun x4_17 ex4_17 => ?_)
        replace h := h x4_17 ex4_17
        refine wa_lstore C dX10_addScaled_47 (by decide) rfl ?_
        obtain ⟨r_18, h⟩ := h
        refine wa_iinc C (lv' := fun w9 => [(6, .int (iI w9)), (4, .long x4_17), (0, .ref (ad 52)), (1, .ref (ad 55)), (2, .int (iI x2)), (3, .int (iI x3))]) 5 rfl dX10_addScaled_49 (by decide) (fun _ => rfl) (fun x6_19 ex6_19 => ?_)
        replace h := h x6_19 ex6_19
        have rx6_19 : inR x6_19 := by rw [ex6_19]; exact r_18
        refine wa_goto C (tgt := 6) dX10_addScaled_52 (by decide) ?_
        obtain ⟨n_20, ln_20, h⟩ := h
        refine wa_sub C [2, 3, 4, 5, 1, 0] rfl ?_
        exact ih_4 n_20 ln_20 x4_17 x6_19 Q_mined_16 rx6_19 h
  refine wa_sub C [2, 3, 4, 5, 1, 0] rfl ?_
  exact k_5 n_2 (0 : Int64) 0 Q_mined (inR_k 0 rfl) h0Inv_1
def P_X10_scale_54 (post : (Int → Int64) → Prop) (Q_choices : Int → Int64) (x1 : Int) : Prop :=
  ∃ Inv_1 : Nat → (Int64) → (Int) → (Int → Int64) → Prop, (∃ n_2 : Nat, Inv_1 n_2 (0 : Int64) 0 Q_choices) ∧ ∀ (n_3 : Nat) (x2_6 : Int64) (x4_7 : Int) (Q_choices_8 : Int → Int64), inR x4_7 → Inv_1 n_3 x2_6 x4_7 Q_choices_8 → ((6 ≤ x4_7 → (post Q_choices_8)) ∧ (¬ 6 ≤ x4_7 → ((0 ≤ x4_7 ∧ x4_7 < 6) ∧ (∀ v_11 : Int64, v_11 = Q_choices_8 x4_7 → (∀ x2_12 : Int64, x2_12 = (x2_6 + (v_11 * (Int64.ofInt x1))) → ((0 ≤ x4_7 ∧ x4_7 < 6) ∧ (∀ Q_choices_14 : Int → Int64, Q_choices_14 = upZ Q_choices_8 x4_7 (x2_12 &&& (2147483647 : Int64)) → (∀ x2_15 : Int64, x2_15 = (ushrL x2_12 31) → (inR (x4_7 + 1) ∧ (∀ x4_17 : Int, x4_17 = (x4_7 + 1) → (∃ n_18 : Nat, n_18 < n_3 ∧ Inv_1 n_18 x2_15 x4_17 Q_choices_14)))))))))))
set_option maxRecDepth 100000 in
set_option maxHeartbeats 4000000 in
theorem c_X10_scale_54 (l : Launch) (K : wK) (ad : Nat → Nat) {D_hasBoard : Int} {D_beganBlank : Int} {F_mines : Int} {F_moves : Int} {F_changes : Int} {G_width : Int} {G_height : Int} {G_size : Int} {B_parts : Int} {B_longest : Int} {S_groups : Int} {S_askedGroup : Int} {S_taken : Int} {R_waitingCount : Int} {R_metCount : Int} {A_grade : Int} {A_cell : Int} {A_mined : Int} {A_withTotal : Int} {A_numbers : Int} {X_low : Int} {X_high : Int} {Y_low : Int} {Y_high : Int} {F_mined : Int → Int} {F_number : Int → Int} {F_state : Int → Int} {F_cellsIn : Int → Int} {F_unknownNear : Int → Int} {F_hitNear : Int → Int} {F_moveStart : Int → Int} {F_changed : Int → Int} {F_waiting : Int → Int} {F_seen : Int → Int} {G_near : Int → Int} {G_nearEnd : Int → Int} {B_chosen : Int → Int} {B_partOf : Int → Int} {B_rest : Int → Int} {B_unknowns : Int → Int} {B_partStart : Int → Int} {B_cells : Int → Int} {S_minedSet : Int → Int} {S_safeSet : Int → Int} {S_partSet : Int → Int} {S_tally : Int → Int} {S_askedTally : Int → Int} {S_groupOf : Int → Int} {S_groupSize : Int → Int} {S_links : Int → Int} {S_linkEnd : Int → Int} {S_pick : Int → Int} {S_groupMinedSet : Int → Int} {S_groupSafeSet : Int → Int} {O_sums : Int → Int64} {O_nextSums : Int → Int64} {R_found : Int → Int} {R_openEnds : Int → Int} {R_need : Int → Int} {R_waiting : Int → Int} {R_waits : Int → Int} {R_common : Int → Int} {R_met : Int → Int} {A_number : Int → Int} {Q_mined : Int → Int64} {Q_all : Int → Int64} {Q_choices : Int → Int64} {Q_term : Int → Int64} {Q_divisor : Int → Int64} {Q_spare : Int → Int64} {X_limbs : Int → Int64} {X_sum : Int → Int64} {Y_limbs : Int → Int64} {Y_sum : Int → Int64} (x1 : Int) (rx1 : inR x1) (post : (Int → Int64) → Prop) (h : P_X10_scale_54 post Q_choices x1) : mV l yX10_scale (Cond.code yX10_scale cX10_scale 5 none :: GT) ({ frames := 2, cells := 0, slots := 0, locals := 120 } : Room) [.ref (ad 54), .int (iI x1)] K ad (dW D_hasBoard D_beganBlank F_mines F_moves F_changes G_width G_height G_size B_parts B_longest S_groups S_askedGroup S_taken R_waitingCount R_metCount A_grade A_cell A_mined A_withTotal A_numbers X_low X_high Y_low Y_high F_mined F_number F_state F_cellsIn F_unknownNear F_hitNear F_moveStart F_changed F_waiting F_seen G_near G_nearEnd B_chosen B_partOf B_rest B_unknowns B_partStart B_cells S_minedSet S_safeSet S_partSet S_tally S_askedTally S_groupOf S_groupSize S_links S_linkEnd S_pick S_groupMinedSet S_groupSafeSet O_sums O_nextSums R_found R_openEnds R_need R_waiting R_waits R_common R_met A_number Q_mined Q_all Q_choices Q_term Q_divisor Q_spare X_limbs X_sum Y_limbs Y_sum) (fun u9 => ∃ Q_choices9, u9 = (dW D_hasBoard D_beganBlank F_mines F_moves F_changes G_width G_height G_size B_parts B_longest S_groups S_askedGroup S_taken R_waitingCount R_metCount A_grade A_cell A_mined A_withTotal A_numbers X_low X_high Y_low Y_high F_mined F_number F_state F_cellsIn F_unknownNear F_hitNear F_moveStart F_changed F_waiting F_seen G_near G_nearEnd B_chosen B_partOf B_rest B_unknowns B_partStart B_cells S_minedSet S_safeSet S_partSet S_tally S_askedTally S_groupOf S_groupSize S_links S_linkEnd S_pick S_groupMinedSet S_groupSafeSet O_sums O_nextSums R_found R_openEnds R_need R_waiting R_waits R_common R_met A_number Q_mined Q_all Q_choices9 Q_term Q_divisor Q_spare X_limbs X_sum Y_limbs Y_sum) ∧ post Q_choices9) := by
  refine mV_of (lv0 := [(0, .ref (ad 54)), (1, .int (iI x1))]) (by decide) (Nat.le_of_ble_eq_true rfl) rfl ?_
  intro p e s m args below meth c Q A C ret
  replace C : Cx p ({ frames := 2, cells := 0, slots := 0, locals := 120 } : Room) m c 0 0 cX10_scale 5 s args RX10 K A := C
  unfold P_X10_scale_54 at h
  refine wa_lconst C (v := 0) dX10_scale_0 rfl ?_
  refine wa_lstore_n C dX10_scale_1 rfl (by decide) rfl ?_
  refine wa_iconst C (z := 0) dX10_scale_2 rfl ?_
  refine wa_istore C dX10_scale_3 (by decide) rfl ?_
  obtain ⟨Inv_1, ⟨n_2, h0Inv_1⟩, hInv_1⟩ := h
  have k_5 : ∀ (n_3 : Nat) (x2_6 : Int64) (x4_7 : Int) (Q_choices_8 : Int → Int64), inR x4_7 → Inv_1 n_3 x2_6 x4_7 Q_choices_8 → WA p l e ({ frames := 2, cells := 0, slots := 0, locals := 120 } : Room) s m args below meth c 0 0 Q K ad 5 A 5 [(0, .ref (ad 54)), (1, .int (iI x1)), (2, .long x2_6), (4, .int (iI x4_7))] [] (dW D_hasBoard D_beganBlank F_mines F_moves F_changes G_width G_height G_size B_parts B_longest S_groups S_askedGroup S_taken R_waitingCount R_metCount A_grade A_cell A_mined A_withTotal A_numbers X_low X_high Y_low Y_high F_mined F_number F_state F_cellsIn F_unknownNear F_hitNear F_moveStart F_changed F_waiting F_seen G_near G_nearEnd B_chosen B_partOf B_rest B_unknowns B_partStart B_cells S_minedSet S_safeSet S_partSet S_tally S_askedTally S_groupOf S_groupSize S_links S_linkEnd S_pick S_groupMinedSet S_groupSafeSet O_sums O_nextSums R_found R_openEnds R_need R_waiting R_waits R_common R_met A_number Q_mined Q_all Q_choices_8 Q_term Q_divisor Q_spare X_limbs X_sum Y_limbs Y_sum) := by
    intro n_3
    induction n_3 using Nat.strongRecOn with
    | ind n_3 ih_4 =>
      intro x2_6 x4_7 Q_choices_8 rx4_7 h
      replace h := hInv_1 n_3 x2_6 x4_7 Q_choices_8 rx4_7 h
      refine wa_iload C 3 rfl dX10_scale_5 ?_
      refine wa_bipush C (z := 6) dX10_scale_7 (by decide) ?_
      refine wa_icmp_ge C (tgt := 42) rx4_7 (inR_k 6 rfl) dX10_scale_9 (by decide) (fun c_9 => ?_) (fun c_9 => ?_)
      · replace h := h.1 c_9
        exact ret dX10_scale_42 ⟨_, rfl, h⟩
      · replace h := h.2 c_9
        refine wa_lload_n C 2 rfl dX10_scale_12 rfl ?_
        refine wa_aload_n C 0 rfl dX10_scale_13 rfl ?_
        refine wa_iload C 3 rfl dX10_scale_14 ?_
        obtain ⟨t_10, h⟩ := h
        refine wa_lald C 54 dW_54 dX10_scale_16 t_10.1 t_10.2 (fun v_11 ev_11 => ?_)
        replace h := h v_11 ev_11
        refine wa_iload_n C 1 rfl dX10_scale_17 rfl ?_
        refine wa_i2l C rx1 dX10_scale_18 ?_
        refine wa_lmul C dX10_scale_19 ?_
        refine wa_ladd C dX10_scale_20 ?_
        refine wa_nml (fun x2_12 ex2_12 => ?_)
        replace h := h x2_12 ex2_12
        refine wa_lstore_n C dX10_scale_21 rfl (by decide) rfl ?_
        refine wa_aload_n C 1 rfl dX10_scale_22 rfl ?_
        refine wa_iload C 3 rfl dX10_scale_23 ?_
        refine wa_lload_n C 0 rfl dX10_scale_25 rfl ?_
        refine wa_ldc2 C gw_1108 dX10_scale_26 ?_
        refine wa_land C dX10_scale_29 ?_
        obtain ⟨t_13, h⟩ := h
        refine wa_last C (ws' := fun w9 => (dW D_hasBoard D_beganBlank F_mines F_moves F_changes G_width G_height G_size B_parts B_longest S_groups S_askedGroup S_taken R_waitingCount R_metCount A_grade A_cell A_mined A_withTotal A_numbers X_low X_high Y_low Y_high F_mined F_number F_state F_cellsIn F_unknownNear F_hitNear F_moveStart F_changed F_waiting F_seen G_near G_nearEnd B_chosen B_partOf B_rest B_unknowns B_partStart B_cells S_minedSet S_safeSet S_partSet S_tally S_askedTally S_groupOf S_groupSize S_links S_linkEnd S_pick S_groupMinedSet S_groupSafeSet O_sums O_nextSums R_found R_openEnds R_need R_waiting R_waits R_common R_met A_number Q_mined Q_all w9 Q_term Q_divisor Q_spare X_limbs X_sum Y_limbs Y_sum)) 54 dW_54 dX10_scale_30 t_13.1 t_13.2 dWs_54 (fun Q_choices_14 eQ_choices_14 => ?_)
        replace h := h Q_choices_14 eQ_choices_14
        refine wa_lload_n C 0 rfl dX10_scale_31 rfl ?_
        refine wa_bipush C (z := 31) dX10_scale_32 (by decide) ?_
        refine wa_lushr C dX10_scale_34 ?_
        refine wa_nml (fun x2_15 ex2_15 => ?_)
        replace h := h x2_15 ex2_15
        refine wa_lstore_n C dX10_scale_35 rfl (by decide) rfl ?_
        obtain ⟨r_16, h⟩ := h
        refine wa_iinc C (lv' := fun w9 => [(4, .int (iI w9)), (2, .long x2_15), (0, .ref (ad 54)), (1, .int (iI x1))]) 3 rfl dX10_scale_36 (by decide) (fun _ => rfl) (fun x4_17 ex4_17 => ?_)
        replace h := h x4_17 ex4_17
        have rx4_17 : inR x4_17 := by rw [ex4_17]; exact r_16
        refine wa_goto C (tgt := 5) dX10_scale_39 (by decide) ?_
        obtain ⟨n_18, ln_18, h⟩ := h
        refine wa_sub C [2, 3, 1, 0] rfl ?_
        exact ih_4 n_18 ln_18 x2_15 x4_17 Q_choices_14 rx4_17 h
  refine wa_sub C [2, 3, 1, 0] rfl ?_
  exact k_5 n_2 (0 : Int64) 0 Q_choices (inR_k 0 rfl) h0Inv_1
def P_X10_shrink_54 (post : (Int → Int64) → Prop) (Q_choices : Int → Int64) (x1 : Int) : Prop :=
  (1 ≤ x1 → (∃ Inv_2 : Nat → (Int64) → (Int) → (Int → Int64) → Prop, (∃ n_3 : Nat, Inv_2 n_3 (0 : Int64) 5 Q_choices) ∧ ∀ (n_4 : Nat) (x2_7 : Int64) (x4_8 : Int) (Q_choices_9 : Int → Int64), inR x4_8 → Inv_2 n_4 x2_7 x4_8 Q_choices_9 → ((x4_8 < 0 → (post Q_choices_9)) ∧ (¬ x4_8 < 0 → ((0 ≤ x4_8 ∧ x4_8 < 6) ∧ (∀ v_12 : Int64, v_12 = Q_choices_9 x4_8 → (∀ x2_13 : Int64, x2_13 = ((shlL x2_7 31) ||| v_12) → (¬ (Int64.ofInt x1) = 0 ∧ ((0 ≤ x4_8 ∧ x4_8 < 6) ∧ (∀ Q_choices_16 : Int → Int64, Q_choices_16 = upZ Q_choices_9 x4_8 (x2_13 / (Int64.ofInt x1)) → (¬ (Int64.ofInt x1) = 0 ∧ (∀ x2_18 : Int64, x2_18 = (x2_13 - x2_13 / (Int64.ofInt x1) * (Int64.ofInt x1)) → (inR (x4_8 + (-1)) ∧ (∀ x4_20 : Int, x4_20 = (x4_8 + (-1)) → (∃ n_21 : Nat, n_21 < n_4 ∧ Inv_2 n_21 x2_18 x4_20 Q_choices_16))))))))))))))) ∧ (¬ 1 ≤ x1 → (post Q_choices))
set_option maxRecDepth 100000 in
set_option maxHeartbeats 4000000 in
theorem c_X10_shrink_54 (l : Launch) (K : wK) (ad : Nat → Nat) {D_hasBoard : Int} {D_beganBlank : Int} {F_mines : Int} {F_moves : Int} {F_changes : Int} {G_width : Int} {G_height : Int} {G_size : Int} {B_parts : Int} {B_longest : Int} {S_groups : Int} {S_askedGroup : Int} {S_taken : Int} {R_waitingCount : Int} {R_metCount : Int} {A_grade : Int} {A_cell : Int} {A_mined : Int} {A_withTotal : Int} {A_numbers : Int} {X_low : Int} {X_high : Int} {Y_low : Int} {Y_high : Int} {F_mined : Int → Int} {F_number : Int → Int} {F_state : Int → Int} {F_cellsIn : Int → Int} {F_unknownNear : Int → Int} {F_hitNear : Int → Int} {F_moveStart : Int → Int} {F_changed : Int → Int} {F_waiting : Int → Int} {F_seen : Int → Int} {G_near : Int → Int} {G_nearEnd : Int → Int} {B_chosen : Int → Int} {B_partOf : Int → Int} {B_rest : Int → Int} {B_unknowns : Int → Int} {B_partStart : Int → Int} {B_cells : Int → Int} {S_minedSet : Int → Int} {S_safeSet : Int → Int} {S_partSet : Int → Int} {S_tally : Int → Int} {S_askedTally : Int → Int} {S_groupOf : Int → Int} {S_groupSize : Int → Int} {S_links : Int → Int} {S_linkEnd : Int → Int} {S_pick : Int → Int} {S_groupMinedSet : Int → Int} {S_groupSafeSet : Int → Int} {O_sums : Int → Int64} {O_nextSums : Int → Int64} {R_found : Int → Int} {R_openEnds : Int → Int} {R_need : Int → Int} {R_waiting : Int → Int} {R_waits : Int → Int} {R_common : Int → Int} {R_met : Int → Int} {A_number : Int → Int} {Q_mined : Int → Int64} {Q_all : Int → Int64} {Q_choices : Int → Int64} {Q_term : Int → Int64} {Q_divisor : Int → Int64} {Q_spare : Int → Int64} {X_limbs : Int → Int64} {X_sum : Int → Int64} {Y_limbs : Int → Int64} {Y_sum : Int → Int64} (x1 : Int) (rx1 : inR x1) (post : (Int → Int64) → Prop) (h : P_X10_shrink_54 post Q_choices x1) : mV l yX10_shrink (Cond.code yX10_shrink cX10_shrink 5 none :: GT) ({ frames := 2, cells := 0, slots := 0, locals := 120 } : Room) [.ref (ad 54), .int (iI x1)] K ad (dW D_hasBoard D_beganBlank F_mines F_moves F_changes G_width G_height G_size B_parts B_longest S_groups S_askedGroup S_taken R_waitingCount R_metCount A_grade A_cell A_mined A_withTotal A_numbers X_low X_high Y_low Y_high F_mined F_number F_state F_cellsIn F_unknownNear F_hitNear F_moveStart F_changed F_waiting F_seen G_near G_nearEnd B_chosen B_partOf B_rest B_unknowns B_partStart B_cells S_minedSet S_safeSet S_partSet S_tally S_askedTally S_groupOf S_groupSize S_links S_linkEnd S_pick S_groupMinedSet S_groupSafeSet O_sums O_nextSums R_found R_openEnds R_need R_waiting R_waits R_common R_met A_number Q_mined Q_all Q_choices Q_term Q_divisor Q_spare X_limbs X_sum Y_limbs Y_sum) (fun u9 => ∃ Q_choices9, u9 = (dW D_hasBoard D_beganBlank F_mines F_moves F_changes G_width G_height G_size B_parts B_longest S_groups S_askedGroup S_taken R_waitingCount R_metCount A_grade A_cell A_mined A_withTotal A_numbers X_low X_high Y_low Y_high F_mined F_number F_state F_cellsIn F_unknownNear F_hitNear F_moveStart F_changed F_waiting F_seen G_near G_nearEnd B_chosen B_partOf B_rest B_unknowns B_partStart B_cells S_minedSet S_safeSet S_partSet S_tally S_askedTally S_groupOf S_groupSize S_links S_linkEnd S_pick S_groupMinedSet S_groupSafeSet O_sums O_nextSums R_found R_openEnds R_need R_waiting R_waits R_common R_met A_number Q_mined Q_all Q_choices9 Q_term Q_divisor Q_spare X_limbs X_sum Y_limbs Y_sum) ∧ post Q_choices9) := by
  refine mV_of (lv0 := [(0, .ref (ad 54)), (1, .int (iI x1))]) (by decide) (Nat.le_of_ble_eq_true rfl) rfl ?_
  intro p e s m args below meth c Q A C ret
  replace C : Cx p ({ frames := 2, cells := 0, slots := 0, locals := 120 } : Room) m c 0 0 cX10_shrink 5 s args RX10 K A := C
  unfold P_X10_shrink_54 at h
  refine wa_iload_n C 1 rfl dX10_shrink_0 rfl ?_
  refine wa_iconst C (z := 1) dX10_shrink_1 rfl ?_
  refine wa_icmp_ge C (tgt := 6) rx1 (inR_k 1 rfl) dX10_shrink_2 (by decide) (fun c_1 => ?_) (fun c_1 => ?_)
  · replace h := h.1 c_1
    refine wa_lconst C (v := 0) dX10_shrink_6 rfl ?_
    refine wa_lstore_n C dX10_shrink_7 rfl (by decide) rfl ?_
    refine wa_iconst C (z := 5) dX10_shrink_8 rfl ?_
    refine wa_istore C dX10_shrink_9 (by decide) rfl ?_
    obtain ⟨Inv_2, ⟨n_3, h0Inv_2⟩, hInv_2⟩ := h
    have k_6 : ∀ (n_4 : Nat) (x2_7 : Int64) (x4_8 : Int) (Q_choices_9 : Int → Int64), inR x4_8 → Inv_2 n_4 x2_7 x4_8 Q_choices_9 → WA p l e ({ frames := 2, cells := 0, slots := 0, locals := 120 } : Room) s m args below meth c 0 0 Q K ad 5 A 11 [(0, .ref (ad 54)), (1, .int (iI x1)), (2, .long x2_7), (4, .int (iI x4_8))] [] (dW D_hasBoard D_beganBlank F_mines F_moves F_changes G_width G_height G_size B_parts B_longest S_groups S_askedGroup S_taken R_waitingCount R_metCount A_grade A_cell A_mined A_withTotal A_numbers X_low X_high Y_low Y_high F_mined F_number F_state F_cellsIn F_unknownNear F_hitNear F_moveStart F_changed F_waiting F_seen G_near G_nearEnd B_chosen B_partOf B_rest B_unknowns B_partStart B_cells S_minedSet S_safeSet S_partSet S_tally S_askedTally S_groupOf S_groupSize S_links S_linkEnd S_pick S_groupMinedSet S_groupSafeSet O_sums O_nextSums R_found R_openEnds R_need R_waiting R_waits R_common R_met A_number Q_mined Q_all Q_choices_9 Q_term Q_divisor Q_spare X_limbs X_sum Y_limbs Y_sum) := by
      intro n_4
      induction n_4 using Nat.strongRecOn with
      | ind n_4 ih_5 =>
        intro x2_7 x4_8 Q_choices_9 rx4_8 h
        replace h := hInv_2 n_4 x2_7 x4_8 Q_choices_9 rx4_8 h
        refine wa_iload C 3 rfl dX10_shrink_11 ?_
        refine wa_if_lt C (tgt := 45) rx4_8 dX10_shrink_13 (by decide) (fun c_10 => ?_) (fun c_10 => ?_)
        · replace h := h.1 c_10
          exact ret dX10_shrink_45 ⟨_, rfl, h⟩
        · replace h := h.2 c_10
          refine wa_lload_n C 2 rfl dX10_shrink_16 rfl ?_
          refine wa_bipush C (z := 31) dX10_shrink_17 (by decide) ?_
          refine wa_lshl C dX10_shrink_19 ?_
          refine wa_aload_n C 0 rfl dX10_shrink_20 rfl ?_
          refine wa_iload C 3 rfl dX10_shrink_21 ?_
          obtain ⟨t_11, h⟩ := h
          refine wa_lald C 54 dW_54 dX10_shrink_23 t_11.1 t_11.2 (fun v_12 ev_12 => ?_)
          replace h := h v_12 ev_12
          refine wa_lor C dX10_shrink_24 ?_
          refine wa_nml (fun x2_13 ex2_13 => ?_)
          replace h := h x2_13 ex2_13
          refine wa_lstore_n C dX10_shrink_25 rfl (by decide) rfl ?_
          refine wa_aload_n C 1 rfl dX10_shrink_26 rfl ?_
          refine wa_iload C 3 rfl dX10_shrink_27 ?_
          refine wa_lload_n C 0 rfl dX10_shrink_29 rfl ?_
          refine wa_iload_n C 2 rfl dX10_shrink_30 rfl ?_
          refine wa_i2l C rx1 dX10_shrink_31 ?_
          obtain ⟨q_14, h⟩ := h
          refine wa_ldiv C dX10_shrink_32 q_14 ?_
          obtain ⟨t_15, h⟩ := h
          refine wa_last C (ws' := fun w9 => (dW D_hasBoard D_beganBlank F_mines F_moves F_changes G_width G_height G_size B_parts B_longest S_groups S_askedGroup S_taken R_waitingCount R_metCount A_grade A_cell A_mined A_withTotal A_numbers X_low X_high Y_low Y_high F_mined F_number F_state F_cellsIn F_unknownNear F_hitNear F_moveStart F_changed F_waiting F_seen G_near G_nearEnd B_chosen B_partOf B_rest B_unknowns B_partStart B_cells S_minedSet S_safeSet S_partSet S_tally S_askedTally S_groupOf S_groupSize S_links S_linkEnd S_pick S_groupMinedSet S_groupSafeSet O_sums O_nextSums R_found R_openEnds R_need R_waiting R_waits R_common R_met A_number Q_mined Q_all w9 Q_term Q_divisor Q_spare X_limbs X_sum Y_limbs Y_sum)) 54 dW_54 dX10_shrink_33 t_15.1 t_15.2 dWs_54 (fun Q_choices_16 eQ_choices_16 => ?_)
          replace h := h Q_choices_16 eQ_choices_16
          refine wa_lload_n C 0 rfl dX10_shrink_34 rfl ?_
          refine wa_iload_n C 2 rfl dX10_shrink_35 rfl ?_
          refine wa_i2l C rx1 dX10_shrink_36 ?_
          obtain ⟨q_17, h⟩ := h
          refine wa_lrem C dX10_shrink_37 q_17 ?_
          refine wa_nml (fun x2_18 ex2_18 => ?_)
          replace h := h x2_18 ex2_18
          refine wa_lstore_n C dX10_shrink_38 rfl (by decide) rfl ?_
          obtain ⟨r_19, h⟩ := h
          refine wa_iinc C (lv' := fun w9 => [(4, .int (iI w9)), (2, .long x2_18), (0, .ref (ad 54)), (1, .int (iI x1))]) 3 rfl dX10_shrink_39 (by decide) (fun _ => rfl) (fun x4_20 ex4_20 => ?_)
          replace h := h x4_20 ex4_20
          have rx4_20 : inR x4_20 := by rw [ex4_20]; exact r_19
          refine wa_goto C (tgt := 11) dX10_shrink_42 (by decide) ?_
          obtain ⟨n_21, ln_21, h⟩ := h
          refine wa_sub C [2, 3, 1, 0] rfl ?_
          exact ih_5 n_21 ln_21 x2_18 x4_20 Q_choices_16 rx4_20 h
    refine wa_sub C [2, 3, 1, 0] rfl ?_
    exact k_6 n_3 (0 : Int64) 5 Q_choices (inR_k 5 rfl) h0Inv_2
  · replace h := h.2 c_1
    exact ret dX10_shrink_5 ⟨_, rfl, h⟩
def P_X5_addPlacements_10_52 (post : (Int → Int64) → (Int → Int64) → (Int → Int64) → Prop) (F_mines : Int) (B_parts : Int) (Y_low : Int) (Y_high : Int) (F_cellsIn : Int → Int) (B_partStart : Int → Int) (Q_mined : Int → Int64) (Q_choices : Int → Int64) (Q_term : Int → Int64) (Y_limbs : Int → Int64) (x3 : Int) : Prop :=
  P_X1_freeCells (fun (c_1 : Int) => inR c_1 → (P_X2_minesLeft (fun (c_2 : Int) => inR c_2 → (P_X10_set_54 (fun (Q_choices_3 : Int → Int64) => (∃ Inv_4 : Nat → (Int) → (Int → Int64) → (Int → Int64) → (Int → Int64) → Prop, (∃ n_5 : Nat, Inv_4 n_5 0 Q_mined Q_choices_3 Q_term) ∧ ∀ (n_6 : Nat) (x6_9 : Int) (Q_mined_10 : Int → Int64) (Q_choices_11 : Int → Int64) (Q_term_12 : Int → Int64), inR x6_9 → Inv_4 n_6 x6_9 Q_mined_10 Q_choices_11 Q_term_12 → ((c_1 < x6_9 → (post Q_mined_10 Q_choices_11 Q_term_12)) ∧ (¬ c_1 < x6_9 → (inR (c_2 - Y_low) ∧ (((c_2 - Y_low) < x6_9 → (post Q_mined_10 Q_choices_11 Q_term_12)) ∧ (¬ (c_2 - Y_low) < x6_9 → (inR (c_2 - x6_9) ∧ (∃ J_19 : (Int → Int64) → (Int → Int64) → Prop, ((Y_high < (c_2 - x6_9) → (J_19 Q_mined_10 Q_term_12)) ∧ (¬ Y_high < (c_2 - x6_9) → (P_J7_fill_d0a16_55 (fun (Q_term_30 : Int → Int64) => (inR ((c_2 - x6_9) * 6) ∧ (P_X10_addProduct_55_60_54 (fun (Q_term_32 : Int → Int64) => (∃ J_33 : (Int) → Prop, ((x3 = 0 → (J_33 1)) ∧ (¬ x3 = 0 → (J_33 x6_9))) ∧ (∀ (z_35 : Int), inR z_35 → J_33 z_35 → (P_X10_addScaled_52_55 (fun (Q_mined_36 : Int → Int64) => (J_19 Q_mined_36 Q_term_32)) Q_mined_10 Q_term_32 0 z_35)))) Q_choices_11 Q_term_30 Y_limbs ((c_2 - x6_9) * 6)))) Q_term_12 (0 : Int64)))) ∧ (∀ (Q_mined_21 : Int → Int64) (Q_term_22 : Int → Int64), J_19 Q_mined_21 Q_term_22 → (inR (c_1 - x6_9) ∧ (P_X10_scale_54 (fun (Q_choices_24 : Int → Int64) => (inR (x6_9 + 1) ∧ (P_X10_shrink_54 (fun (Q_choices_26 : Int → Int64) => (∀ x6_27 : Int, x6_27 = (x6_9 + 1) → (∃ n_28 : Nat, n_28 < n_6 ∧ Inv_4 n_28 x6_27 Q_mined_21 Q_choices_26 Q_term_22))) Q_choices_24 (x6_9 + 1)))) Q_choices_11 (c_1 - x6_9))))))))))))) Q_choices 1)) F_mines F_cellsIn )) B_parts F_cellsIn B_partStart 
set_option maxRecDepth 100000 in
set_option maxHeartbeats 4000000 in
theorem c_X5_addPlacements_10_52 (l : Launch) (K : wK) (ad : Nat → Nat) {D_hasBoard : Int} {D_beganBlank : Int} {F_mines : Int} {F_moves : Int} {F_changes : Int} {G_width : Int} {G_height : Int} {G_size : Int} {B_parts : Int} {B_longest : Int} {S_groups : Int} {S_askedGroup : Int} {S_taken : Int} {R_waitingCount : Int} {R_metCount : Int} {A_grade : Int} {A_cell : Int} {A_mined : Int} {A_withTotal : Int} {A_numbers : Int} {X_low : Int} {X_high : Int} {Y_low : Int} {Y_high : Int} {F_mined : Int → Int} {F_number : Int → Int} {F_state : Int → Int} {F_cellsIn : Int → Int} {F_unknownNear : Int → Int} {F_hitNear : Int → Int} {F_moveStart : Int → Int} {F_changed : Int → Int} {F_waiting : Int → Int} {F_seen : Int → Int} {G_near : Int → Int} {G_nearEnd : Int → Int} {B_chosen : Int → Int} {B_partOf : Int → Int} {B_rest : Int → Int} {B_unknowns : Int → Int} {B_partStart : Int → Int} {B_cells : Int → Int} {S_minedSet : Int → Int} {S_safeSet : Int → Int} {S_partSet : Int → Int} {S_tally : Int → Int} {S_askedTally : Int → Int} {S_groupOf : Int → Int} {S_groupSize : Int → Int} {S_links : Int → Int} {S_linkEnd : Int → Int} {S_pick : Int → Int} {S_groupMinedSet : Int → Int} {S_groupSafeSet : Int → Int} {O_sums : Int → Int64} {O_nextSums : Int → Int64} {R_found : Int → Int} {R_openEnds : Int → Int} {R_need : Int → Int} {R_waiting : Int → Int} {R_waits : Int → Int} {R_common : Int → Int} {R_met : Int → Int} {A_number : Int → Int} {Q_mined : Int → Int64} {Q_all : Int → Int64} {Q_choices : Int → Int64} {Q_term : Int → Int64} {Q_divisor : Int → Int64} {Q_spare : Int → Int64} {X_limbs : Int → Int64} {X_sum : Int → Int64} {Y_limbs : Int → Int64} {Y_sum : Int → Int64} (x3 : Int) (bx3 : x3 = 0 ∨ x3 = 1) (post : (Int → Int64) → (Int → Int64) → (Int → Int64) → Prop) (h : P_X5_addPlacements_10_52 post F_mines B_parts Y_low Y_high F_cellsIn B_partStart Q_mined Q_choices Q_term Y_limbs x3) : mV l yX5_addPlacements (Cond.code yX5_addPlacements cX5_addPlacements 7 none :: GT) ({ frames := 4, cells := 0, slots := 0, locals := 240 } : Room) [.ref (ad 8), .ref (ad 10), .ref (ad 52), .int (iI x3)] K ad (dW D_hasBoard D_beganBlank F_mines F_moves F_changes G_width G_height G_size B_parts B_longest S_groups S_askedGroup S_taken R_waitingCount R_metCount A_grade A_cell A_mined A_withTotal A_numbers X_low X_high Y_low Y_high F_mined F_number F_state F_cellsIn F_unknownNear F_hitNear F_moveStart F_changed F_waiting F_seen G_near G_nearEnd B_chosen B_partOf B_rest B_unknowns B_partStart B_cells S_minedSet S_safeSet S_partSet S_tally S_askedTally S_groupOf S_groupSize S_links S_linkEnd S_pick S_groupMinedSet S_groupSafeSet O_sums O_nextSums R_found R_openEnds R_need R_waiting R_waits R_common R_met A_number Q_mined Q_all Q_choices Q_term Q_divisor Q_spare X_limbs X_sum Y_limbs Y_sum) (fun u9 => ∃ Q_mined9 Q_choices9 Q_term9, u9 = (dW D_hasBoard D_beganBlank F_mines F_moves F_changes G_width G_height G_size B_parts B_longest S_groups S_askedGroup S_taken R_waitingCount R_metCount A_grade A_cell A_mined A_withTotal A_numbers X_low X_high Y_low Y_high F_mined F_number F_state F_cellsIn F_unknownNear F_hitNear F_moveStart F_changed F_waiting F_seen G_near G_nearEnd B_chosen B_partOf B_rest B_unknowns B_partStart B_cells S_minedSet S_safeSet S_partSet S_tally S_askedTally S_groupOf S_groupSize S_links S_linkEnd S_pick S_groupMinedSet S_groupSafeSet O_sums O_nextSums R_found R_openEnds R_need R_waiting R_waits R_common R_met A_number Q_mined9 Q_all Q_choices9 Q_term9 Q_divisor Q_spare X_limbs X_sum Y_limbs Y_sum) ∧ post Q_mined9 Q_choices9 Q_term9) := by
  refine mV_of (lv0 := [(0, .ref (ad 8)), (1, .ref (ad 10)), (2, .ref (ad 52)), (3, .int (iI x3))]) (by decide) (Nat.le_of_ble_eq_true rfl) rfl ?_
  intro p e s m args below meth c Q A C ret
  replace C : Cx p ({ frames := 4, cells := 0, slots := 0, locals := 240 } : Room) m c 0 0 cX5_addPlacements 7 s args RX5 K A := C
  unfold P_X5_addPlacements_10_52 at h
  refine wa_aload_n C 0 rfl dX5_addPlacements_0 rfl ?_
  refine wa_getR C 8 3 dW_8 rfl rfl (by decide) okX5 gw_411 dX5_addPlacements_1 ?_
  refine wa_callVi C (k := 3) (As := []) (rest := []) (c_X1_freeCells l K ad  _ h) gw_806 gw_1117 dW_3 rfl gw_804 gw_805 gw_4 q_X1_freeCells rfl rfl rfl ⟨by decide, by decide⟩ rfl (Nat.le_of_ble_eq_true rfl) dX5_addPlacements_4 (fun c_1 u9 rc_1 hp => ?_)
  obtain ⟨rfl, h⟩ := hp
  replace h := h rc_1
  refine wa_istore C dX5_addPlacements_7 (by decide) rfl ?_
  refine wa_aload_n C 1 rfl dX5_addPlacements_9 rfl ?_
  refine wa_getR C 8 2 dW_8 rfl rfl (by decide) okX5 gw_410 dX5_addPlacements_10 ?_
  refine wa_callVi C (k := 1) (As := []) (rest := []) (c_X2_minesLeft l K ad  _ h) gw_829 gw_1118 dW_1 rfl gw_827 gw_828 gw_2 q_X2_minesLeft rfl rfl rfl ⟨by decide, by decide⟩ rfl (Nat.le_of_ble_eq_true rfl) dX5_addPlacements_13 (fun c_2 u9 rc_2 hp => ?_)
  obtain ⟨rfl, h⟩ := hp
  replace h := h rc_2
  refine wa_istore C dX5_addPlacements_16 (by decide) rfl ?_
  refine wa_aload_n C 2 rfl dX5_addPlacements_18 rfl ?_
  refine wa_getR C 8 7 dW_8 rfl rfl (by decide) okX5 gw_415 dX5_addPlacements_19 ?_
  refine wa_iconst C (z := 1) dX5_addPlacements_22 rfl ?_
  refine wa_callSv C (As := [.ref (ad 54), .int (iI 1)]) (rest := []) (c_X10_set_54 l K ad 1 (inR_k 1 rfl) _ h) gw_1093 gw_1119 gw_1092 gw_23 q_X10_set rfl rfl rfl ⟨by decide, by decide⟩ rfl (Nat.le_of_ble_eq_true rfl) dX5_addPlacements_23 (fun u9 hp => ?_)
  obtain ⟨Q_choices_3, rfl, h⟩ := hp
  refine wa_iconst C (z := 0) dX5_addPlacements_26 rfl ?_
  refine wa_istore C dX5_addPlacements_27 (by decide) rfl ?_
  obtain ⟨Inv_4, ⟨n_5, h0Inv_4⟩, hInv_4⟩ := h
  have k_8 : ∀ (n_6 : Nat) (x6_9 : Int) (Q_mined_10 : Int → Int64) (Q_choices_11 : Int → Int64) (Q_term_12 : Int → Int64), inR x6_9 → Inv_4 n_6 x6_9 Q_mined_10 Q_choices_11 Q_term_12 → WA p l e ({ frames := 4, cells := 0, slots := 0, locals := 240 } : Room) s m args below meth c 0 0 Q K ad 7 A 29 [(0, .ref (ad 8)), (1, .ref (ad 10)), (2, .ref (ad 52)), (3, .int (iI x3)), (4, .int (iI c_1)), (5, .int (iI c_2)), (6, .int (iI x6_9))] [] (dW D_hasBoard D_beganBlank F_mines F_moves F_changes G_width G_height G_size B_parts B_longest S_groups S_askedGroup S_taken R_waitingCount R_metCount A_grade A_cell A_mined A_withTotal A_numbers X_low X_high Y_low Y_high F_mined F_number F_state F_cellsIn F_unknownNear F_hitNear F_moveStart F_changed F_waiting F_seen G_near G_nearEnd B_chosen B_partOf B_rest B_unknowns B_partStart B_cells S_minedSet S_safeSet S_partSet S_tally S_askedTally S_groupOf S_groupSize S_links S_linkEnd S_pick S_groupMinedSet S_groupSafeSet O_sums O_nextSums R_found R_openEnds R_need R_waiting R_waits R_common R_met A_number Q_mined_10 Q_all Q_choices_11 Q_term_12 Q_divisor Q_spare X_limbs X_sum Y_limbs Y_sum) := by
    intro n_6
    induction n_6 using Nat.strongRecOn with
    | ind n_6 ih_7 =>
      intro x6_9 Q_mined_10 Q_choices_11 Q_term_12 rx6_9 h
      replace h := hInv_4 n_6 x6_9 Q_mined_10 Q_choices_11 Q_term_12 rx6_9 h
      refine wa_iload C 6 rfl dX5_addPlacements_29 ?_
      refine wa_iload C 4 rfl dX5_addPlacements_31 ?_
      refine wa_icmp_gt C (tgt := 139) rx6_9 rc_1 dX5_addPlacements_33 (by decide) (fun c_13 => ?_) (fun c_13 => ?_)
      · replace h := h.1 c_13
        exact ret dX5_addPlacements_139 ⟨_, _, _, rfl, h⟩
      · replace h := h.2 c_13
        refine wa_iload C 6 rfl dX5_addPlacements_36 ?_
        refine wa_iload C 5 rfl dX5_addPlacements_38 ?_
        refine wa_aload_n C 1 rfl dX5_addPlacements_40 rfl ?_
        refine wa_getI C 10 1 dW_10 rfl rfl (by decide) okX8 gw_393 dX5_addPlacements_41 (fun r_14 => ?_)
        refine wa_isub C dX5_addPlacements_44 ?_
        obtain ⟨r_15, h⟩ := h
        refine wa_icmp_gt C (tgt := 139) rx6_9 r_15 dX5_addPlacements_45 (by decide) (fun c_16 => ?_) (fun c_16 => ?_)
        · replace h := h.1 c_16
          exact ret dX5_addPlacements_139 ⟨_, _, _, rfl, h⟩
        · replace h := h.2 c_16
          refine wa_iload C 5 rfl dX5_addPlacements_48 ?_
          refine wa_iload C 6 rfl dX5_addPlacements_50 ?_
          refine wa_isub C dX5_addPlacements_52 ?_
          refine wa_aload_n C 1 rfl dX5_addPlacements_53 rfl ?_
          refine wa_getI C 10 2 dW_10 rfl rfl (by decide) okX8 gw_395 dX5_addPlacements_54 (fun r_17 => ?_)
          obtain ⟨r_18, h⟩ := h
          obtain ⟨J_19, h, hJ_19⟩ := h
          have k_20 : ∀ (Q_mined_21 : Int → Int64) (Q_term_22 : Int → Int64), J_19 Q_mined_21 Q_term_22 → WA p l e ({ frames := 4, cells := 0, slots := 0, locals := 240 } : Room) s m args below meth c 0 0 Q K ad 7 A 110 [(0, .ref (ad 8)), (1, .ref (ad 10)), (2, .ref (ad 52)), (3, .int (iI x3)), (4, .int (iI c_1)), (5, .int (iI c_2)), (6, .int (iI x6_9))] [] (dW D_hasBoard D_beganBlank F_mines F_moves F_changes G_width G_height G_size B_parts B_longest S_groups S_askedGroup S_taken R_waitingCount R_metCount A_grade A_cell A_mined A_withTotal A_numbers X_low X_high Y_low Y_high F_mined F_number F_state F_cellsIn F_unknownNear F_hitNear F_moveStart F_changed F_waiting F_seen G_near G_nearEnd B_chosen B_partOf B_rest B_unknowns B_partStart B_cells S_minedSet S_safeSet S_partSet S_tally S_askedTally S_groupOf S_groupSize S_links S_linkEnd S_pick S_groupMinedSet S_groupSafeSet O_sums O_nextSums R_found R_openEnds R_need R_waiting R_waits R_common R_met A_number Q_mined_21 Q_all Q_choices_11 Q_term_22 Q_divisor Q_spare X_limbs X_sum Y_limbs Y_sum) := by
            intro Q_mined_21 Q_term_22 h
            replace h := hJ_19 Q_mined_21 Q_term_22 h
            refine wa_aload_n C 0 rfl dX5_addPlacements_110 rfl ?_
            refine wa_getR C 8 7 dW_8 rfl rfl (by decide) okX5 gw_415 dX5_addPlacements_111 ?_
            refine wa_iload C 4 rfl dX5_addPlacements_114 ?_
            refine wa_iload C 6 rfl dX5_addPlacements_116 ?_
            refine wa_isub C dX5_addPlacements_118 ?_
            obtain ⟨r_23, h⟩ := h
            refine wa_callSv C (As := [.ref (ad 54), .int (iI (c_1 - x6_9))]) (rest := []) (c_X10_scale_54 l K ad (c_1 - x6_9) r_23 _ h) gw_1126 gw_1124 gw_1125 gw_23 q_X10_scale rfl rfl rfl ⟨by decide, by decide⟩ rfl (Nat.le_of_ble_eq_true rfl) dX5_addPlacements_119 (fun u9 hp => ?_)
            obtain ⟨Q_choices_24, rfl, h⟩ := hp
            refine wa_aload_n C 0 rfl dX5_addPlacements_122 rfl ?_
            refine wa_getR C 8 7 dW_8 rfl rfl (by decide) okX5 gw_415 dX5_addPlacements_123 ?_
            refine wa_iload C 6 rfl dX5_addPlacements_126 ?_
            refine wa_iconst C (z := 1) dX5_addPlacements_128 rfl ?_
            refine wa_iadd C dX5_addPlacements_129 ?_
            obtain ⟨r_25, h⟩ := h
            refine wa_callSv C (As := [.ref (ad 54), .int (iI (x6_9 + 1))]) (rest := []) (c_X10_shrink_54 l K ad (x6_9 + 1) r_25 _ h) gw_1129 gw_1127 gw_1128 gw_23 q_X10_shrink rfl rfl rfl ⟨by decide, by decide⟩ rfl (Nat.le_of_ble_eq_true rfl) dX5_addPlacements_130 (fun u9 hp => ?_)
            obtain ⟨Q_choices_26, rfl, h⟩ := hp
            refine wa_iinc C (lv' := fun w9 => [(6, .int (iI w9)), (0, .ref (ad 8)), (1, .ref (ad 10)), (2, .ref (ad 52)), (3, .int (iI x3)), (4, .int (iI c_1)), (5, .int (iI c_2))]) 6 rfl dX5_addPlacements_133 (by decide) (fun _ => rfl) (fun x6_27 ex6_27 => ?_)
            replace h := h x6_27 ex6_27
            have rx6_27 : inR x6_27 := by rw [ex6_27]; exact r_25
            refine wa_goto C (tgt := 29) dX5_addPlacements_136 (by decide) ?_
            obtain ⟨n_28, ln_28, h⟩ := h
            refine wa_sub C [1, 2, 3, 4, 5, 6, 0] rfl ?_
            exact ih_7 n_28 ln_28 x6_27 Q_mined_21 Q_choices_26 Q_term_22 rx6_27 h
          refine wa_icmp_gt C (tgt := 110) r_18 r_17 dX5_addPlacements_57 (by decide) (fun c_29 => ?_) (fun c_29 => ?_)
          · replace h := h.1 c_29
            refine wa_sub C [0, 1, 2, 3, 4, 5, 6] rfl ?_
            exact k_20 Q_mined_10 Q_term_12 h
          · replace h := h.2 c_29
            refine wa_aload_n C 0 rfl dX5_addPlacements_60 rfl ?_
            refine wa_getR C 8 8 dW_8 rfl rfl (by decide) okX5 gw_416 dX5_addPlacements_61 ?_
            refine wa_lconst C (v := 0) dX5_addPlacements_64 rfl ?_
            refine wa_callSv C (As := [.ref (ad 55), .long (0 : Int64)]) (rest := []) (c_J7_fill_d0a16_55 l K ad (0 : Int64) _ h) gw_822 gw_1086 gw_821 gw_17 q_J7_fill_d0a16 rfl rfl rfl ⟨by decide, by decide⟩ rfl (Nat.le_of_ble_eq_true rfl) dX5_addPlacements_65 (fun u9 hp => ?_)
            obtain ⟨Q_term_30, rfl, h⟩ := hp
            refine wa_aload_n C 0 rfl dX5_addPlacements_68 rfl ?_
            refine wa_getR C 8 8 dW_8 rfl rfl (by decide) okX5 gw_416 dX5_addPlacements_69 ?_
            refine wa_aload_n C 1 rfl dX5_addPlacements_72 rfl ?_
            refine wa_getR C 10 0 dW_10 rfl rfl (by decide) okX8 gw_391 dX5_addPlacements_73 ?_
            refine wa_iload C 5 rfl dX5_addPlacements_76 ?_
            refine wa_iload C 6 rfl dX5_addPlacements_78 ?_
            refine wa_isub C dX5_addPlacements_80 ?_
            refine wa_bipush C (z := 6) dX5_addPlacements_81 (by decide) ?_
            refine wa_imul C dX5_addPlacements_83 ?_
            refine wa_aload_n C 0 rfl dX5_addPlacements_84 rfl ?_
            refine wa_getR C 8 7 dW_8 rfl rfl (by decide) okX5 gw_415 dX5_addPlacements_85 ?_
            obtain ⟨r_31, h⟩ := h
            refine wa_callSv C (As := [.ref (ad 55), .ref (ad 60), .int (iI ((c_2 - x6_9) * 6)), .ref (ad 54)]) (rest := []) (c_X10_addProduct_55_60_54 l K ad ((c_2 - x6_9) * 6) r_31 _ h) gw_1122 gw_1120 gw_1121 gw_23 q_X10_addProduct rfl rfl rfl ⟨by decide, by decide⟩ rfl (Nat.le_of_ble_eq_true rfl) dX5_addPlacements_88 (fun u9 hp => ?_)
            obtain ⟨Q_term_32, rfl, h⟩ := hp
            refine wa_aload_n C 2 rfl dX5_addPlacements_91 rfl ?_
            refine wa_aload_n C 0 rfl dX5_addPlacements_92 rfl ?_
            refine wa_getR C 8 8 dW_8 rfl rfl (by decide) okX5 gw_416 dX5_addPlacements_93 ?_
            refine wa_iconst C (z := 0) dX5_addPlacements_96 rfl ?_
            refine wa_iload_n C 3 rfl dX5_addPlacements_97 rfl ?_
            obtain ⟨J_33, h, hJ_33⟩ := h
            have k_34 : ∀ (z_35 : Int), inR z_35 → J_33 z_35 → WA p l e ({ frames := 4, cells := 0, slots := 0, locals := 240 } : Room) s m args below meth c 0 0 Q K ad 7 A 107 [(0, .ref (ad 8)), (1, .ref (ad 10)), (2, .ref (ad 52)), (3, .int (iI x3)), (4, .int (iI c_1)), (5, .int (iI c_2)), (6, .int (iI x6_9))] [.int (iI z_35), .int (iI 0), .ref (ad 55), .ref (ad 52)] (dW D_hasBoard D_beganBlank F_mines F_moves F_changes G_width G_height G_size B_parts B_longest S_groups S_askedGroup S_taken R_waitingCount R_metCount A_grade A_cell A_mined A_withTotal A_numbers X_low X_high Y_low Y_high F_mined F_number F_state F_cellsIn F_unknownNear F_hitNear F_moveStart F_changed F_waiting F_seen G_near G_nearEnd B_chosen B_partOf B_rest B_unknowns B_partStart B_cells S_minedSet S_safeSet S_partSet S_tally S_askedTally S_groupOf S_groupSize S_links S_linkEnd S_pick S_groupMinedSet S_groupSafeSet O_sums O_nextSums R_found R_openEnds R_need R_waiting R_waits R_common R_met A_number Q_mined_10 Q_all Q_choices_11 Q_term_32 Q_divisor Q_spare X_limbs X_sum Y_limbs Y_sum) := by
              intro z_35 rz_35 h
              replace h := hJ_33 z_35 rz_35 h
              refine wa_callSv C (As := [.ref (ad 52), .ref (ad 55), .int (iI 0), .int (iI z_35)]) (rest := []) (c_X10_addScaled_52_55 l K ad 0 z_35 (inR_k 0 rfl) rz_35 _ h) gw_1107 gw_1123 gw_1106 gw_23 q_X10_addScaled rfl rfl rfl ⟨by decide, by decide⟩ rfl (Nat.le_of_ble_eq_true rfl) dX5_addPlacements_107 (fun u9 hp => ?_)
              obtain ⟨Q_mined_36, rfl, h⟩ := hp
              refine wa_sub C [0, 1, 2, 3, 4, 5, 6] rfl ?_
              exact k_20 Q_mined_36 Q_term_32 h
            refine wa_if_eq C (tgt := 106) (inR_b bx3) dX5_addPlacements_98 (by decide) (fun c_37 => ?_) (fun c_37 => ?_)
            · replace h := h.1 c_37
              refine wa_iconst C (z := 1) dX5_addPlacements_106 rfl ?_
              refine wa_sub C [0, 1, 2, 3, 4, 5, 6] rfl ?_
              exact k_34 1 (inR_k 1 rfl) h
            · replace h := h.2 c_37
              refine wa_iload C 6 rfl dX5_addPlacements_101 ?_
              refine wa_goto C (tgt := 107) dX5_addPlacements_103 (by decide) ?_
              refine wa_sub C [0, 1, 2, 3, 4, 5, 6] rfl ?_
              exact k_34 x6_9 rx6_9 h
  refine wa_sub C [3, 4, 5, 6, 2, 1, 0] rfl ?_
  exact k_8 n_5 0 Q_mined Q_choices_3 Q_term (inR_k 0 rfl) h0Inv_4
def P_X10_addProduct_55_58_54 (post : (Int → Int64) → Prop) (Q_choices : Int → Int64) (Q_term : Int → Int64) (X_limbs : Int → Int64) (x2 : Int) : Prop :=
  ∃ Inv_1 : Nat → (Int) → (Int → Int64) → Prop, (∃ n_2 : Nat, Inv_1 n_2 0 Q_term) ∧ ∀ (n_3 : Nat) (x4_6 : Int) (Q_term_7 : Int → Int64), inR x4_6 → Inv_1 n_3 x4_6 Q_term_7 → ((6 ≤ x4_6 → (post Q_term_7)) ∧ (¬ 6 ≤ x4_6 → ((0 ≤ (x2 + x4_6) ∧ (x2 + x4_6) < 870) ∧ (∀ v_10 : Int64, v_10 = X_limbs (x2 + x4_6) → (∃ Inv_11 : Nat → (Int64) → (Int) → (Int → Int64) → Prop, (∃ n_12 : Nat, Inv_11 n_12 (0 : Int64) 0 Q_term_7) ∧ ∀ (n_13 : Nat) (x7_16 : Int64) (x9_17 : Int) (Q_term_18 : Int → Int64), inR x9_17 → Inv_11 n_13 x7_16 x9_17 Q_term_18 → (∃ J_19 : Prop, (((lcI v_10 (0 : Int64)) = 0 → (J_19)) ∧ (¬ (lcI v_10 (0 : Int64)) = 0 → (inR (x4_6 + x9_17) ∧ ((6 ≤ (x4_6 + x9_17) → (J_19)) ∧ (¬ 6 ≤ (x4_6 + x9_17) → ((0 ≤ (x4_6 + x9_17) ∧ (x4_6 + x9_17) < 6) ∧ (∀ v_28 : Int64, v_28 = Q_term_18 (x4_6 + x9_17) → ((0 ≤ x9_17 ∧ x9_17 < 6) ∧ (∀ v_30 : Int64, v_30 = Q_choices x9_17 → (∀ x7_31 : Int64, x7_31 = (x7_16 + (v_28 + (v_10 * v_30))) → ((0 ≤ (x4_6 + x9_17) ∧ (x4_6 + x9_17) < 6) ∧ (∀ Q_term_33 : Int → Int64, Q_term_33 = upZ Q_term_18 (x4_6 + x9_17) (x7_31 &&& (2147483647 : Int64)) → (∀ x7_34 : Int64, x7_34 = (ushrL x7_31 31) → (inR (x9_17 + 1) ∧ (∀ x9_36 : Int, x9_36 = (x9_17 + 1) → (∃ n_37 : Nat, n_37 < n_13 ∧ Inv_11 n_37 x7_34 x9_36 Q_term_33)))))))))))))))) ∧ (J_19 → (inR (x4_6 + 1) ∧ (∀ x4_22 : Int, x4_22 = (x4_6 + 1) → (∃ n_23 : Nat, n_23 < n_3 ∧ Inv_1 n_23 x4_22 Q_term_18))))))))))
set_option maxRecDepth 100000 in
set_option maxHeartbeats 4000000 in
theorem c_X10_addProduct_55_58_54 (l : Launch) (K : wK) (ad : Nat → Nat) {D_hasBoard : Int} {D_beganBlank : Int} {F_mines : Int} {F_moves : Int} {F_changes : Int} {G_width : Int} {G_height : Int} {G_size : Int} {B_parts : Int} {B_longest : Int} {S_groups : Int} {S_askedGroup : Int} {S_taken : Int} {R_waitingCount : Int} {R_metCount : Int} {A_grade : Int} {A_cell : Int} {A_mined : Int} {A_withTotal : Int} {A_numbers : Int} {X_low : Int} {X_high : Int} {Y_low : Int} {Y_high : Int} {F_mined : Int → Int} {F_number : Int → Int} {F_state : Int → Int} {F_cellsIn : Int → Int} {F_unknownNear : Int → Int} {F_hitNear : Int → Int} {F_moveStart : Int → Int} {F_changed : Int → Int} {F_waiting : Int → Int} {F_seen : Int → Int} {G_near : Int → Int} {G_nearEnd : Int → Int} {B_chosen : Int → Int} {B_partOf : Int → Int} {B_rest : Int → Int} {B_unknowns : Int → Int} {B_partStart : Int → Int} {B_cells : Int → Int} {S_minedSet : Int → Int} {S_safeSet : Int → Int} {S_partSet : Int → Int} {S_tally : Int → Int} {S_askedTally : Int → Int} {S_groupOf : Int → Int} {S_groupSize : Int → Int} {S_links : Int → Int} {S_linkEnd : Int → Int} {S_pick : Int → Int} {S_groupMinedSet : Int → Int} {S_groupSafeSet : Int → Int} {O_sums : Int → Int64} {O_nextSums : Int → Int64} {R_found : Int → Int} {R_openEnds : Int → Int} {R_need : Int → Int} {R_waiting : Int → Int} {R_waits : Int → Int} {R_common : Int → Int} {R_met : Int → Int} {A_number : Int → Int} {Q_mined : Int → Int64} {Q_all : Int → Int64} {Q_choices : Int → Int64} {Q_term : Int → Int64} {Q_divisor : Int → Int64} {Q_spare : Int → Int64} {X_limbs : Int → Int64} {X_sum : Int → Int64} {Y_limbs : Int → Int64} {Y_sum : Int → Int64} (x2 : Int) (rx2 : inR x2) (post : (Int → Int64) → Prop) (h : P_X10_addProduct_55_58_54 post Q_choices Q_term X_limbs x2) : mV l yX10_addProduct (Cond.code yX10_addProduct cX10_addProduct 10 none :: GT) ({ frames := 2, cells := 0, slots := 0, locals := 120 } : Room) [.ref (ad 55), .ref (ad 58), .int (iI x2), .ref (ad 54)] K ad (dW D_hasBoard D_beganBlank F_mines F_moves F_changes G_width G_height G_size B_parts B_longest S_groups S_askedGroup S_taken R_waitingCount R_metCount A_grade A_cell A_mined A_withTotal A_numbers X_low X_high Y_low Y_high F_mined F_number F_state F_cellsIn F_unknownNear F_hitNear F_moveStart F_changed F_waiting F_seen G_near G_nearEnd B_chosen B_partOf B_rest B_unknowns B_partStart B_cells S_minedSet S_safeSet S_partSet S_tally S_askedTally S_groupOf S_groupSize S_links S_linkEnd S_pick S_groupMinedSet S_groupSafeSet O_sums O_nextSums R_found R_openEnds R_need R_waiting R_waits R_common R_met A_number Q_mined Q_all Q_choices Q_term Q_divisor Q_spare X_limbs X_sum Y_limbs Y_sum) (fun u9 => ∃ Q_term9, u9 = (dW D_hasBoard D_beganBlank F_mines F_moves F_changes G_width G_height G_size B_parts B_longest S_groups S_askedGroup S_taken R_waitingCount R_metCount A_grade A_cell A_mined A_withTotal A_numbers X_low X_high Y_low Y_high F_mined F_number F_state F_cellsIn F_unknownNear F_hitNear F_moveStart F_changed F_waiting F_seen G_near G_nearEnd B_chosen B_partOf B_rest B_unknowns B_partStart B_cells S_minedSet S_safeSet S_partSet S_tally S_askedTally S_groupOf S_groupSize S_links S_linkEnd S_pick S_groupMinedSet S_groupSafeSet O_sums O_nextSums R_found R_openEnds R_need R_waiting R_waits R_common R_met A_number Q_mined Q_all Q_choices Q_term9 Q_divisor Q_spare X_limbs X_sum Y_limbs Y_sum) ∧ post Q_term9) := by
  refine mV_of (lv0 := [(0, .ref (ad 55)), (1, .ref (ad 58)), (2, .int (iI x2)), (3, .ref (ad 54))]) (by decide) (Nat.le_of_ble_eq_true rfl) rfl ?_
  intro p e s m args below meth c Q A C ret
  replace C : Cx p ({ frames := 2, cells := 0, slots := 0, locals := 120 } : Room) m c 0 0 cX10_addProduct 10 s args RX10 K A := C
  unfold P_X10_addProduct_55_58_54 at h
  refine wa_iconst C (z := 0) dX10_addProduct_0 rfl ?_
  refine wa_istore C dX10_addProduct_1 (by decide) rfl ?_
  obtain ⟨Inv_1, ⟨n_2, h0Inv_1⟩, hInv_1⟩ := h
  have k_5 : ∀ (n_3 : Nat) (x4_6 : Int) (Q_term_7 : Int → Int64), inR x4_6 → Inv_1 n_3 x4_6 Q_term_7 → WA p l e ({ frames := 2, cells := 0, slots := 0, locals := 120 } : Room) s m args below meth c 0 0 Q K ad 10 A 3 [(0, .ref (ad 55)), (1, .ref (ad 58)), (2, .int (iI x2)), (3, .ref (ad 54)), (4, .int (iI x4_6))] [] (dW D_hasBoard D_beganBlank F_mines F_moves F_changes G_width G_height G_size B_parts B_longest S_groups S_askedGroup S_taken R_waitingCount R_metCount A_grade A_cell A_mined A_withTotal A_numbers X_low X_high Y_low Y_high F_mined F_number F_state F_cellsIn F_unknownNear F_hitNear F_moveStart F_changed F_waiting F_seen G_near G_nearEnd B_chosen B_partOf B_rest B_unknowns B_partStart B_cells S_minedSet S_safeSet S_partSet S_tally S_askedTally S_groupOf S_groupSize S_links S_linkEnd S_pick S_groupMinedSet S_groupSafeSet O_sums O_nextSums R_found R_openEnds R_need R_waiting R_waits R_common R_met A_number Q_mined Q_all Q_choices Q_term_7 Q_divisor Q_spare X_limbs X_sum Y_limbs Y_sum) := by
    intro n_3
    induction n_3 using Nat.strongRecOn with
    | ind n_3 ih_4 =>
      intro x4_6 Q_term_7 rx4_6 h
      replace h := hInv_1 n_3 x4_6 Q_term_7 rx4_6 h
      refine wa_iload C 4 rfl dX10_addProduct_3 ?_
      refine wa_bipush C (z := 6) dX10_addProduct_5 (by decide) ?_
      refine wa_icmp_ge C (tgt := 93) rx4_6 (inR_k 6 rfl) dX10_addProduct_7 (by decide) (fun c_8 => ?_) (fun c_8 => ?_)
      · replace h := h.1 c_8
        exact ret dX10_addProduct_93 ⟨_, rfl, h⟩
      · replace h := h.2 c_8
        refine wa_aload_n C 1 rfl dX10_addProduct_10 rfl ?_
        refine wa_iload_n C 2 rfl dX10_addProduct_11 rfl ?_
        refine wa_iload C 4 rfl dX10_addProduct_12 ?_
        refine wa_iadd C dX10_addProduct_14 ?_
        obtain ⟨t_9, h⟩ := h
        refine wa_lald C 58 dW_58 dX10_addProduct_15 t_9.1 t_9.2 (fun v_10 ev_10 => ?_)
        replace h := h v_10 ev_10
        refine wa_lstore C dX10_addProduct_16 (by decide) rfl ?_
        refine wa_lconst C (v := 0) dX10_addProduct_18 rfl ?_
        refine wa_lstore C dX10_addProduct_19 (by decide) rfl ?_
        refine wa_iconst C (z := 0) dX10_addProduct_21 rfl ?_
        refine wa_istore C dX10_addProduct_22 (by decide) rfl ?_
        obtain ⟨Inv_11, ⟨n_12, h0Inv_11⟩, hInv_11⟩ := h
        have k_15 : ∀ (n_13 : Nat) (x7_16 : Int64) (x9_17 : Int) (Q_term_18 : Int → Int64), inR x9_17 → Inv_11 n_13 x7_16 x9_17 Q_term_18 → WA p l e ({ frames := 2, cells := 0, slots := 0, locals := 120 } : Room) s m args below meth c 0 0 Q K ad 10 A 24 [(0, .ref (ad 55)), (1, .ref (ad 58)), (2, .int (iI x2)), (3, .ref (ad 54)), (4, .int (iI x4_6)), (5, .long v_10), (7, .long x7_16), (9, .int (iI x9_17))] [] (dW D_hasBoard D_beganBlank F_mines F_moves F_changes G_width G_height G_size B_parts B_longest S_groups S_askedGroup S_taken R_waitingCount R_metCount A_grade A_cell A_mined A_withTotal A_numbers X_low X_high Y_low Y_high F_mined F_number F_state F_cellsIn F_unknownNear F_hitNear F_moveStart F_changed F_waiting F_seen G_near G_nearEnd B_chosen B_partOf B_rest B_unknowns B_partStart B_cells S_minedSet S_safeSet S_partSet S_tally S_askedTally S_groupOf S_groupSize S_links S_linkEnd S_pick S_groupMinedSet S_groupSafeSet O_sums O_nextSums R_found R_openEnds R_need R_waiting R_waits R_common R_met A_number Q_mined Q_all Q_choices Q_term_18 Q_divisor Q_spare X_limbs X_sum Y_limbs Y_sum) := by
          intro n_13
          induction n_13 using Nat.strongRecOn with
          | ind n_13 ih_14 =>
            intro x7_16 x9_17 Q_term_18 rx9_17 h
            replace h := hInv_11 n_13 x7_16 x9_17 Q_term_18 rx9_17 h
            refine wa_lload C 5 rfl dX10_addProduct_24 ?_
            refine wa_lconst C (v := 0) dX10_addProduct_26 rfl ?_
            refine wa_lcmp C dX10_addProduct_27 ?_
            obtain ⟨J_19, h, hJ_19⟩ := h
            have k_20 : J_19 → WA p l e ({ frames := 2, cells := 0, slots := 0, locals := 120 } : Room) s m args below meth c 0 0 Q K ad 10 A 87 [(0, .ref (ad 55)), (1, .ref (ad 58)), (2, .int (iI x2)), (3, .ref (ad 54)), (4, .int (iI x4_6))] [] (dW D_hasBoard D_beganBlank F_mines F_moves F_changes G_width G_height G_size B_parts B_longest S_groups S_askedGroup S_taken R_waitingCount R_metCount A_grade A_cell A_mined A_withTotal A_numbers X_low X_high Y_low Y_high F_mined F_number F_state F_cellsIn F_unknownNear F_hitNear F_moveStart F_changed F_waiting F_seen G_near G_nearEnd B_chosen B_partOf B_rest B_unknowns B_partStart B_cells S_minedSet S_safeSet S_partSet S_tally S_askedTally S_groupOf S_groupSize S_links S_linkEnd S_pick S_groupMinedSet S_groupSafeSet O_sums O_nextSums R_found R_openEnds R_need R_waiting R_waits R_common R_met A_number Q_mined Q_all Q_choices Q_term_18 Q_divisor Q_spare X_limbs X_sum Y_limbs Y_sum) := by
              intro h
              replace h := hJ_19 h
              obtain ⟨r_21, h⟩ := h
              refine wa_iinc C (lv' := fun w9 => [(4, .int (iI w9)), (0, .ref (ad 55)), (1, .ref (ad 58)), (2, .int (iI x2)), (3, .ref (ad 54))]) 4 rfl dX10_addProduct_87 (by decide) (fun _ => rfl) (fun x4_22 ex4_22 => ?_)
              replace h := h x4_22 ex4_22
              have rx4_22 : inR x4_22 := by rw [ex4_22]; exact r_21
              refine wa_goto C (tgt := 3) dX10_addProduct_90 (by decide) ?_
              obtain ⟨n_23, ln_23, h⟩ := h
              refine wa_sub C [1, 2, 3, 4, 0] rfl ?_
              exact ih_4 n_23 ln_23 x4_22 Q_term_18 rx4_22 h
            refine wa_if_eq C (tgt := 87) (lcI_r _ _) dX10_addProduct_28 (by decide) (fun c_24 => ?_) (fun c_24 => ?_)
            · replace h := h.1 c_24
              refine wa_sub C [0, 1, 2, 3, 4] rfl ?_
              exact k_20 h
            · replace h := h.2 c_24
              refine wa_iload C 4 rfl dX10_addProduct_31 ?_
              refine wa_iload C 7 rfl dX10_addProduct_33 ?_
              refine wa_iadd C dX10_addProduct_35 ?_
              refine wa_bipush C (z := 6) dX10_addProduct_36 (by decide) ?_
              obtain ⟨r_25, h⟩ := h
              refine wa_icmp_ge C (tgt := 87) r_25 (inR_k 6 rfl) dX10_addProduct_38 (by decide) (fun c_26 => ?_) (fun c_26 => ?_)
              · replace h := h.1 c_26
                refine wa_sub C [0, 1, 2, 3, 4] rfl ?_
                exact k_20 h
              · replace h := h.2 c_26
                refine wa_lload C 6 rfl dX10_addProduct_41 ?_
                refine wa_aload_n C 0 rfl dX10_addProduct_43 rfl ?_
                refine wa_iload C 4 rfl dX10_addProduct_44 ?_
                refine wa_iload C 7 rfl dX10_addProduct_46 ?_
                refine wa_iadd C dX10_addProduct_48 ?_
                obtain ⟨t_27, h⟩ := h
                refine wa_lald C 55 dW_55 dX10_addProduct_49 t_27.1 t_27.2 (fun v_28 ev_28 => ?_)
                replace h := h v_28 ev_28
                refine wa_lload C 5 rfl dX10_addProduct_50 ?_
                refine wa_aload_n C 3 rfl dX10_addProduct_52 rfl ?_
                refine wa_iload C 7 rfl dX10_addProduct_53 ?_
                obtain ⟨t_29, h⟩ := h
                refine wa_lald C 54 dW_54 dX10_addProduct_55 t_29.1 t_29.2 (fun v_30 ev_30 => ?_)
                replace h := h v_30 ev_30
                refine wa_lmul C dX10_addProduct_56 ?_
                refine wa_ladd C dX10_addProduct_57 ?_
                refine wa_ladd C dX10_addProduct_58 ?_
                refine wa_nml (fun x7_31 ex7_31 => ?_)
                replace h := h x7_31 ex7_31
                refine wa_lstore C dX10_addProduct_59 (by decide) rfl ?_
                refine wa_aload_n C 1 rfl dX10_addProduct_61 rfl ?_
                refine wa_iload C 5 rfl dX10_addProduct_62 ?_
                refine wa_iload C 7 rfl dX10_addProduct_64 ?_
                refine wa_iadd C dX10_addProduct_66 ?_
                refine wa_lload C 0 rfl dX10_addProduct_67 ?_
                refine wa_ldc2 C gw_1108 dX10_addProduct_69 ?_
                refine wa_land C dX10_addProduct_72 ?_
                obtain ⟨t_32, h⟩ := h
                refine wa_last C (ws' := fun w9 => (dW D_hasBoard D_beganBlank F_mines F_moves F_changes G_width G_height G_size B_parts B_longest S_groups S_askedGroup S_taken R_waitingCount R_metCount A_grade A_cell A_mined A_withTotal A_numbers X_low X_high Y_low Y_high F_mined F_number F_state F_cellsIn F_unknownNear F_hitNear F_moveStart F_changed F_waiting F_seen G_near G_nearEnd B_chosen B_partOf B_rest B_unknowns B_partStart B_cells S_minedSet S_safeSet S_partSet S_tally S_askedTally S_groupOf S_groupSize S_links S_linkEnd S_pick S_groupMinedSet S_groupSafeSet O_sums O_nextSums R_found R_openEnds R_need R_waiting R_waits R_common R_met A_number Q_mined Q_all Q_choices w9 Q_divisor Q_spare X_limbs X_sum Y_limbs Y_sum)) 55 dW_55 dX10_addProduct_73 t_32.1 t_32.2 dWs_55 (fun Q_term_33 eQ_term_33 => ?_)
                replace h := h Q_term_33 eQ_term_33
                refine wa_lload C 0 rfl dX10_addProduct_74 ?_
                refine wa_bipush C (z := 31) dX10_addProduct_76 (by decide) ?_
                refine wa_lushr C dX10_addProduct_78 ?_
                refine wa_nml (fun x7_34 ex7_34 => ?_)
                replace h := h x7_34 ex7_34
                refine wa_lstore C dX10_addProduct_79 (by decide) rfl ?_
                obtain ⟨r_35, h⟩ := h
                refine wa_iinc C (lv' := fun w9 => [(9, .int (iI w9)), (7, .long x7_34), (0, .ref (ad 55)), (1, .ref (ad 58)), (2, .int (iI x2)), (3, .ref (ad 54)), (4, .int (iI x4_6)), (5, .long v_10)]) 7 rfl dX10_addProduct_81 (by decide) (fun _ => rfl) (fun x9_36 ex9_36 => ?_)
                replace h := h x9_36 ex9_36
                have rx9_36 : inR x9_36 := by rw [ex9_36]; exact r_35
                refine wa_goto C (tgt := 24) dX10_addProduct_84 (by decide) ?_
                obtain ⟨n_37, ln_37, h⟩ := h
                refine wa_sub C [2, 3, 4, 5, 6, 7, 1, 0] rfl ?_
                exact ih_14 n_37 ln_37 x7_34 x9_36 Q_term_33 rx9_36 h
        refine wa_sub C [3, 4, 5, 6, 7, 2, 1, 0] rfl ?_
        exact k_15 n_12 (0 : Int64) 0 Q_term_7 (inR_k 0 rfl) h0Inv_11
  refine wa_sub C [1, 2, 3, 4, 0] rfl ?_
  exact k_5 n_2 0 Q_term (inR_k 0 rfl) h0Inv_1
def P_X10_addScaled_53_55 (post : (Int → Int64) → Prop) (Q_all : Int → Int64) (Q_term : Int → Int64) (x2 : Int) (x3 : Int) : Prop :=
  ∃ Inv_1 : Nat → (Int64) → (Int) → (Int → Int64) → Prop, (∃ n_2 : Nat, Inv_1 n_2 (0 : Int64) 0 Q_all) ∧ ∀ (n_3 : Nat) (x4_6 : Int64) (x6_7 : Int) (Q_all_8 : Int → Int64), inR x6_7 → Inv_1 n_3 x4_6 x6_7 Q_all_8 → ((6 ≤ x6_7 → (post Q_all_8)) ∧ (¬ 6 ≤ x6_7 → ((0 ≤ x6_7 ∧ x6_7 < 6) ∧ (∀ v_11 : Int64, v_11 = Q_all_8 x6_7 → ((0 ≤ (x2 + x6_7) ∧ (x2 + x6_7) < 6) ∧ (∀ v_13 : Int64, v_13 = Q_term (x2 + x6_7) → (∀ x4_14 : Int64, x4_14 = (x4_6 + (v_11 + (v_13 * (Int64.ofInt x3)))) → ((0 ≤ x6_7 ∧ x6_7 < 6) ∧ (∀ Q_all_16 : Int → Int64, Q_all_16 = upZ Q_all_8 x6_7 (x4_14 &&& (2147483647 : Int64)) → (∀ x4_17 : Int64, x4_17 = (ushrL x4_14 31) → (inR (x6_7 + 1) ∧ (∀ x6_19 : Int, x6_19 = (x6_7 + 1) → (∃ n_20 : Nat, n_20 < n_3 ∧ Inv_1 n_20 x4_17 x6_19 Q_all_16)))))))))))))
set_option maxRecDepth 100000 in
set_option maxHeartbeats 4000000 in
theorem c_X10_addScaled_53_55 (l : Launch) (K : wK) (ad : Nat → Nat) {D_hasBoard : Int} {D_beganBlank : Int} {F_mines : Int} {F_moves : Int} {F_changes : Int} {G_width : Int} {G_height : Int} {G_size : Int} {B_parts : Int} {B_longest : Int} {S_groups : Int} {S_askedGroup : Int} {S_taken : Int} {R_waitingCount : Int} {R_metCount : Int} {A_grade : Int} {A_cell : Int} {A_mined : Int} {A_withTotal : Int} {A_numbers : Int} {X_low : Int} {X_high : Int} {Y_low : Int} {Y_high : Int} {F_mined : Int → Int} {F_number : Int → Int} {F_state : Int → Int} {F_cellsIn : Int → Int} {F_unknownNear : Int → Int} {F_hitNear : Int → Int} {F_moveStart : Int → Int} {F_changed : Int → Int} {F_waiting : Int → Int} {F_seen : Int → Int} {G_near : Int → Int} {G_nearEnd : Int → Int} {B_chosen : Int → Int} {B_partOf : Int → Int} {B_rest : Int → Int} {B_unknowns : Int → Int} {B_partStart : Int → Int} {B_cells : Int → Int} {S_minedSet : Int → Int} {S_safeSet : Int → Int} {S_partSet : Int → Int} {S_tally : Int → Int} {S_askedTally : Int → Int} {S_groupOf : Int → Int} {S_groupSize : Int → Int} {S_links : Int → Int} {S_linkEnd : Int → Int} {S_pick : Int → Int} {S_groupMinedSet : Int → Int} {S_groupSafeSet : Int → Int} {O_sums : Int → Int64} {O_nextSums : Int → Int64} {R_found : Int → Int} {R_openEnds : Int → Int} {R_need : Int → Int} {R_waiting : Int → Int} {R_waits : Int → Int} {R_common : Int → Int} {R_met : Int → Int} {A_number : Int → Int} {Q_mined : Int → Int64} {Q_all : Int → Int64} {Q_choices : Int → Int64} {Q_term : Int → Int64} {Q_divisor : Int → Int64} {Q_spare : Int → Int64} {X_limbs : Int → Int64} {X_sum : Int → Int64} {Y_limbs : Int → Int64} {Y_sum : Int → Int64} (x2 : Int) (x3 : Int) (rx2 : inR x2) (rx3 : inR x3) (post : (Int → Int64) → Prop) (h : P_X10_addScaled_53_55 post Q_all Q_term x2 x3) : mV l yX10_addScaled (Cond.code yX10_addScaled cX10_addScaled 7 none :: GT) ({ frames := 2, cells := 0, slots := 0, locals := 120 } : Room) [.ref (ad 53), .ref (ad 55), .int (iI x2), .int (iI x3)] K ad (dW D_hasBoard D_beganBlank F_mines F_moves F_changes G_width G_height G_size B_parts B_longest S_groups S_askedGroup S_taken R_waitingCount R_metCount A_grade A_cell A_mined A_withTotal A_numbers X_low X_high Y_low Y_high F_mined F_number F_state F_cellsIn F_unknownNear F_hitNear F_moveStart F_changed F_waiting F_seen G_near G_nearEnd B_chosen B_partOf B_rest B_unknowns B_partStart B_cells S_minedSet S_safeSet S_partSet S_tally S_askedTally S_groupOf S_groupSize S_links S_linkEnd S_pick S_groupMinedSet S_groupSafeSet O_sums O_nextSums R_found R_openEnds R_need R_waiting R_waits R_common R_met A_number Q_mined Q_all Q_choices Q_term Q_divisor Q_spare X_limbs X_sum Y_limbs Y_sum) (fun u9 => ∃ Q_all9, u9 = (dW D_hasBoard D_beganBlank F_mines F_moves F_changes G_width G_height G_size B_parts B_longest S_groups S_askedGroup S_taken R_waitingCount R_metCount A_grade A_cell A_mined A_withTotal A_numbers X_low X_high Y_low Y_high F_mined F_number F_state F_cellsIn F_unknownNear F_hitNear F_moveStart F_changed F_waiting F_seen G_near G_nearEnd B_chosen B_partOf B_rest B_unknowns B_partStart B_cells S_minedSet S_safeSet S_partSet S_tally S_askedTally S_groupOf S_groupSize S_links S_linkEnd S_pick S_groupMinedSet S_groupSafeSet O_sums O_nextSums R_found R_openEnds R_need R_waiting R_waits R_common R_met A_number Q_mined Q_all9 Q_choices Q_term Q_divisor Q_spare X_limbs X_sum Y_limbs Y_sum) ∧ post Q_all9) := by
  refine mV_of (lv0 := [(0, .ref (ad 53)), (1, .ref (ad 55)), (2, .int (iI x2)), (3, .int (iI x3))]) (by decide) (Nat.le_of_ble_eq_true rfl) rfl ?_
  intro p e s m args below meth c Q A C ret
  replace C : Cx p ({ frames := 2, cells := 0, slots := 0, locals := 120 } : Room) m c 0 0 cX10_addScaled 7 s args RX10 K A := C
  unfold P_X10_addScaled_53_55 at h
  refine wa_lconst C (v := 0) dX10_addScaled_0 rfl ?_
  refine wa_lstore C dX10_addScaled_1 (by decide) rfl ?_
  refine wa_iconst C (z := 0) dX10_addScaled_3 rfl ?_
  refine wa_istore C dX10_addScaled_4 (by decide) rfl ?_
  obtain ⟨Inv_1, ⟨n_2, h0Inv_1⟩, hInv_1⟩ := h
  have k_5 : ∀ (n_3 : Nat) (x4_6 : Int64) (x6_7 : Int) (Q_all_8 : Int → Int64), inR x6_7 → Inv_1 n_3 x4_6 x6_7 Q_all_8 → WA p l e ({ frames := 2, cells := 0, slots := 0, locals := 120 } : Room) s m args below meth c 0 0 Q K ad 7 A 6 [(0, .ref (ad 53)), (1, .ref (ad 55)), (2, .int (iI x2)), (3, .int (iI x3)), (4, .long x4_6), (6, .int (iI x6_7))] [] (dW D_hasBoard D_beganBlank F_mines F_moves F_changes G_width G_height G_size B_parts B_longest S_groups S_askedGroup S_taken R_waitingCount R_metCount A_grade A_cell A_mined A_withTotal A_numbers X_low X_high Y_low Y_high F_mined F_number F_state F_cellsIn F_unknownNear F_hitNear F_moveStart F_changed F_waiting F_seen G_near G_nearEnd B_chosen B_partOf B_rest B_unknowns B_partStart B_cells S_minedSet S_safeSet S_partSet S_tally S_askedTally S_groupOf S_groupSize S_links S_linkEnd S_pick S_groupMinedSet S_groupSafeSet O_sums O_nextSums R_found R_openEnds R_need R_waiting R_waits R_common R_met A_number Q_mined Q_all_8 Q_choices Q_term Q_divisor Q_spare X_limbs X_sum Y_limbs Y_sum) := by
    intro n_3
    induction n_3 using Nat.strongRecOn with
    | ind n_3 ih_4 =>
      intro x4_6 x6_7 Q_all_8 rx6_7 h
      replace h := hInv_1 n_3 x4_6 x6_7 Q_all_8 rx6_7 h
      refine wa_iload C 5 rfl dX10_addScaled_6 ?_
      refine wa_bipush C (z := 6) dX10_addScaled_8 (by decide) ?_
      refine wa_icmp_ge C (tgt := 55) rx6_7 (inR_k 6 rfl) dX10_addScaled_10 (by decide) (fun c_9 => ?_) (fun c_9 => ?_)
      · replace h := h.1 c_9
        exact ret dX10_addScaled_55 ⟨_, rfl, h⟩
      · replace h := h.2 c_9
        refine wa_lload C 4 rfl dX10_addScaled_13 ?_
        refine wa_aload_n C 0 rfl dX10_addScaled_15 rfl ?_
        refine wa_iload C 5 rfl dX10_addScaled_16 ?_
        obtain ⟨t_10, h⟩ := h
        refine wa_lald C 53 dW_53 dX10_addScaled_18 t_10.1 t_10.2 (fun v_11 ev_11 => ?_)
        replace h := h v_11 ev_11
        refine wa_aload_n C 1 rfl dX10_addScaled_19 rfl ?_
        refine wa_iload_n C 2 rfl dX10_addScaled_20 rfl ?_
        refine wa_iload C 5 rfl dX10_addScaled_21 ?_
        refine wa_iadd C dX10_addScaled_23 ?_
        obtain ⟨t_12, h⟩ := h
        refine wa_lald C 55 dW_55 dX10_addScaled_24 t_12.1 t_12.2 (fun v_13 ev_13 => ?_)
        replace h := h v_13 ev_13
        refine wa_iload_n C 3 rfl dX10_addScaled_25 rfl ?_
        refine wa_i2l C rx3 dX10_addScaled_26 ?_
        refine wa_lmul C dX10_addScaled_27 ?_
        refine wa_ladd C dX10_addScaled_28 ?_
        refine wa_ladd C dX10_addScaled_29 ?_
        refine wa_nml (fun x4_14 ex4_14 => ?_)
        replace h := h x4_14 ex4_14
        refine wa_lstore C dX10_addScaled_30 (by decide) rfl ?_
        refine wa_aload_n C 1 rfl dX10_addScaled_32 rfl ?_
        refine wa_iload C 5 rfl dX10_addScaled_33 ?_
        refine wa_lload C 0 rfl dX10_addScaled_35 ?_
        refine wa_ldc2 C gw_1108 dX10_addScaled_37 ?_
        refine wa_land C dX10_addScaled_40 ?_
        obtain ⟨t_15, h⟩ := h
        refine wa_last C (ws' := fun w9 => (dW D_hasBoard D_beganBlank F_mines F_moves F_changes G_width G_height G_size B_parts B_longest S_groups S_askedGroup S_taken R_waitingCount R_metCount A_grade A_cell A_mined A_withTotal A_numbers X_low X_high Y_low Y_high F_mined F_number F_state F_cellsIn F_unknownNear F_hitNear F_moveStart F_changed F_waiting F_seen G_near G_nearEnd B_chosen B_partOf B_rest B_unknowns B_partStart B_cells S_minedSet S_safeSet S_partSet S_tally S_askedTally S_groupOf S_groupSize S_links S_linkEnd S_pick S_groupMinedSet S_groupSafeSet O_sums O_nextSums R_found R_openEnds R_need R_waiting R_waits R_common R_met A_number Q_mined w9 Q_choices Q_term Q_divisor Q_spare X_limbs X_sum Y_limbs Y_sum)) 53 dW_53 dX10_addScaled_41 t_15.1 t_15.2 dWs_53 (fun Q_all_16 eQ_all_16 => ?_)
        replace h := h Q_all_16 eQ_all_16
        refine wa_lload C 0 rfl dX10_addScaled_42 ?_
        refine wa_bipush C (z := 31) dX10_addScaled_44 (by decide) ?_
        refine wa_lushr C dX10_addScaled_46 ?_
        refine wa_nml (fun x4_17 ex4_17 => ?_)
        replace h := h x4_17 ex4_17
        refine wa_lstore C dX10_addScaled_47 (by decide) rfl ?_
        obtain ⟨r_18, h⟩ := h
        refine wa_iinc C (lv' := fun w9 => [(6, .int (iI w9)), (4, .long x4_17), (0, .ref (ad 53)), (1, .ref (ad 55)), (2, .int (iI x2)), (3, .int (iI x3))]) 5 rfl dX10_addScaled_49 (by decide) (fun _ => rfl) (fun x6_19 ex6_19 => ?_)
        replace h := h x6_19 ex6_19
        have rx6_19 : inR x6_19 := by rw [ex6_19]; exact r_18
        refine wa_goto C (tgt := 6) dX10_addScaled_52 (by decide) ?_
        obtain ⟨n_20, ln_20, h⟩ := h
        refine wa_sub C [2, 3, 4, 5, 1, 0] rfl ?_
        exact ih_4 n_20 ln_20 x4_17 x6_19 Q_all_16 rx6_19 h
  refine wa_sub C [2, 3, 4, 5, 1, 0] rfl ?_
  exact k_5 n_2 (0 : Int64) 0 Q_all (inR_k 0 rfl) h0Inv_1
def P_X5_addPlacements_9_53 (post : (Int → Int64) → (Int → Int64) → (Int → Int64) → Prop) (F_mines : Int) (B_parts : Int) (X_low : Int) (X_high : Int) (F_cellsIn : Int → Int) (B_partStart : Int → Int) (Q_all : Int → Int64) (Q_choices : Int → Int64) (Q_term : Int → Int64) (X_limbs : Int → Int64) (x3 : Int) : Prop :=
  P_X1_freeCells (fun (c_1 : Int) => inR c_1 → (P_X2_minesLeft (fun (c_2 : Int) => inR c_2 → (P_X10_set_54 (fun (Q_choices_3 : Int → Int64) => (∃ Inv_4 : Nat → (Int) → (Int → Int64) → (Int → Int64) → (Int → Int64) → Prop, (∃ n_5 : Nat, Inv_4 n_5 0 Q_all Q_choices_3 Q_term) ∧ ∀ (n_6 : Nat) (x6_9 : Int) (Q_all_10 : Int → Int64) (Q_choices_11 : Int → Int64) (Q_term_12 : Int → Int64), inR x6_9 → Inv_4 n_6 x6_9 Q_all_10 Q_choices_11 Q_term_12 → ((c_1 < x6_9 → (post Q_all_10 Q_choices_11 Q_term_12)) ∧ (¬ c_1 < x6_9 → (inR (c_2 - X_low) ∧ (((c_2 - X_low) < x6_9 → (post Q_all_10 Q_choices_11 Q_term_12)) ∧ (¬ (c_2 - X_low) < x6_9 → (inR (c_2 - x6_9) ∧ (∃ J_19 : (Int → Int64) → (Int → Int64) → Prop, ((X_high < (c_2 - x6_9) → (J_19 Q_all_10 Q_term_12)) ∧ (¬ X_high < (c_2 - x6_9) → (P_J7_fill_d0a16_55 (fun (Q_term_30 : Int → Int64) => (inR ((c_2 - x6_9) * 6) ∧ (P_X10_addProduct_55_58_54 (fun (Q_term_32 : Int → Int64) => (∃ J_33 : (Int) → Prop, ((x3 = 0 → (J_33 1)) ∧ (¬ x3 = 0 → (J_33 x6_9))) ∧ (∀ (z_35 : Int), inR z_35 → J_33 z_35 → (P_X10_addScaled_53_55 (fun (Q_all_36 : Int → Int64) => (J_19 Q_all_36 Q_term_32)) Q_all_10 Q_term_32 0 z_35)))) Q_choices_11 Q_term_30 X_limbs ((c_2 - x6_9) * 6)))) Q_term_12 (0 : Int64)))) ∧ (∀ (Q_all_21 : Int → Int64) (Q_term_22 : Int → Int64), J_19 Q_all_21 Q_term_22 → (inR (c_1 - x6_9) ∧ (P_X10_scale_54 (fun (Q_choices_24 : Int → Int64) => (inR (x6_9 + 1) ∧ (P_X10_shrink_54 (fun (Q_choices_26 : Int → Int64) => (∀ x6_27 : Int, x6_27 = (x6_9 + 1) → (∃ n_28 : Nat, n_28 < n_6 ∧ Inv_4 n_28 x6_27 Q_all_21 Q_choices_26 Q_term_22))) Q_choices_24 (x6_9 + 1)))) Q_choices_11 (c_1 - x6_9))))))))))))) Q_choices 1)) F_mines F_cellsIn )) B_parts F_cellsIn B_partStart 
set_option maxRecDepth 100000 in
set_option maxHeartbeats 4000000 in
theorem c_X5_addPlacements_9_53 (l : Launch) (K : wK) (ad : Nat → Nat) {D_hasBoard : Int} {D_beganBlank : Int} {F_mines : Int} {F_moves : Int} {F_changes : Int} {G_width : Int} {G_height : Int} {G_size : Int} {B_parts : Int} {B_longest : Int} {S_groups : Int} {S_askedGroup : Int} {S_taken : Int} {R_waitingCount : Int} {R_metCount : Int} {A_grade : Int} {A_cell : Int} {A_mined : Int} {A_withTotal : Int} {A_numbers : Int} {X_low : Int} {X_high : Int} {Y_low : Int} {Y_high : Int} {F_mined : Int → Int} {F_number : Int → Int} {F_state : Int → Int} {F_cellsIn : Int → Int} {F_unknownNear : Int → Int} {F_hitNear : Int → Int} {F_moveStart : Int → Int} {F_changed : Int → Int} {F_waiting : Int → Int} {F_seen : Int → Int} {G_near : Int → Int} {G_nearEnd : Int → Int} {B_chosen : Int → Int} {B_partOf : Int → Int} {B_rest : Int → Int} {B_unknowns : Int → Int} {B_partStart : Int → Int} {B_cells : Int → Int} {S_minedSet : Int → Int} {S_safeSet : Int → Int} {S_partSet : Int → Int} {S_tally : Int → Int} {S_askedTally : Int → Int} {S_groupOf : Int → Int} {S_groupSize : Int → Int} {S_links : Int → Int} {S_linkEnd : Int → Int} {S_pick : Int → Int} {S_groupMinedSet : Int → Int} {S_groupSafeSet : Int → Int} {O_sums : Int → Int64} {O_nextSums : Int → Int64} {R_found : Int → Int} {R_openEnds : Int → Int} {R_need : Int → Int} {R_waiting : Int → Int} {R_waits : Int → Int} {R_common : Int → Int} {R_met : Int → Int} {A_number : Int → Int} {Q_mined : Int → Int64} {Q_all : Int → Int64} {Q_choices : Int → Int64} {Q_term : Int → Int64} {Q_divisor : Int → Int64} {Q_spare : Int → Int64} {X_limbs : Int → Int64} {X_sum : Int → Int64} {Y_limbs : Int → Int64} {Y_sum : Int → Int64} (x3 : Int) (bx3 : x3 = 0 ∨ x3 = 1) (post : (Int → Int64) → (Int → Int64) → (Int → Int64) → Prop) (h : P_X5_addPlacements_9_53 post F_mines B_parts X_low X_high F_cellsIn B_partStart Q_all Q_choices Q_term X_limbs x3) : mV l yX5_addPlacements (Cond.code yX5_addPlacements cX5_addPlacements 7 none :: GT) ({ frames := 4, cells := 0, slots := 0, locals := 240 } : Room) [.ref (ad 8), .ref (ad 9), .ref (ad 53), .int (iI x3)] K ad (dW D_hasBoard D_beganBlank F_mines F_moves F_changes G_width G_height G_size B_parts B_longest S_groups S_askedGroup S_taken R_waitingCount R_metCount A_grade A_cell A_mined A_withTotal A_numbers X_low X_high Y_low Y_high F_mined F_number F_state F_cellsIn F_unknownNear F_hitNear F_moveStart F_changed F_waiting F_seen G_near G_nearEnd B_chosen B_partOf B_rest B_unknowns B_partStart B_cells S_minedSet S_safeSet S_partSet S_tally S_askedTally S_groupOf S_groupSize S_links S_linkEnd S_pick S_groupMinedSet S_groupSafeSet O_sums O_nextSums R_found R_openEnds R_need R_waiting R_waits R_common R_met A_number Q_mined Q_all Q_choices Q_term Q_divisor Q_spare X_limbs X_sum Y_limbs Y_sum) (fun u9 => ∃ Q_all9 Q_choices9 Q_term9, u9 = (dW D_hasBoard D_beganBlank F_mines F_moves F_changes G_width G_height G_size B_parts B_longest S_groups S_askedGroup S_taken R_waitingCount R_metCount A_grade A_cell A_mined A_withTotal A_numbers X_low X_high Y_low Y_high F_mined F_number F_state F_cellsIn F_unknownNear F_hitNear F_moveStart F_changed F_waiting F_seen G_near G_nearEnd B_chosen B_partOf B_rest B_unknowns B_partStart B_cells S_minedSet S_safeSet S_partSet S_tally S_askedTally S_groupOf S_groupSize S_links S_linkEnd S_pick S_groupMinedSet S_groupSafeSet O_sums O_nextSums R_found R_openEnds R_need R_waiting R_waits R_common R_met A_number Q_mined Q_all9 Q_choices9 Q_term9 Q_divisor Q_spare X_limbs X_sum Y_limbs Y_sum) ∧ post Q_all9 Q_choices9 Q_term9) := by
  refine mV_of (lv0 := [(0, .ref (ad 8)), (1, .ref (ad 9)), (2, .ref (ad 53)), (3, .int (iI x3))]) (by decide) (Nat.le_of_ble_eq_true rfl) rfl ?_
  intro p e s m args below meth c Q A C ret
  replace C : Cx p ({ frames := 4, cells := 0, slots := 0, locals := 240 } : Room) m c 0 0 cX5_addPlacements 7 s args RX5 K A := C
  unfold P_X5_addPlacements_9_53 at h
  refine wa_aload_n C 0 rfl dX5_addPlacements_0 rfl ?_
  refine wa_getR C 8 3 dW_8 rfl rfl (by decide) okX5 gw_411 dX5_addPlacements_1 ?_
  refine wa_callVi C (k := 3) (As := []) (rest := []) (c_X1_freeCells l K ad  _ h) gw_806 gw_1117 dW_3 rfl gw_804 gw_805 gw_4 q_X1_freeCells rfl rfl rfl ⟨by decide, by decide⟩ rfl (Nat.le_of_ble_eq_true rfl) dX5_addPlacements_4 (fun c_1 u9 rc_1 hp => ?_)
  obtain ⟨rfl, h⟩ := hp
  replace h := h rc_1
  refine wa_istore C dX5_addPlacements_7 (by decide) rfl ?_
  refine wa_aload_n C 1 rfl dX5_addPlacements_9 rfl ?_
  refine wa_getR C 8 2 dW_8 rfl rfl (by decide) okX5 gw_410 dX5_addPlacements_10 ?_
  refine wa_callVi C (k := 1) (As := []) (rest := []) (c_X2_minesLeft l K ad  _ h) gw_829 gw_1118 dW_1 rfl gw_827 gw_828 gw_2 q_X2_minesLeft rfl rfl rfl ⟨by decide, by decide⟩ rfl (Nat.le_of_ble_eq_true rfl) dX5_addPlacements_13 (fun c_2 u9 rc_2 hp => ?_)
  obtain ⟨rfl, h⟩ := hp
  replace h := h rc_2
  refine wa_istore C dX5_addPlacements_16 (by decide) rfl ?_
  refine wa_aload_n C 2 rfl dX5_addPlacements_18 rfl ?_
  refine wa_getR C 8 7 dW_8 rfl rfl (by decide) okX5 gw_415 dX5_addPlacements_19 ?_
  refine wa_iconst C (z := 1) dX5_addPlacements_22 rfl ?_
  refine wa_callSv C (As := [.ref (ad 54), .int (iI 1)]) (rest := []) (c_X10_set_54 l K ad 1 (inR_k 1 rfl) _ h) gw_1093 gw_1119 gw_1092 gw_23 q_X10_set rfl rfl rfl ⟨by decide, by decide⟩ rfl (Nat.le_of_ble_eq_true rfl) dX5_addPlacements_23 (fun u9 hp => ?_)
  obtain ⟨Q_choices_3, rfl, h⟩ := hp
  refine wa_iconst C (z := 0) dX5_addPlacements_26 rfl ?_
  refine wa_istore C dX5_addPlacements_27 (by decide) rfl ?_
  obtain ⟨Inv_4, ⟨n_5, h0Inv_4⟩, hInv_4⟩ := h
  have k_8 : ∀ (n_6 : Nat) (x6_9 : Int) (Q_all_10 : Int → Int64) (Q_choices_11 : Int → Int64) (Q_term_12 : Int → Int64), inR x6_9 → Inv_4 n_6 x6_9 Q_all_10 Q_choices_11 Q_term_12 → WA p l e ({ frames := 4, cells := 0, slots := 0, locals := 240 } : Room) s m args below meth c 0 0 Q K ad 7 A 29 [(0, .ref (ad 8)), (1, .ref (ad 9)), (2, .ref (ad 53)), (3, .int (iI x3)), (4, .int (iI c_1)), (5, .int (iI c_2)), (6, .int (iI x6_9))] [] (dW D_hasBoard D_beganBlank F_mines F_moves F_changes G_width G_height G_size B_parts B_longest S_groups S_askedGroup S_taken R_waitingCount R_metCount A_grade A_cell A_mined A_withTotal A_numbers X_low X_high Y_low Y_high F_mined F_number F_state F_cellsIn F_unknownNear F_hitNear F_moveStart F_changed F_waiting F_seen G_near G_nearEnd B_chosen B_partOf B_rest B_unknowns B_partStart B_cells S_minedSet S_safeSet S_partSet S_tally S_askedTally S_groupOf S_groupSize S_links S_linkEnd S_pick S_groupMinedSet S_groupSafeSet O_sums O_nextSums R_found R_openEnds R_need R_waiting R_waits R_common R_met A_number Q_mined Q_all_10 Q_choices_11 Q_term_12 Q_divisor Q_spare X_limbs X_sum Y_limbs Y_sum) := by
    intro n_6
    induction n_6 using Nat.strongRecOn with
    | ind n_6 ih_7 =>
      intro x6_9 Q_all_10 Q_choices_11 Q_term_12 rx6_9 h
      replace h := hInv_4 n_6 x6_9 Q_all_10 Q_choices_11 Q_term_12 rx6_9 h
      refine wa_iload C 6 rfl dX5_addPlacements_29 ?_
      refine wa_iload C 4 rfl dX5_addPlacements_31 ?_
      refine wa_icmp_gt C (tgt := 139) rx6_9 rc_1 dX5_addPlacements_33 (by decide) (fun c_13 => ?_) (fun c_13 => ?_)
      · replace h := h.1 c_13
        exact ret dX5_addPlacements_139 ⟨_, _, _, rfl, h⟩
      · replace h := h.2 c_13
        refine wa_iload C 6 rfl dX5_addPlacements_36 ?_
        refine wa_iload C 5 rfl dX5_addPlacements_38 ?_
        refine wa_aload_n C 1 rfl dX5_addPlacements_40 rfl ?_
        refine wa_getI C 9 1 dW_9 rfl rfl (by decide) okX8 gw_393 dX5_addPlacements_41 (fun r_14 => ?_)
        refine wa_isub C dX5_addPlacements_44 ?_
        obtain ⟨r_15, h⟩ := h
        refine wa_icmp_gt C (tgt := 139) rx6_9 r_15 dX5_addPlacements_45 (by decide) (fun c_16 => ?_) (fun c_16 => ?_)
        · replace h := h.1 c_16
          exact ret dX5_addPlacements_139 ⟨_, _, _, rfl, h⟩
        · replace h := h.2 c_16
          refine wa_iload C 5 rfl dX5_addPlacements_48 ?_
          refine wa_iload C 6 rfl dX5_addPlacements_50 ?_
          refine wa_isub C dX5_addPlacements_52 ?_
          refine wa_aload_n C 1 rfl dX5_addPlacements_53 rfl ?_
          refine wa_getI C 9 2 dW_9 rfl rfl (by decide) okX8 gw_395 dX5_addPlacements_54 (fun r_17 => ?_)
          obtain ⟨r_18, h⟩ := h
          obtain ⟨J_19, h, hJ_19⟩ := h
          have k_20 : ∀ (Q_all_21 : Int → Int64) (Q_term_22 : Int → Int64), J_19 Q_all_21 Q_term_22 → WA p l e ({ frames := 4, cells := 0, slots := 0, locals := 240 } : Room) s m args below meth c 0 0 Q K ad 7 A 110 [(0, .ref (ad 8)), (1, .ref (ad 9)), (2, .ref (ad 53)), (3, .int (iI x3)), (4, .int (iI c_1)), (5, .int (iI c_2)), (6, .int (iI x6_9))] [] (dW D_hasBoard D_beganBlank F_mines F_moves F_changes G_width G_height G_size B_parts B_longest S_groups S_askedGroup S_taken R_waitingCount R_metCount A_grade A_cell A_mined A_withTotal A_numbers X_low X_high Y_low Y_high F_mined F_number F_state F_cellsIn F_unknownNear F_hitNear F_moveStart F_changed F_waiting F_seen G_near G_nearEnd B_chosen B_partOf B_rest B_unknowns B_partStart B_cells S_minedSet S_safeSet S_partSet S_tally S_askedTally S_groupOf S_groupSize S_links S_linkEnd S_pick S_groupMinedSet S_groupSafeSet O_sums O_nextSums R_found R_openEnds R_need R_waiting R_waits R_common R_met A_number Q_mined Q_all_21 Q_choices_11 Q_term_22 Q_divisor Q_spare X_limbs X_sum Y_limbs Y_sum) := by
            intro Q_all_21 Q_term_22 h
            replace h := hJ_19 Q_all_21 Q_term_22 h
            refine wa_aload_n C 0 rfl dX5_addPlacements_110 rfl ?_
            refine wa_getR C 8 7 dW_8 rfl rfl (by decide) okX5 gw_415 dX5_addPlacements_111 ?_
            refine wa_iload C 4 rfl dX5_addPlacements_114 ?_
            refine wa_iload C 6 rfl dX5_addPlacements_116 ?_
            refine wa_isub C dX5_addPlacements_118 ?_
            obtain ⟨r_23, h⟩ := h
            refine wa_callSv C (As := [.ref (ad 54), .int (iI (c_1 - x6_9))]) (rest := []) (c_X10_scale_54 l K ad (c_1 - x6_9) r_23 _ h) gw_1126 gw_1124 gw_1125 gw_23 q_X10_scale rfl rfl rfl ⟨by decide, by decide⟩ rfl (Nat.le_of_ble_eq_true rfl) dX5_addPlacements_119 (fun u9 hp => ?_)
            obtain ⟨Q_choices_24, rfl, h⟩ := hp
            refine wa_aload_n C 0 rfl dX5_addPlacements_122 rfl ?_
            refine wa_getR C 8 7 dW_8 rfl rfl (by decide) okX5 gw_415 dX5_addPlacements_123 ?_
            refine wa_iload C 6 rfl dX5_addPlacements_126 ?_
            refine wa_iconst C (z := 1) dX5_addPlacements_128 rfl ?_
            refine wa_iadd C dX5_addPlacements_129 ?_
            obtain ⟨r_25, h⟩ := h
            refine wa_callSv C (As := [.ref (ad 54), .int (iI (x6_9 + 1))]) (rest := []) (c_X10_shrink_54 l K ad (x6_9 + 1) r_25 _ h) gw_1129 gw_1127 gw_1128 gw_23 q_X10_shrink rfl rfl rfl ⟨by decide, by decide⟩ rfl (Nat.le_of_ble_eq_true rfl) dX5_addPlacements_130 (fun u9 hp => ?_)
            obtain ⟨Q_choices_26, rfl, h⟩ := hp
            refine wa_iinc C (lv' := fun w9 => [(6, .int (iI w9)), (0, .ref (ad 8)), (1, .ref (ad 9)), (2, .ref (ad 53)), (3, .int (iI x3)), (4, .int (iI c_1)), (5, .int (iI c_2))]) 6 rfl dX5_addPlacements_133 (by decide) (fun _ => rfl) (fun x6_27 ex6_27 => ?_)
            replace h := h x6_27 ex6_27
            have rx6_27 : inR x6_27 := by rw [ex6_27]; exact r_25
            refine wa_goto C (tgt := 29) dX5_addPlacements_136 (by decide) ?_
            obtain ⟨n_28, ln_28, h⟩ := h
            refine wa_sub C [1, 2, 3, 4, 5, 6, 0] rfl ?_
            exact ih_7 n_28 ln_28 x6_27 Q_all_21 Q_choices_26 Q_term_22 rx6_27 h
          refine wa_icmp_gt C (tgt := 110) r_18 r_17 dX5_addPlacements_57 (by decide) (fun c_29 => ?_) (fun c_29 => ?_)
          · replace h := h.1 c_29
            refine wa_sub C [0, 1, 2, 3, 4, 5, 6] rfl ?_
            exact k_20 Q_all_10 Q_term_12 h
          · replace h := h.2 c_29
            refine wa_aload_n C 0 rfl dX5_addPlacements_60 rfl ?_
            refine wa_getR C 8 8 dW_8 rfl rfl (by decide) okX5 gw_416 dX5_addPlacements_61 ?_
            refine wa_lconst C (v := 0) dX5_addPlacements_64 rfl ?_
            refine wa_callSv C (As := [.ref (ad 55), .long (0 : Int64)]) (rest := []) (c_J7_fill_d0a16_55 l K ad (0 : Int64) _ h) gw_822 gw_1086 gw_821 gw_17 q_J7_fill_d0a16 rfl rfl rfl ⟨by decide, by decide⟩ rfl (Nat.le_of_ble_eq_true rfl) dX5_addPlacements_65 (fun u9 hp => ?_)
            obtain ⟨Q_term_30, rfl, h⟩ := hp
            refine wa_aload_n C 0 rfl dX5_addPlacements_68 rfl ?_
            refine wa_getR C 8 8 dW_8 rfl rfl (by decide) okX5 gw_416 dX5_addPlacements_69 ?_
            refine wa_aload_n C 1 rfl dX5_addPlacements_72 rfl ?_
            refine wa_getR C 9 0 dW_9 rfl rfl (by decide) okX8 gw_391 dX5_addPlacements_73 ?_
            refine wa_iload C 5 rfl dX5_addPlacements_76 ?_
            refine wa_iload C 6 rfl dX5_addPlacements_78 ?_
            refine wa_isub C dX5_addPlacements_80 ?_
            refine wa_bipush C (z := 6) dX5_addPlacements_81 (by decide) ?_
            refine wa_imul C dX5_addPlacements_83 ?_
            refine wa_aload_n C 0 rfl dX5_addPlacements_84 rfl ?_
            refine wa_getR C 8 7 dW_8 rfl rfl (by decide) okX5 gw_415 dX5_addPlacements_85 ?_
            obtain ⟨r_31, h⟩ := h
            refine wa_callSv C (As := [.ref (ad 55), .ref (ad 58), .int (iI ((c_2 - x6_9) * 6)), .ref (ad 54)]) (rest := []) (c_X10_addProduct_55_58_54 l K ad ((c_2 - x6_9) * 6) r_31 _ h) gw_1122 gw_1120 gw_1121 gw_23 q_X10_addProduct rfl rfl rfl ⟨by decide, by decide⟩ rfl (Nat.le_of_ble_eq_true rfl) dX5_addPlacements_88 (fun u9 hp => ?_)
            obtain ⟨Q_term_32, rfl, h⟩ := hp
            refine wa_aload_n C 2 rfl dX5_addPlacements_91 rfl ?_
            refine wa_aload_n C 0 rfl dX5_addPlacements_92 rfl ?_
            refine wa_getR C 8 8 dW_8 rfl rfl (by decide) okX5 gw_416 dX5_addPlacements_93 ?_
            refine wa_iconst C (z := 0) dX5_addPlacements_96 rfl ?_
            refine wa_iload_n C 3 rfl dX5_addPlacements_97 rfl ?_
            obtain ⟨J_33, h, hJ_33⟩ := h
            have k_34 : ∀ (z_35 : Int), inR z_35 → J_33 z_35 → WA p l e ({ frames := 4, cells := 0, slots := 0, locals := 240 } : Room) s m args below meth c 0 0 Q K ad 7 A 107 [(0, .ref (ad 8)), (1, .ref (ad 9)), (2, .ref (ad 53)), (3, .int (iI x3)), (4, .int (iI c_1)), (5, .int (iI c_2)), (6, .int (iI x6_9))] [.int (iI z_35), .int (iI 0), .ref (ad 55), .ref (ad 53)] (dW D_hasBoard D_beganBlank F_mines F_moves F_changes G_width G_height G_size B_parts B_longest S_groups S_askedGroup S_taken R_waitingCount R_metCount A_grade A_cell A_mined A_withTotal A_numbers X_low X_high Y_low Y_high F_mined F_number F_state F_cellsIn F_unknownNear F_hitNear F_moveStart F_changed F_waiting F_seen G_near G_nearEnd B_chosen B_partOf B_rest B_unknowns B_partStart B_cells S_minedSet S_safeSet S_partSet S_tally S_askedTally S_groupOf S_groupSize S_links S_linkEnd S_pick S_groupMinedSet S_groupSafeSet O_sums O_nextSums R_found R_openEnds R_need R_waiting R_waits R_common R_met A_number Q_mined Q_all_10 Q_choices_11 Q_term_32 Q_divisor Q_spare X_limbs X_sum Y_limbs Y_sum) := by
              intro z_35 rz_35 h
              replace h := hJ_33 z_35 rz_35 h
              refine wa_callSv C (As := [.ref (ad 53), .ref (ad 55), .int (iI 0), .int (iI z_35)]) (rest := []) (c_X10_addScaled_53_55 l K ad 0 z_35 (inR_k 0 rfl) rz_35 _ h) gw_1107 gw_1123 gw_1106 gw_23 q_X10_addScaled rfl rfl rfl ⟨by decide, by decide⟩ rfl (Nat.le_of_ble_eq_true rfl) dX5_addPlacements_107 (fun u9 hp => ?_)
              obtain ⟨Q_all_36, rfl, h⟩ := hp
              refine wa_sub C [0, 1, 2, 3, 4, 5, 6] rfl ?_
              exact k_20 Q_all_36 Q_term_32 h
            refine wa_if_eq C (tgt := 106) (inR_b bx3) dX5_addPlacements_98 (by decide) (fun c_37 => ?_) (fun c_37 => ?_)
            · replace h := h.1 c_37
              refine wa_iconst C (z := 1) dX5_addPlacements_106 rfl ?_
              refine wa_sub C [0, 1, 2, 3, 4, 5, 6] rfl ?_
              exact k_34 1 (inR_k 1 rfl) h
            · replace h := h.2 c_37
              refine wa_iload C 6 rfl dX5_addPlacements_101 ?_
              refine wa_goto C (tgt := 107) dX5_addPlacements_103 (by decide) ?_
              refine wa_sub C [0, 1, 2, 3, 4, 5, 6] rfl ?_
              exact k_34 x6_9 rx6_9 h
  refine wa_sub C [3, 4, 5, 6, 2, 1, 0] rfl ?_
  exact k_8 n_5 0 Q_all Q_choices_3 Q_term (inR_k 0 rfl) h0Inv_4
def P_X5_addPlacements_9_52 (post : (Int → Int64) → (Int → Int64) → (Int → Int64) → Prop) (F_mines : Int) (B_parts : Int) (X_low : Int) (X_high : Int) (F_cellsIn : Int → Int) (B_partStart : Int → Int) (Q_mined : Int → Int64) (Q_choices : Int → Int64) (Q_term : Int → Int64) (X_limbs : Int → Int64) (x3 : Int) : Prop :=
  P_X1_freeCells (fun (c_1 : Int) => inR c_1 → (P_X2_minesLeft (fun (c_2 : Int) => inR c_2 → (P_X10_set_54 (fun (Q_choices_3 : Int → Int64) => (∃ Inv_4 : Nat → (Int) → (Int → Int64) → (Int → Int64) → (Int → Int64) → Prop, (∃ n_5 : Nat, Inv_4 n_5 0 Q_mined Q_choices_3 Q_term) ∧ ∀ (n_6 : Nat) (x6_9 : Int) (Q_mined_10 : Int → Int64) (Q_choices_11 : Int → Int64) (Q_term_12 : Int → Int64), inR x6_9 → Inv_4 n_6 x6_9 Q_mined_10 Q_choices_11 Q_term_12 → ((c_1 < x6_9 → (post Q_mined_10 Q_choices_11 Q_term_12)) ∧ (¬ c_1 < x6_9 → (inR (c_2 - X_low) ∧ (((c_2 - X_low) < x6_9 → (post Q_mined_10 Q_choices_11 Q_term_12)) ∧ (¬ (c_2 - X_low) < x6_9 → (inR (c_2 - x6_9) ∧ (∃ J_19 : (Int → Int64) → (Int → Int64) → Prop, ((X_high < (c_2 - x6_9) → (J_19 Q_mined_10 Q_term_12)) ∧ (¬ X_high < (c_2 - x6_9) → (P_J7_fill_d0a16_55 (fun (Q_term_30 : Int → Int64) => (inR ((c_2 - x6_9) * 6) ∧ (P_X10_addProduct_55_58_54 (fun (Q_term_32 : Int → Int64) => (∃ J_33 : (Int) → Prop, ((x3 = 0 → (J_33 1)) ∧ (¬ x3 = 0 → (J_33 x6_9))) ∧ (∀ (z_35 : Int), inR z_35 → J_33 z_35 → (P_X10_addScaled_52_55 (fun (Q_mined_36 : Int → Int64) => (J_19 Q_mined_36 Q_term_32)) Q_mined_10 Q_term_32 0 z_35)))) Q_choices_11 Q_term_30 X_limbs ((c_2 - x6_9) * 6)))) Q_term_12 (0 : Int64)))) ∧ (∀ (Q_mined_21 : Int → Int64) (Q_term_22 : Int → Int64), J_19 Q_mined_21 Q_term_22 → (inR (c_1 - x6_9) ∧ (P_X10_scale_54 (fun (Q_choices_24 : Int → Int64) => (inR (x6_9 + 1) ∧ (P_X10_shrink_54 (fun (Q_choices_26 : Int → Int64) => (∀ x6_27 : Int, x6_27 = (x6_9 + 1) → (∃ n_28 : Nat, n_28 < n_6 ∧ Inv_4 n_28 x6_27 Q_mined_21 Q_choices_26 Q_term_22))) Q_choices_24 (x6_9 + 1)))) Q_choices_11 (c_1 - x6_9))))))))))))) Q_choices 1)) F_mines F_cellsIn )) B_parts F_cellsIn B_partStart 
set_option maxRecDepth 100000 in
set_option maxHeartbeats 4000000 in
theorem c_X5_addPlacements_9_52 (l : Launch) (K : wK) (ad : Nat → Nat) {D_hasBoard : Int} {D_beganBlank : Int} {F_mines : Int} {F_moves : Int} {F_changes : Int} {G_width : Int} {G_height : Int} {G_size : Int} {B_parts : Int} {B_longest : Int} {S_groups : Int} {S_askedGroup : Int} {S_taken : Int} {R_waitingCount : Int} {R_metCount : Int} {A_grade : Int} {A_cell : Int} {A_mined : Int} {A_withTotal : Int} {A_numbers : Int} {X_low : Int} {X_high : Int} {Y_low : Int} {Y_high : Int} {F_mined : Int → Int} {F_number : Int → Int} {F_state : Int → Int} {F_cellsIn : Int → Int} {F_unknownNear : Int → Int} {F_hitNear : Int → Int} {F_moveStart : Int → Int} {F_changed : Int → Int} {F_waiting : Int → Int} {F_seen : Int → Int} {G_near : Int → Int} {G_nearEnd : Int → Int} {B_chosen : Int → Int} {B_partOf : Int → Int} {B_rest : Int → Int} {B_unknowns : Int → Int} {B_partStart : Int → Int} {B_cells : Int → Int} {S_minedSet : Int → Int} {S_safeSet : Int → Int} {S_partSet : Int → Int} {S_tally : Int → Int} {S_askedTally : Int → Int} {S_groupOf : Int → Int} {S_groupSize : Int → Int} {S_links : Int → Int} {S_linkEnd : Int → Int} {S_pick : Int → Int} {S_groupMinedSet : Int → Int} {S_groupSafeSet : Int → Int} {O_sums : Int → Int64} {O_nextSums : Int → Int64} {R_found : Int → Int} {R_openEnds : Int → Int} {R_need : Int → Int} {R_waiting : Int → Int} {R_waits : Int → Int} {R_common : Int → Int} {R_met : Int → Int} {A_number : Int → Int} {Q_mined : Int → Int64} {Q_all : Int → Int64} {Q_choices : Int → Int64} {Q_term : Int → Int64} {Q_divisor : Int → Int64} {Q_spare : Int → Int64} {X_limbs : Int → Int64} {X_sum : Int → Int64} {Y_limbs : Int → Int64} {Y_sum : Int → Int64} (x3 : Int) (bx3 : x3 = 0 ∨ x3 = 1) (post : (Int → Int64) → (Int → Int64) → (Int → Int64) → Prop) (h : P_X5_addPlacements_9_52 post F_mines B_parts X_low X_high F_cellsIn B_partStart Q_mined Q_choices Q_term X_limbs x3) : mV l yX5_addPlacements (Cond.code yX5_addPlacements cX5_addPlacements 7 none :: GT) ({ frames := 4, cells := 0, slots := 0, locals := 240 } : Room) [.ref (ad 8), .ref (ad 9), .ref (ad 52), .int (iI x3)] K ad (dW D_hasBoard D_beganBlank F_mines F_moves F_changes G_width G_height G_size B_parts B_longest S_groups S_askedGroup S_taken R_waitingCount R_metCount A_grade A_cell A_mined A_withTotal A_numbers X_low X_high Y_low Y_high F_mined F_number F_state F_cellsIn F_unknownNear F_hitNear F_moveStart F_changed F_waiting F_seen G_near G_nearEnd B_chosen B_partOf B_rest B_unknowns B_partStart B_cells S_minedSet S_safeSet S_partSet S_tally S_askedTally S_groupOf S_groupSize S_links S_linkEnd S_pick S_groupMinedSet S_groupSafeSet O_sums O_nextSums R_found R_openEnds R_need R_waiting R_waits R_common R_met A_number Q_mined Q_all Q_choices Q_term Q_divisor Q_spare X_limbs X_sum Y_limbs Y_sum) (fun u9 => ∃ Q_mined9 Q_choices9 Q_term9, u9 = (dW D_hasBoard D_beganBlank F_mines F_moves F_changes G_width G_height G_size B_parts B_longest S_groups S_askedGroup S_taken R_waitingCount R_metCount A_grade A_cell A_mined A_withTotal A_numbers X_low X_high Y_low Y_high F_mined F_number F_state F_cellsIn F_unknownNear F_hitNear F_moveStart F_changed F_waiting F_seen G_near G_nearEnd B_chosen B_partOf B_rest B_unknowns B_partStart B_cells S_minedSet S_safeSet S_partSet S_tally S_askedTally S_groupOf S_groupSize S_links S_linkEnd S_pick S_groupMinedSet S_groupSafeSet O_sums O_nextSums R_found R_openEnds R_need R_waiting R_waits R_common R_met A_number Q_mined9 Q_all Q_choices9 Q_term9 Q_divisor Q_spare X_limbs X_sum Y_limbs Y_sum) ∧ post Q_mined9 Q_choices9 Q_term9) := by
  refine mV_of (lv0 := [(0, .ref (ad 8)), (1, .ref (ad 9)), (2, .ref (ad 52)), (3, .int (iI x3))]) (by decide) (Nat.le_of_ble_eq_true rfl) rfl ?_
  intro p e s m args below meth c Q A C ret
  replace C : Cx p ({ frames := 4, cells := 0, slots := 0, locals := 240 } : Room) m c 0 0 cX5_addPlacements 7 s args RX5 K A := C
  unfold P_X5_addPlacements_9_52 at h
  refine wa_aload_n C 0 rfl dX5_addPlacements_0 rfl ?_
  refine wa_getR C 8 3 dW_8 rfl rfl (by decide) okX5 gw_411 dX5_addPlacements_1 ?_
  refine wa_callVi C (k := 3) (As := []) (rest := []) (c_X1_freeCells l K ad  _ h) gw_806 gw_1117 dW_3 rfl gw_804 gw_805 gw_4 q_X1_freeCells rfl rfl rfl ⟨by decide, by decide⟩ rfl (Nat.le_of_ble_eq_true rfl) dX5_addPlacements_4 (fun c_1 u9 rc_1 hp => ?_)
  obtain ⟨rfl, h⟩ := hp
  replace h := h rc_1
  refine wa_istore C dX5_addPlacements_7 (by decide) rfl ?_
  refine wa_aload_n C 1 rfl dX5_addPlacements_9 rfl ?_
  refine wa_getR C 8 2 dW_8 rfl rfl (by decide) okX5 gw_410 dX5_addPlacements_10 ?_
  refine wa_callVi C (k := 1) (As := []) (rest := []) (c_X2_minesLeft l K ad  _ h) gw_829 gw_1118 dW_1 rfl gw_827 gw_828 gw_2 q_X2_minesLeft rfl rfl rfl ⟨by decide, by decide⟩ rfl (Nat.le_of_ble_eq_true rfl) dX5_addPlacements_13 (fun c_2 u9 rc_2 hp => ?_)
  obtain ⟨rfl, h⟩ := hp
  replace h := h rc_2
  refine wa_istore C dX5_addPlacements_16 (by decide) rfl ?_
  refine wa_aload_n C 2 rfl dX5_addPlacements_18 rfl ?_
  refine wa_getR C 8 7 dW_8 rfl rfl (by decide) okX5 gw_415 dX5_addPlacements_19 ?_
  refine wa_iconst C (z := 1) dX5_addPlacements_22 rfl ?_
  refine wa_callSv C (As := [.ref (ad 54), .int (iI 1)]) (rest := []) (c_X10_set_54 l K ad 1 (inR_k 1 rfl) _ h) gw_1093 gw_1119 gw_1092 gw_23 q_X10_set rfl rfl rfl ⟨by decide, by decide⟩ rfl (Nat.le_of_ble_eq_true rfl) dX5_addPlacements_23 (fun u9 hp => ?_)
  obtain ⟨Q_choices_3, rfl, h⟩ := hp
  refine wa_iconst C (z := 0) dX5_addPlacements_26 rfl ?_
  refine wa_istore C dX5_addPlacements_27 (by decide) rfl ?_
  obtain ⟨Inv_4, ⟨n_5, h0Inv_4⟩, hInv_4⟩ := h
  have k_8 : ∀ (n_6 : Nat) (x6_9 : Int) (Q_mined_10 : Int → Int64) (Q_choices_11 : Int → Int64) (Q_term_12 : Int → Int64), inR x6_9 → Inv_4 n_6 x6_9 Q_mined_10 Q_choices_11 Q_term_12 → WA p l e ({ frames := 4, cells := 0, slots := 0, locals := 240 } : Room) s m args below meth c 0 0 Q K ad 7 A 29 [(0, .ref (ad 8)), (1, .ref (ad 9)), (2, .ref (ad 52)), (3, .int (iI x3)), (4, .int (iI c_1)), (5, .int (iI c_2)), (6, .int (iI x6_9))] [] (dW D_hasBoard D_beganBlank F_mines F_moves F_changes G_width G_height G_size B_parts B_longest S_groups S_askedGroup S_taken R_waitingCount R_metCount A_grade A_cell A_mined A_withTotal A_numbers X_low X_high Y_low Y_high F_mined F_number F_state F_cellsIn F_unknownNear F_hitNear F_moveStart F_changed F_waiting F_seen G_near G_nearEnd B_chosen B_partOf B_rest B_unknowns B_partStart B_cells S_minedSet S_safeSet S_partSet S_tally S_askedTally S_groupOf S_groupSize S_links S_linkEnd S_pick S_groupMinedSet S_groupSafeSet O_sums O_nextSums R_found R_openEnds R_need R_waiting R_waits R_common R_met A_number Q_mined_10 Q_all Q_choices_11 Q_term_12 Q_divisor Q_spare X_limbs X_sum Y_limbs Y_sum) := by
    intro n_6
    induction n_6 using Nat.strongRecOn with
    | ind n_6 ih_7 =>
      intro x6_9 Q_mined_10 Q_choices_11 Q_term_12 rx6_9 h
      replace h := hInv_4 n_6 x6_9 Q_mined_10 Q_choices_11 Q_term_12 rx6_9 h
      refine wa_iload C 6 rfl dX5_addPlacements_29 ?_
      refine wa_iload C 4 rfl dX5_addPlacements_31 ?_
      refine wa_icmp_gt C (tgt := 139) rx6_9 rc_1 dX5_addPlacements_33 (by decide) (fun c_13 => ?_) (fun c_13 => ?_)
      · replace h := h.1 c_13
        exact ret dX5_addPlacements_139 ⟨_, _, _, rfl, h⟩
      · replace h := h.2 c_13
        refine wa_iload C 6 rfl dX5_addPlacements_36 ?_
        refine wa_iload C 5 rfl dX5_addPlacements_38 ?_
        refine wa_aload_n C 1 rfl dX5_addPlacements_40 rfl ?_
        refine wa_getI C 9 1 dW_9 rfl rfl (by decide) okX8 gw_393 dX5_addPlacements_41 (fun r_14 => ?_)
        refine wa_isub C dX5_addPlacements_44 ?_
        obtain ⟨r_15, h⟩ := h
        refine wa_icmp_gt C (tgt := 139) rx6_9 r_15 dX5_addPlacements_45 (by decide) (fun c_16 => ?_) (fun c_16 => ?_)
        · replace h := h.1 c_16
          exact ret dX5_addPlacements_139 ⟨_, _, _, rfl, h⟩
        · replace h := h.2 c_16
          refine wa_iload C 5 rfl dX5_addPlacements_48 ?_
          refine wa_iload C 6 rfl dX5_addPlacements_50 ?_
          refine wa_isub C dX5_addPlacements_52 ?_
          refine wa_aload_n C 1 rfl dX5_addPlacements_53 rfl ?_
          refine wa_getI C 9 2 dW_9 rfl rfl (by decide) okX8 gw_395 dX5_addPlacements_54 (fun r_17 => ?_)
          obtain ⟨r_18, h⟩ := h
          obtain ⟨J_19, h, hJ_19⟩ := h
          have k_20 : ∀ (Q_mined_21 : Int → Int64) (Q_term_22 : Int → Int64), J_19 Q_mined_21 Q_term_22 → WA p l e ({ frames := 4, cells := 0, slots := 0, locals := 240 } : Room) s m args below meth c 0 0 Q K ad 7 A 110 [(0, .ref (ad 8)), (1, .ref (ad 9)), (2, .ref (ad 52)), (3, .int (iI x3)), (4, .int (iI c_1)), (5, .int (iI c_2)), (6, .int (iI x6_9))] [] (dW D_hasBoard D_beganBlank F_mines F_moves F_changes G_width G_height G_size B_parts B_longest S_groups S_askedGroup S_taken R_waitingCount R_metCount A_grade A_cell A_mined A_withTotal A_numbers X_low X_high Y_low Y_high F_mined F_number F_state F_cellsIn F_unknownNear F_hitNear F_moveStart F_changed F_waiting F_seen G_near G_nearEnd B_chosen B_partOf B_rest B_unknowns B_partStart B_cells S_minedSet S_safeSet S_partSet S_tally S_askedTally S_groupOf S_groupSize S_links S_linkEnd S_pick S_groupMinedSet S_groupSafeSet O_sums O_nextSums R_found R_openEnds R_need R_waiting R_waits R_common R_met A_number Q_mined_21 Q_all Q_choices_11 Q_term_22 Q_divisor Q_spare X_limbs X_sum Y_limbs Y_sum) := by
            intro Q_mined_21 Q_term_22 h
            replace h := hJ_19 Q_mined_21 Q_term_22 h
            refine wa_aload_n C 0 rfl dX5_addPlacements_110 rfl ?_
            refine wa_getR C 8 7 dW_8 rfl rfl (by decide) okX5 gw_415 dX5_addPlacements_111 ?_
            refine wa_iload C 4 rfl dX5_addPlacements_114 ?_
            refine wa_iload C 6 rfl dX5_addPlacements_116 ?_
            refine wa_isub C dX5_addPlacements_118 ?_
            obtain ⟨r_23, h⟩ := h
            refine wa_callSv C (As := [.ref (ad 54), .int (iI (c_1 - x6_9))]) (rest := []) (c_X10_scale_54 l K ad (c_1 - x6_9) r_23 _ h) gw_1126 gw_1124 gw_1125 gw_23 q_X10_scale rfl rfl rfl ⟨by decide, by decide⟩ rfl (Nat.le_of_ble_eq_true rfl) dX5_addPlacements_119 (fun u9 hp => ?_)
            obtain ⟨Q_choices_24, rfl, h⟩ := hp
            refine wa_aload_n C 0 rfl dX5_addPlacements_122 rfl ?_
            refine wa_getR C 8 7 dW_8 rfl rfl (by decide) okX5 gw_415 dX5_addPlacements_123 ?_
            refine wa_iload C 6 rfl dX5_addPlacements_126 ?_
            refine wa_iconst C (z := 1) dX5_addPlacements_128 rfl ?_
            refine wa_iadd C dX5_addPlacements_129 ?_
            obtain ⟨r_25, h⟩ := h
            refine wa_callSv C (As := [.ref (ad 54), .int (iI (x6_9 + 1))]) (rest := []) (c_X10_shrink_54 l K ad (x6_9 + 1) r_25 _ h) gw_1129 gw_1127 gw_1128 gw_23 q_X10_shrink rfl rfl rfl ⟨by decide, by decide⟩ rfl (Nat.le_of_ble_eq_true rfl) dX5_addPlacements_130 (fun u9 hp => ?_)
            obtain ⟨Q_choices_26, rfl, h⟩ := hp
            refine wa_iinc C (lv' := fun w9 => [(6, .int (iI w9)), (0, .ref (ad 8)), (1, .ref (ad 9)), (2, .ref (ad 52)), (3, .int (iI x3)), (4, .int (iI c_1)), (5, .int (iI c_2))]) 6 rfl dX5_addPlacements_133 (by decide) (fun _ => rfl) (fun x6_27 ex6_27 => ?_)
            replace h := h x6_27 ex6_27
            have rx6_27 : inR x6_27 := by rw [ex6_27]; exact r_25
            refine wa_goto C (tgt := 29) dX5_addPlacements_136 (by decide) ?_
            obtain ⟨n_28, ln_28, h⟩ := h
            refine wa_sub C [1, 2, 3, 4, 5, 6, 0] rfl ?_
            exact ih_7 n_28 ln_28 x6_27 Q_mined_21 Q_choices_26 Q_term_22 rx6_27 h
          refine wa_icmp_gt C (tgt := 110) r_18 r_17 dX5_addPlacements_57 (by decide) (fun c_29 => ?_) (fun c_29 => ?_)
          · replace h := h.1 c_29
            refine wa_sub C [0, 1, 2, 3, 4, 5, 6] rfl ?_
            exact k_20 Q_mined_10 Q_term_12 h
          · replace h := h.2 c_29
            refine wa_aload_n C 0 rfl dX5_addPlacements_60 rfl ?_
            refine wa_getR C 8 8 dW_8 rfl rfl (by decide) okX5 gw_416 dX5_addPlacements_61 ?_
            refine wa_lconst C (v := 0) dX5_addPlacements_64 rfl ?_
            refine wa_callSv C (As := [.ref (ad 55), .long (0 : Int64)]) (rest := []) (c_J7_fill_d0a16_55 l K ad (0 : Int64) _ h) gw_822 gw_1086 gw_821 gw_17 q_J7_fill_d0a16 rfl rfl rfl ⟨by decide, by decide⟩ rfl (Nat.le_of_ble_eq_true rfl) dX5_addPlacements_65 (fun u9 hp => ?_)
            obtain ⟨Q_term_30, rfl, h⟩ := hp
            refine wa_aload_n C 0 rfl dX5_addPlacements_68 rfl ?_
            refine wa_getR C 8 8 dW_8 rfl rfl (by decide) okX5 gw_416 dX5_addPlacements_69 ?_
            refine wa_aload_n C 1 rfl dX5_addPlacements_72 rfl ?_
            refine wa_getR C 9 0 dW_9 rfl rfl (by decide) okX8 gw_391 dX5_addPlacements_73 ?_
            refine wa_iload C 5 rfl dX5_addPlacements_76 ?_
            refine wa_iload C 6 rfl dX5_addPlacements_78 ?_
            refine wa_isub C dX5_addPlacements_80 ?_
            refine wa_bipush C (z := 6) dX5_addPlacements_81 (by decide) ?_
            refine wa_imul C dX5_addPlacements_83 ?_
            refine wa_aload_n C 0 rfl dX5_addPlacements_84 rfl ?_
            refine wa_getR C 8 7 dW_8 rfl rfl (by decide) okX5 gw_415 dX5_addPlacements_85 ?_
            obtain ⟨r_31, h⟩ := h
            refine wa_callSv C (As := [.ref (ad 55), .ref (ad 58), .int (iI ((c_2 - x6_9) * 6)), .ref (ad 54)]) (rest := []) (c_X10_addProduct_55_58_54 l K ad ((c_2 - x6_9) * 6) r_31 _ h) gw_1122 gw_1120 gw_1121 gw_23 q_X10_addProduct rfl rfl rfl ⟨by decide, by decide⟩ rfl (Nat.le_of_ble_eq_true rfl) dX5_addPlacements_88 (fun u9 hp => ?_)
            obtain ⟨Q_term_32, rfl, h⟩ := hp
            refine wa_aload_n C 2 rfl dX5_addPlacements_91 rfl ?_
            refine wa_aload_n C 0 rfl dX5_addPlacements_92 rfl ?_
            refine wa_getR C 8 8 dW_8 rfl rfl (by decide) okX5 gw_416 dX5_addPlacements_93 ?_
            refine wa_iconst C (z := 0) dX5_addPlacements_96 rfl ?_
            refine wa_iload_n C 3 rfl dX5_addPlacements_97 rfl ?_
            obtain ⟨J_33, h, hJ_33⟩ := h
            have k_34 : ∀ (z_35 : Int), inR z_35 → J_33 z_35 → WA p l e ({ frames := 4, cells := 0, slots := 0, locals := 240 } : Room) s m args below meth c 0 0 Q K ad 7 A 107 [(0, .ref (ad 8)), (1, .ref (ad 9)), (2, .ref (ad 52)), (3, .int (iI x3)), (4, .int (iI c_1)), (5, .int (iI c_2)), (6, .int (iI x6_9))] [.int (iI z_35), .int (iI 0), .ref (ad 55), .ref (ad 52)] (dW D_hasBoard D_beganBlank F_mines F_moves F_changes G_width G_height G_size B_parts B_longest S_groups S_askedGroup S_taken R_waitingCount R_metCount A_grade A_cell A_mined A_withTotal A_numbers X_low X_high Y_low Y_high F_mined F_number F_state F_cellsIn F_unknownNear F_hitNear F_moveStart F_changed F_waiting F_seen G_near G_nearEnd B_chosen B_partOf B_rest B_unknowns B_partStart B_cells S_minedSet S_safeSet S_partSet S_tally S_askedTally S_groupOf S_groupSize S_links S_linkEnd S_pick S_groupMinedSet S_groupSafeSet O_sums O_nextSums R_found R_openEnds R_need R_waiting R_waits R_common R_met A_number Q_mined_10 Q_all Q_choices_11 Q_term_32 Q_divisor Q_spare X_limbs X_sum Y_limbs Y_sum) := by
              intro z_35 rz_35 h
              replace h := hJ_33 z_35 rz_35 h
              refine wa_callSv C (As := [.ref (ad 52), .ref (ad 55), .int (iI 0), .int (iI z_35)]) (rest := []) (c_X10_addScaled_52_55 l K ad 0 z_35 (inR_k 0 rfl) rz_35 _ h) gw_1107 gw_1123 gw_1106 gw_23 q_X10_addScaled rfl rfl rfl ⟨by decide, by decide⟩ rfl (Nat.le_of_ble_eq_true rfl) dX5_addPlacements_107 (fun u9 hp => ?_)
              obtain ⟨Q_mined_36, rfl, h⟩ := hp
              refine wa_sub C [0, 1, 2, 3, 4, 5, 6] rfl ?_
              exact k_20 Q_mined_36 Q_term_32 h
            refine wa_if_eq C (tgt := 106) (inR_b bx3) dX5_addPlacements_98 (by decide) (fun c_37 => ?_) (fun c_37 => ?_)
            · replace h := h.1 c_37
              refine wa_iconst C (z := 1) dX5_addPlacements_106 rfl ?_
              refine wa_sub C [0, 1, 2, 3, 4, 5, 6] rfl ?_
              exact k_34 1 (inR_k 1 rfl) h
            · replace h := h.2 c_37
              refine wa_iload C 6 rfl dX5_addPlacements_101 ?_
              refine wa_goto C (tgt := 107) dX5_addPlacements_103 (by decide) ?_
              refine wa_sub C [0, 1, 2, 3, 4, 5, 6] rfl ?_
              exact k_34 x6_9 rx6_9 h
  refine wa_sub C [3, 4, 5, 6, 2, 1, 0] rfl ?_
  exact k_8 n_5 0 Q_mined Q_choices_3 Q_term (inR_k 0 rfl) h0Inv_4
def P_X10_scale_53 (post : (Int → Int64) → Prop) (Q_all : Int → Int64) (x1 : Int) : Prop :=
  ∃ Inv_1 : Nat → (Int64) → (Int) → (Int → Int64) → Prop, (∃ n_2 : Nat, Inv_1 n_2 (0 : Int64) 0 Q_all) ∧ ∀ (n_3 : Nat) (x2_6 : Int64) (x4_7 : Int) (Q_all_8 : Int → Int64), inR x4_7 → Inv_1 n_3 x2_6 x4_7 Q_all_8 → ((6 ≤ x4_7 → (post Q_all_8)) ∧ (¬ 6 ≤ x4_7 → ((0 ≤ x4_7 ∧ x4_7 < 6) ∧ (∀ v_11 : Int64, v_11 = Q_all_8 x4_7 → (∀ x2_12 : Int64, x2_12 = (x2_6 + (v_11 * (Int64.ofInt x1))) → ((0 ≤ x4_7 ∧ x4_7 < 6) ∧ (∀ Q_all_14 : Int → Int64, Q_all_14 = upZ Q_all_8 x4_7 (x2_12 &&& (2147483647 : Int64)) → (∀ x2_15 : Int64, x2_15 = (ushrL x2_12 31) → (inR (x4_7 + 1) ∧ (∀ x4_17 : Int, x4_17 = (x4_7 + 1) → (∃ n_18 : Nat, n_18 < n_3 ∧ Inv_1 n_18 x2_15 x4_17 Q_all_14)))))))))))
set_option maxRecDepth 100000 in
set_option maxHeartbeats 4000000 in
theorem c_X10_scale_53 (l : Launch) (K : wK) (ad : Nat → Nat) {D_hasBoard : Int} {D_beganBlank : Int} {F_mines : Int} {F_moves : Int} {F_changes : Int} {G_width : Int} {G_height : Int} {G_size : Int} {B_parts : Int} {B_longest : Int} {S_groups : Int} {S_askedGroup : Int} {S_taken : Int} {R_waitingCount : Int} {R_metCount : Int} {A_grade : Int} {A_cell : Int} {A_mined : Int} {A_withTotal : Int} {A_numbers : Int} {X_low : Int} {X_high : Int} {Y_low : Int} {Y_high : Int} {F_mined : Int → Int} {F_number : Int → Int} {F_state : Int → Int} {F_cellsIn : Int → Int} {F_unknownNear : Int → Int} {F_hitNear : Int → Int} {F_moveStart : Int → Int} {F_changed : Int → Int} {F_waiting : Int → Int} {F_seen : Int → Int} {G_near : Int → Int} {G_nearEnd : Int → Int} {B_chosen : Int → Int} {B_partOf : Int → Int} {B_rest : Int → Int} {B_unknowns : Int → Int} {B_partStart : Int → Int} {B_cells : Int → Int} {S_minedSet : Int → Int} {S_safeSet : Int → Int} {S_partSet : Int → Int} {S_tally : Int → Int} {S_askedTally : Int → Int} {S_groupOf : Int → Int} {S_groupSize : Int → Int} {S_links : Int → Int} {S_linkEnd : Int → Int} {S_pick : Int → Int} {S_groupMinedSet : Int → Int} {S_groupSafeSet : Int → Int} {O_sums : Int → Int64} {O_nextSums : Int → Int64} {R_found : Int → Int} {R_openEnds : Int → Int} {R_need : Int → Int} {R_waiting : Int → Int} {R_waits : Int → Int} {R_common : Int → Int} {R_met : Int → Int} {A_number : Int → Int} {Q_mined : Int → Int64} {Q_all : Int → Int64} {Q_choices : Int → Int64} {Q_term : Int → Int64} {Q_divisor : Int → Int64} {Q_spare : Int → Int64} {X_limbs : Int → Int64} {X_sum : Int → Int64} {Y_limbs : Int → Int64} {Y_sum : Int → Int64} (x1 : Int) (rx1 : inR x1) (post : (Int → Int64) → Prop) (h : P_X10_scale_53 post Q_all x1) : mV l yX10_scale (Cond.code yX10_scale cX10_scale 5 none :: GT) ({ frames := 2, cells := 0, slots := 0, locals := 120 } : Room) [.ref (ad 53), .int (iI x1)] K ad (dW D_hasBoard D_beganBlank F_mines F_moves F_changes G_width G_height G_size B_parts B_longest S_groups S_askedGroup S_taken R_waitingCount R_metCount A_grade A_cell A_mined A_withTotal A_numbers X_low X_high Y_low Y_high F_mined F_number F_state F_cellsIn F_unknownNear F_hitNear F_moveStart F_changed F_waiting F_seen G_near G_nearEnd B_chosen B_partOf B_rest B_unknowns B_partStart B_cells S_minedSet S_safeSet S_partSet S_tally S_askedTally S_groupOf S_groupSize S_links S_linkEnd S_pick S_groupMinedSet S_groupSafeSet O_sums O_nextSums R_found R_openEnds R_need R_waiting R_waits R_common R_met A_number Q_mined Q_all Q_choices Q_term Q_divisor Q_spare X_limbs X_sum Y_limbs Y_sum) (fun u9 => ∃ Q_all9, u9 = (dW D_hasBoard D_beganBlank F_mines F_moves F_changes G_width G_height G_size B_parts B_longest S_groups S_askedGroup S_taken R_waitingCount R_metCount A_grade A_cell A_mined A_withTotal A_numbers X_low X_high Y_low Y_high F_mined F_number F_state F_cellsIn F_unknownNear F_hitNear F_moveStart F_changed F_waiting F_seen G_near G_nearEnd B_chosen B_partOf B_rest B_unknowns B_partStart B_cells S_minedSet S_safeSet S_partSet S_tally S_askedTally S_groupOf S_groupSize S_links S_linkEnd S_pick S_groupMinedSet S_groupSafeSet O_sums O_nextSums R_found R_openEnds R_need R_waiting R_waits R_common R_met A_number Q_mined Q_all9 Q_choices Q_term Q_divisor Q_spare X_limbs X_sum Y_limbs Y_sum) ∧ post Q_all9) := by
  refine mV_of (lv0 := [(0, .ref (ad 53)), (1, .int (iI x1))]) (by decide) (Nat.le_of_ble_eq_true rfl) rfl ?_
  intro p e s m args below meth c Q A C ret
  replace C : Cx p ({ frames := 2, cells := 0, slots := 0, locals := 120 } : Room) m c 0 0 cX10_scale 5 s args RX10 K A := C
  unfold P_X10_scale_53 at h
  refine wa_lconst C (v := 0) dX10_scale_0 rfl ?_
  refine wa_lstore_n C dX10_scale_1 rfl (by decide) rfl ?_
  refine wa_iconst C (z := 0) dX10_scale_2 rfl ?_
  refine wa_istore C dX10_scale_3 (by decide) rfl ?_
  obtain ⟨Inv_1, ⟨n_2, h0Inv_1⟩, hInv_1⟩ := h
  have k_5 : ∀ (n_3 : Nat) (x2_6 : Int64) (x4_7 : Int) (Q_all_8 : Int → Int64), inR x4_7 → Inv_1 n_3 x2_6 x4_7 Q_all_8 → WA p l e ({ frames := 2, cells := 0, slots := 0, locals := 120 } : Room) s m args below meth c 0 0 Q K ad 5 A 5 [(0, .ref (ad 53)), (1, .int (iI x1)), (2, .long x2_6), (4, .int (iI x4_7))] [] (dW D_hasBoard D_beganBlank F_mines F_moves F_changes G_width G_height G_size B_parts B_longest S_groups S_askedGroup S_taken R_waitingCount R_metCount A_grade A_cell A_mined A_withTotal A_numbers X_low X_high Y_low Y_high F_mined F_number F_state F_cellsIn F_unknownNear F_hitNear F_moveStart F_changed F_waiting F_seen G_near G_nearEnd B_chosen B_partOf B_rest B_unknowns B_partStart B_cells S_minedSet S_safeSet S_partSet S_tally S_askedTally S_groupOf S_groupSize S_links S_linkEnd S_pick S_groupMinedSet S_groupSafeSet O_sums O_nextSums R_found R_openEnds R_need R_waiting R_waits R_common R_met A_number Q_mined Q_all_8 Q_choices Q_term Q_divisor Q_spare X_limbs X_sum Y_limbs Y_sum) := by
    intro n_3
    induction n_3 using Nat.strongRecOn with
    | ind n_3 ih_4 =>
      intro x2_6 x4_7 Q_all_8 rx4_7 h
      replace h := hInv_1 n_3 x2_6 x4_7 Q_all_8 rx4_7 h
      refine wa_iload C 3 rfl dX10_scale_5 ?_
      refine wa_bipush C (z := 6) dX10_scale_7 (by decide) ?_
      refine wa_icmp_ge C (tgt := 42) rx4_7 (inR_k 6 rfl) dX10_scale_9 (by decide) (fun c_9 => ?_) (fun c_9 => ?_)
      · replace h := h.1 c_9
        exact ret dX10_scale_42 ⟨_, rfl, h⟩
      · replace h := h.2 c_9
        refine wa_lload_n C 2 rfl dX10_scale_12 rfl ?_
        refine wa_aload_n C 0 rfl dX10_scale_13 rfl ?_
        refine wa_iload C 3 rfl dX10_scale_14 ?_
        obtain ⟨t_10, h⟩ := h
        refine wa_lald C 53 dW_53 dX10_scale_16 t_10.1 t_10.2 (fun v_11 ev_11 => ?_)
        replace h := h v_11 ev_11
        refine wa_iload_n C 1 rfl dX10_scale_17 rfl ?_
        refine wa_i2l C rx1 dX10_scale_18 ?_
        refine wa_lmul C dX10_scale_19 ?_
        refine wa_ladd C dX10_scale_20 ?_
        refine wa_nml (fun x2_12 ex2_12 => ?_)
        replace h := h x2_12 ex2_12
        refine wa_lstore_n C dX10_scale_21 rfl (by decide) rfl ?_
        refine wa_aload_n C 1 rfl dX10_scale_22 rfl ?_
        refine wa_iload C 3 rfl dX10_scale_23 ?_
        refine wa_lload_n C 0 rfl dX10_scale_25 rfl ?_
        refine wa_ldc2 C gw_1108 dX10_scale_26 ?_
        refine wa_land C dX10_scale_29 ?_
        obtain ⟨t_13, h⟩ := h
        refine wa_last C (ws' := fun w9 => (dW D_hasBoard D_beganBlank F_mines F_moves F_changes G_width G_height G_size B_parts B_longest S_groups S_askedGroup S_taken R_waitingCount R_metCount A_grade A_cell A_mined A_withTotal A_numbers X_low X_high Y_low Y_high F_mined F_number F_state F_cellsIn F_unknownNear F_hitNear F_moveStart F_changed F_waiting F_seen G_near G_nearEnd B_chosen B_partOf B_rest B_unknowns B_partStart B_cells S_minedSet S_safeSet S_partSet S_tally S_askedTally S_groupOf S_groupSize S_links S_linkEnd S_pick S_groupMinedSet S_groupSafeSet O_sums O_nextSums R_found R_openEnds R_need R_waiting R_waits R_common R_met A_number Q_mined w9 Q_choices Q_term Q_divisor Q_spare X_limbs X_sum Y_limbs Y_sum)) 53 dW_53 dX10_scale_30 t_13.1 t_13.2 dWs_53 (fun Q_all_14 eQ_all_14 => ?_)
        replace h := h Q_all_14 eQ_all_14
        refine wa_lload_n C 0 rfl dX10_scale_31 rfl ?_
        refine wa_bipush C (z := 31) dX10_scale_32 (by decide) ?_
        refine wa_lushr C dX10_scale_34 ?_
        refine wa_nml (fun x2_15 ex2_15 => ?_)
        replace h := h x2_15 ex2_15
        refine wa_lstore_n C dX10_scale_35 rfl (by decide) rfl ?_
        obtain ⟨r_16, h⟩ := h
        refine wa_iinc C (lv' := fun w9 => [(4, .int (iI w9)), (2, .long x2_15), (0, .ref (ad 53)), (1, .int (iI x1))]) 3 rfl dX10_scale_36 (by decide) (fun _ => rfl) (fun x4_17 ex4_17 => ?_)
        replace h := h x4_17 ex4_17
        have rx4_17 : inR x4_17 := by rw [ex4_17]; exact r_16
        refine wa_goto C (tgt := 5) dX10_scale_39 (by decide) ?_
        obtain ⟨n_18, ln_18, h⟩ := h
        refine wa_sub C [2, 3, 1, 0] rfl ?_
        exact ih_4 n_18 ln_18 x2_15 x4_17 Q_all_14 rx4_17 h
  refine wa_sub C [2, 3, 1, 0] rfl ?_
  exact k_5 n_2 (0 : Int64) 0 Q_all (inR_k 0 rfl) h0Inv_1
def P_X5_weighFree (post : (Int → Int64) → (Int → Int64) → (Int → Int64) → (Int → Int64) → Prop) (F_mines : Int) (B_parts : Int) (X_low : Int) (X_high : Int) (F_cellsIn : Int → Int) (B_partStart : Int → Int) (Q_mined : Int → Int64) (Q_all : Int → Int64) (Q_choices : Int → Int64) (Q_term : Int → Int64) (X_limbs : Int → Int64) (x1 : Int) : Prop :=
  P_X5_addPlacements_9_53 (fun (Q_all_1 : Int → Int64) (Q_choices_2 : Int → Int64) (Q_term_3 : Int → Int64) => ((x1 = 0 → (post Q_mined Q_all_1 Q_choices_2 Q_term_3)) ∧ (¬ x1 = 0 → (P_X5_addPlacements_9_52 (fun (Q_mined_5 : Int → Int64) (Q_choices_6 : Int → Int64) (Q_term_7 : Int → Int64) => (P_X1_freeCells (fun (c_8 : Int) => inR c_8 → (P_X10_scale_53 (fun (Q_all_9 : Int → Int64) => (post Q_mined_5 Q_all_9 Q_choices_6 Q_term_7)) Q_all_1 c_8)) B_parts F_cellsIn B_partStart )) F_mines B_parts X_low X_high F_cellsIn B_partStart Q_mined Q_choices_2 Q_term_3 X_limbs 1)))) F_mines B_parts X_low X_high F_cellsIn B_partStart Q_all Q_choices Q_term X_limbs 0
set_option maxRecDepth 100000 in
set_option maxHeartbeats 4000000 in
theorem c_X5_weighFree (l : Launch) (K : wK) (ad : Nat → Nat) {D_hasBoard : Int} {D_beganBlank : Int} {F_mines : Int} {F_moves : Int} {F_changes : Int} {G_width : Int} {G_height : Int} {G_size : Int} {B_parts : Int} {B_longest : Int} {S_groups : Int} {S_askedGroup : Int} {S_taken : Int} {R_waitingCount : Int} {R_metCount : Int} {A_grade : Int} {A_cell : Int} {A_mined : Int} {A_withTotal : Int} {A_numbers : Int} {X_low : Int} {X_high : Int} {Y_low : Int} {Y_high : Int} {F_mined : Int → Int} {F_number : Int → Int} {F_state : Int → Int} {F_cellsIn : Int → Int} {F_unknownNear : Int → Int} {F_hitNear : Int → Int} {F_moveStart : Int → Int} {F_changed : Int → Int} {F_waiting : Int → Int} {F_seen : Int → Int} {G_near : Int → Int} {G_nearEnd : Int → Int} {B_chosen : Int → Int} {B_partOf : Int → Int} {B_rest : Int → Int} {B_unknowns : Int → Int} {B_partStart : Int → Int} {B_cells : Int → Int} {S_minedSet : Int → Int} {S_safeSet : Int → Int} {S_partSet : Int → Int} {S_tally : Int → Int} {S_askedTally : Int → Int} {S_groupOf : Int → Int} {S_groupSize : Int → Int} {S_links : Int → Int} {S_linkEnd : Int → Int} {S_pick : Int → Int} {S_groupMinedSet : Int → Int} {S_groupSafeSet : Int → Int} {O_sums : Int → Int64} {O_nextSums : Int → Int64} {R_found : Int → Int} {R_openEnds : Int → Int} {R_need : Int → Int} {R_waiting : Int → Int} {R_waits : Int → Int} {R_common : Int → Int} {R_met : Int → Int} {A_number : Int → Int} {Q_mined : Int → Int64} {Q_all : Int → Int64} {Q_choices : Int → Int64} {Q_term : Int → Int64} {Q_divisor : Int → Int64} {Q_spare : Int → Int64} {X_limbs : Int → Int64} {X_sum : Int → Int64} {Y_limbs : Int → Int64} {Y_sum : Int → Int64} (x1 : Int) (bx1 : x1 = 0 ∨ x1 = 1) (post : (Int → Int64) → (Int → Int64) → (Int → Int64) → (Int → Int64) → Prop) (h : P_X5_weighFree post F_mines B_parts X_low X_high F_cellsIn B_partStart Q_mined Q_all Q_choices Q_term X_limbs x1) : mV l yX5_weighFree (Cond.code yX5_weighFree cX5_weighFree 2 none :: GT) ({ frames := 5, cells := 0, slots := 0, locals := 300 } : Room) [.ref (ad 8), .int (iI x1)] K ad (dW D_hasBoard D_beganBlank F_mines F_moves F_changes G_width G_height G_size B_parts B_longest S_groups S_askedGroup S_taken R_waitingCount R_metCount A_grade A_cell A_mined A_withTotal A_numbers X_low X_high Y_low Y_high F_mined F_number F_state F_cellsIn F_unknownNear F_hitNear F_moveStart F_changed F_waiting F_seen G_near G_nearEnd B_chosen B_partOf B_rest B_unknowns B_partStart B_cells S_minedSet S_safeSet S_partSet S_tally S_askedTally S_groupOf S_groupSize S_links S_linkEnd S_pick S_groupMinedSet S_groupSafeSet O_sums O_nextSums R_found R_openEnds R_need R_waiting R_waits R_common R_met A_number Q_mined Q_all Q_choices Q_term Q_divisor Q_spare X_limbs X_sum Y_limbs Y_sum) (fun u9 => ∃ Q_mined9 Q_all9 Q_choices9 Q_term9, u9 = (dW D_hasBoard D_beganBlank F_mines F_moves F_changes G_width G_height G_size B_parts B_longest S_groups S_askedGroup S_taken R_waitingCount R_metCount A_grade A_cell A_mined A_withTotal A_numbers X_low X_high Y_low Y_high F_mined F_number F_state F_cellsIn F_unknownNear F_hitNear F_moveStart F_changed F_waiting F_seen G_near G_nearEnd B_chosen B_partOf B_rest B_unknowns B_partStart B_cells S_minedSet S_safeSet S_partSet S_tally S_askedTally S_groupOf S_groupSize S_links S_linkEnd S_pick S_groupMinedSet S_groupSafeSet O_sums O_nextSums R_found R_openEnds R_need R_waiting R_waits R_common R_met A_number Q_mined9 Q_all9 Q_choices9 Q_term9 Q_divisor Q_spare X_limbs X_sum Y_limbs Y_sum) ∧ post Q_mined9 Q_all9 Q_choices9 Q_term9) := by
  refine mV_of (lv0 := [(0, .ref (ad 8)), (1, .int (iI x1))]) (by decide) (Nat.le_of_ble_eq_true rfl) rfl ?_
  intro p e s m args below meth c Q A C ret
  replace C : Cx p ({ frames := 5, cells := 0, slots := 0, locals := 300 } : Room) m c 0 0 cX5_weighFree 2 s args RX5 K A := C
  unfold P_X5_weighFree at h
  refine wa_aload_n C 0 rfl dX5_weighFree_0 rfl ?_
  refine wa_aload_n C 0 rfl dX5_weighFree_1 rfl ?_
  refine wa_getR C 8 5 dW_8 rfl rfl (by decide) okX5 gw_413 dX5_weighFree_2 ?_
  refine wa_aload_n C 0 rfl dX5_weighFree_5 rfl ?_
  refine wa_getR C 8 1 dW_8 rfl rfl (by decide) okX5 gw_408 dX5_weighFree_6 ?_
  refine wa_iconst C (z := 0) dX5_weighFree_9 rfl ?_
  refine wa_callVv C (k := 8) (As := [.ref (ad 9), .ref (ad 53), .int (iI 0)]) (rest := []) (c_X5_addPlacements_9_53 l K ad 0 (Or.inl rfl) _ h) gw_1116 gw_1113 dW_8 rfl gw_1115 gs_45 gw_9 q_X5_addPlacements rfl rfl rfl ⟨by decide, by decide⟩ rfl (Nat.le_of_ble_eq_true rfl) dX5_weighFree_10 (fun u9 hp => ?_)
  obtain ⟨Q_all_1, Q_choices_2, Q_term_3, rfl, h⟩ := hp
  refine wa_iload_n C 1 rfl dX5_weighFree_13 rfl ?_
  refine wa_if_eq C (tgt := 44) (inR_b bx1) dX5_weighFree_14 (by decide) (fun c_4 => ?_) (fun c_4 => ?_)
  · replace h := h.1 c_4
    exact ret dX5_weighFree_44 ⟨_, _, _, _, rfl, h⟩
  · replace h := h.2 c_4
    refine wa_aload_n C 0 rfl dX5_weighFree_17 rfl ?_
    refine wa_aload_n C 0 rfl dX5_weighFree_18 rfl ?_
    refine wa_getR C 8 5 dW_8 rfl rfl (by decide) okX5 gw_413 dX5_weighFree_19 ?_
    refine wa_aload_n C 0 rfl dX5_weighFree_22 rfl ?_
    refine wa_getR C 8 0 dW_8 rfl rfl (by decide) okX5 gw_406 dX5_weighFree_23 ?_
    refine wa_iconst C (z := 1) dX5_weighFree_26 rfl ?_
    refine wa_callVv C (k := 8) (As := [.ref (ad 9), .ref (ad 52), .int (iI 1)]) (rest := []) (c_X5_addPlacements_9_52 l K ad 1 (Or.inr rfl) _ h) gw_1116 gw_1113 dW_8 rfl gw_1115 gs_45 gw_9 q_X5_addPlacements rfl rfl rfl ⟨by decide, by decide⟩ rfl (Nat.le_of_ble_eq_true rfl) dX5_weighFree_27 (fun u9 hp => ?_)
    obtain ⟨Q_mined_5, Q_choices_6, Q_term_7, rfl, h⟩ := hp
    refine wa_aload_n C 0 rfl dX5_weighFree_30 rfl ?_
    refine wa_getR C 8 1 dW_8 rfl rfl (by decide) okX5 gw_408 dX5_weighFree_31 ?_
    refine wa_aload_n C 0 rfl dX5_weighFree_34 rfl ?_
    refine wa_getR C 8 3 dW_8 rfl rfl (by decide) okX5 gw_411 dX5_weighFree_35 ?_
    refine wa_callVi C (k := 3) (As := []) (rest := [.ref (ad 53)]) (c_X1_freeCells l K ad  _ h) gw_806 gw_1117 dW_3 rfl gw_804 gw_805 gw_4 q_X1_freeCells rfl rfl rfl ⟨by decide, by decide⟩ rfl (Nat.le_of_ble_eq_true rfl) dX5_weighFree_38 (fun c_8 u9 rc_8 hp => ?_)
    obtain ⟨rfl, h⟩ := hp
    replace h := h rc_8
    refine wa_callSv C (As := [.ref (ad 53), .int (iI c_8)]) (rest := []) (c_X10_scale_53 l K ad c_8 rc_8 _ h) gw_1126 gw_1124 gw_1125 gw_23 q_X10_scale rfl rfl rfl ⟨by decide, by decide⟩ rfl (Nat.le_of_ble_eq_true rfl) dX5_weighFree_41 (fun u9 hp => ?_)
    obtain ⟨Q_all_9, rfl, h⟩ := hp
    exact ret dX5_weighFree_44 ⟨_, _, _, _, rfl, h⟩
def P_X5_weigh (post : (Int) → (Int) → (Int) → (Int) → (Int) → (Int) → (Int) → (Int → Int) → (Int → Int) → (Int → Int) → (Int → Int) → (Int → Int) → (Int → Int) → (Int → Int) → (Int → Int) → (Int → Int) → (Int → Int) → (Int → Int) → (Int → Int) → (Int → Int) → (Int → Int) → (Int → Int64) → (Int → Int64) → (Int → Int64) → (Int → Int64) → (Int → Int64) → (Int → Int64) → (Int → Int64) → (Int → Int64) → Prop) (F_mines : Int) (B_parts : Int) (S_groups : Int) (S_askedGroup : Int) (S_taken : Int) (X_low : Int) (X_high : Int) (Y_low : Int) (Y_high : Int) (F_cellsIn : Int → Int) (G_near : Int → Int) (G_nearEnd : Int → Int) (B_chosen : Int → Int) (B_partOf : Int → Int) (B_rest : Int → Int) (B_unknowns : Int → Int) (B_partStart : Int → Int) (B_cells : Int → Int) (S_minedSet : Int → Int) (S_safeSet : Int → Int) (S_partSet : Int → Int) (S_tally : Int → Int) (S_askedTally : Int → Int) (S_groupOf : Int → Int) (S_groupSize : Int → Int) (S_links : Int → Int) (S_linkEnd : Int → Int) (S_pick : Int → Int) (S_groupMinedSet : Int → Int) (S_groupSafeSet : Int → Int) (Q_mined : Int → Int64) (Q_all : Int → Int64) (Q_choices : Int → Int64) (Q_term : Int → Int64) (X_limbs : Int → Int64) (X_sum : Int → Int64) (Y_limbs : Int → Int64) (Y_sum : Int → Int64) (x1 : Int) : Prop :=
  P_J7_fill_d0a16_52 (fun (Q_mined_1 : Int → Int64) => (P_J7_fill_d0a16_53 (fun (Q_all_2 : Int → Int64) => (∃ J_3 : (Int) → Prop, ((¬ x1 = (-1) → ((0 ≤ x1 ∧ x1 < 144) ∧ (∀ v_138 : Int, v_138 = B_partOf x1 → inR v_138 → (J_3 v_138)))) ∧ (x1 = (-1) → (J_3 (-1)))) ∧ (∀ (z_5 : Int), inR z_5 → J_3 z_5 → (P_X8_begin_9 (fun (X_low_6 : Int) (X_high_7 : Int) (X_limbs_8 : Int → Int64) (X_sum_9 : Int → Int64) => (∃ Inv_10 : Nat → (Int) → (Int) → (Int) → (Int) → (Int) → (Int) → (Int → Int) → (Int → Int) → (Int → Int) → (Int → Int) → (Int → Int) → (Int → Int) → (Int → Int) → (Int → Int) → (Int → Int) → (Int → Int) → (Int → Int) → (Int → Int) → (Int → Int) → (Int → Int) → (Int → Int64) → (Int → Int64) → Prop, (∃ n_11 : Nat, Inv_10 n_11 0 S_groups S_askedGroup S_taken X_low_6 X_high_7 B_rest B_unknowns S_minedSet S_safeSet S_partSet S_tally S_askedTally S_groupOf S_groupSize S_links S_linkEnd S_pick S_groupMinedSet S_groupSafeSet X_limbs_8 X_sum_9) ∧ ∀ (n_12 : Nat) (x3_15 : Int) (S_groups_16 : Int) (S_askedGroup_17 : Int) (S_taken_18 : Int) (X_low_19 : Int) (X_high_20 : Int) (B_rest_21 : Int → Int) (B_unknowns_22 : Int → Int) (S_minedSet_23 : Int → Int) (S_safeSet_24 : Int → Int) (S_partSet_25 : Int → Int) (S_tally_26 : Int → Int) (S_askedTally_27 : Int → Int) (S_groupOf_28 : Int → Int) (S_groupSize_29 : Int → Int) (S_links_30 : Int → Int) (S_linkEnd_31 : Int → Int) (S_pick_32 : Int → Int) (S_groupMinedSet_33 : Int → Int) (S_groupSafeSet_34 : Int → Int) (X_limbs_35 : Int → Int64) (X_sum_36 : Int → Int64), inR x3_15 → Inv_10 n_12 x3_15 S_groups_16 S_askedGroup_17 S_taken_18 X_low_19 X_high_20 B_rest_21 B_unknowns_22 S_minedSet_23 S_safeSet_24 S_partSet_25 S_tally_26 S_askedTally_27 S_groupOf_28 S_groupSize_29 S_links_30 S_linkEnd_31 S_pick_32 S_groupMinedSet_33 S_groupSafeSet_34 X_limbs_35 X_sum_36 → ((B_parts ≤ x3_15 → ((¬ z_5 = (-1) → (P_X9_take (fun (S_groups_40 : Int) (S_askedGroup_41 : Int) (S_taken_42 : Int) (B_rest_43 : Int → Int) (B_unknowns_44 : Int → Int) (S_minedSet_45 : Int → Int) (S_safeSet_46 : Int → Int) (S_partSet_47 : Int → Int) (S_tally_48 : Int → Int) (S_askedTally_49 : Int → Int) (S_groupOf_50 : Int → Int) (S_groupSize_51 : Int → Int) (S_links_52 : Int → Int) (S_linkEnd_53 : Int → Int) (S_pick_54 : Int → Int) (S_groupMinedSet_55 : Int → Int) (S_groupSafeSet_56 : Int → Int) => (P_X8_copy_10_9 (fun (Y_low_57 : Int) (Y_high_58 : Int) (Y_limbs_59 : Int → Int64) => (P_X1_sizeOf (fun (c_60 : Int) => inR c_60 → (P_X8_multiply_10_34 (fun (Y_low_61 : Int) (Y_high_62 : Int) (Y_limbs_63 : Int → Int64) (Y_sum_64 : Int → Int64) => (P_X9_tallyStart (fun (c_65 : Int) => inR c_65 → (P_X1_sizeOf (fun (c_66 : Int) => inR c_66 → (P_X8_multiply_9_33 (fun (X_low_67 : Int) (X_high_68 : Int) (X_limbs_69 : Int → Int64) (X_sum_70 : Int → Int64) => (P_X5_addPlacements_10_52 (fun (Q_mined_71 : Int → Int64) (Q_choices_72 : Int → Int64) (Q_term_73 : Int → Int64) => (P_X5_addPlacements_9_53 (fun (Q_all_74 : Int → Int64) (Q_choices_75 : Int → Int64) (Q_term_76 : Int → Int64) => (post S_groups_40 S_askedGroup_41 S_taken_42 X_low_67 X_high_68 Y_low_61 Y_high_62 B_rest_43 B_unknowns_44 S_minedSet_45 S_safeSet_46 S_partSet_47 S_tally_48 S_askedTally_49 S_groupOf_50 S_groupSize_51 S_links_52 S_linkEnd_53 S_pick_54 S_groupMinedSet_55 S_groupSafeSet_56 Q_mined_71 Q_all_74 Q_choices_75 Q_term_76 X_limbs_69 X_sum_70 Y_limbs_63 Y_sum_64)) F_mines B_parts X_low_67 X_high_68 F_cellsIn B_partStart Q_all_2 Q_choices_72 Q_term_73 X_limbs_69 0)) F_mines B_parts Y_low_61 Y_high_62 F_cellsIn B_partStart Q_mined_1 Q_choices Q_term Y_limbs_63 0)) X_low_19 X_high_20 S_tally_48 X_limbs_35 X_sum_36 c_65 c_66)) B_partStart z_5)) B_partStart z_5)) Y_low_57 Y_high_58 S_askedTally_49 Y_limbs_59 Y_sum 0 c_60)) B_partStart z_5)) X_low_19 X_high_20 Y_low Y_high X_limbs_35 Y_limbs )) S_groups_16 S_askedGroup_17 S_taken_18 G_near G_nearEnd B_chosen B_rest_21 B_unknowns_22 B_partStart B_cells S_minedSet_23 S_safeSet_24 S_partSet_25 S_tally_26 S_askedTally_27 S_groupOf_28 S_groupSize_29 S_links_30 S_linkEnd_31 S_pick_32 S_groupMinedSet_33 S_groupSafeSet_34 z_5 x1)) ∧ (z_5 = (-1) → (∃ J_77 : (Int) → Prop, ((x1 = (-1) → (J_77 0)) ∧ (¬ x1 = (-1) → (J_77 1))) ∧ (∀ (z_79 : Int), inR z_79 → J_77 z_79 → ((z_79 = 0 ∨ z_79 = 1) ∧ (P_X5_weighFree (fun (Q_mined_81 : Int → Int64) (Q_all_82 : Int → Int64) (Q_choices_83 : Int → Int64) (Q_term_84 : Int → Int64) => (post S_groups_16 S_askedGroup_17 S_taken_18 X_low_19 X_high_20 Y_low Y_high B_rest_21 B_unknowns_22 S_minedSet_23 S_safeSet_24 S_partSet_25 S_tally_26 S_askedTally_27 S_groupOf_28 S_groupSize_29 S_links_30 S_linkEnd_31 S_pick_32 S_groupMinedSet_33 S_groupSafeSet_34 Q_mined_81 Q_all_82 Q_choices_83 Q_term_84 X_limbs_35 X_sum_36 Y_limbs Y_sum)) F_mines B_parts X_low_19 X_high_20 F_cellsIn B_partStart Q_mined_1 Q_all_2 Q_choices Q_term X_limbs_35 z_79))))))) ∧ (¬ B_parts ≤ x3_15 → (∃ J_86 : (Int) → (Int) → (Int) → (Int) → (Int) → (Int → Int) → (Int → Int) → (Int → Int) → (Int → Int) → (Int → Int) → (Int → Int) → (Int → Int) → (Int → Int) → (Int → Int) → (Int → Int) → (Int → Int) → (Int → Int) → (Int → Int) → (Int → Int) → (Int → Int64) → (Int → Int64) → Prop, ((x3_15 = z_5 → (J_86 S_groups_16 S_askedGroup_17 S_taken_18 X_low_19 X_high_20 B_rest_21 B_unknowns_22 S_minedSet_23 S_safeSet_24 S_partSet_25 S_tally_26 S_askedTally_27 S_groupOf_28 S_groupSize_29 S_links_30 S_linkEnd_31 S_pick_32 S_groupMinedSet_33 S_groupSafeSet_34 X_limbs_35 X_sum_36)) ∧ (¬ x3_15 = z_5 → (P_X9_take (fun (S_groups_113 : Int) (S_askedGroup_114 : Int) (S_taken_115 : Int) (B_rest_116 : Int → Int) (B_unknowns_117 : Int → Int) (S_minedSet_118 : Int → Int) (S_safeSet_119 : Int → Int) (S_partSet_120 : Int → Int) (S_tally_121 : Int → Int) (S_askedTally_122 : Int → Int) (S_groupOf_123 : Int → Int) (S_groupSize_124 : Int → Int) (S_links_125 : Int → Int) (S_linkEnd_126 : Int → Int) (S_pick_127 : Int → Int) (S_groupMinedSet_128 : Int → Int) (S_groupSafeSet_129 : Int → Int) => (P_X9_tallyStart (fun (c_130 : Int) => inR c_130 → (P_X1_sizeOf (fun (c_131 : Int) => inR c_131 → (P_X8_multiply_9_33 (fun (X_low_132 : Int) (X_high_133 : Int) (X_limbs_134 : Int → Int64) (X_sum_135 : Int → Int64) => (J_86 S_groups_113 S_askedGroup_114 S_taken_115 X_low_132 X_high_133 B_rest_116 B_unknowns_117 S_minedSet_118 S_safeSet_119 S_partSet_120 S_tally_121 S_askedTally_122 S_groupOf_123 S_groupSize_124 S_links_125 S_linkEnd_126 S_pick_127 S_groupMinedSet_128 S_groupSafeSet_129 X_limbs_134 X_sum_135)) X_low_19 X_high_20 S_tally_121 X_limbs_35 X_sum_36 c_130 c_131)) B_partStart x3_15)) B_partStart x3_15)) S_groups_16 S_askedGroup_17 S_taken_18 G_near G_nearEnd B_chosen B_rest_21 B_unknowns_22 B_partStart B_cells S_minedSet_23 S_safeSet_24 S_partSet_25 S_tally_26 S_askedTally_27 S_groupOf_28 S_groupSize_29 S_links_30 S_linkEnd_31 S_pick_32 S_groupMinedSet_33 S_groupSafeSet_34 x3_15 (-1)))) ∧ (∀ (S_groups_88 : Int) (S_askedGroup_89 : Int) (S_taken_90 : Int) (X_low_91 : Int) (X_high_92 : Int) (B_rest_93 : Int → Int) (B_unknowns_94 : Int → Int) (S_minedSet_95 : Int → Int) (S_safeSet_96 : Int → Int) (S_partSet_97 : Int → Int) (S_tally_98 : Int → Int) (S_askedTally_99 : Int → Int) (S_groupOf_100 : Int → Int) (S_groupSize_101 : Int → Int) (S_links_102 : Int → Int) (S_linkEnd_103 : Int → Int) (S_pick_104 : Int → Int) (S_groupMinedSet_105 : Int → Int) (S_groupSafeSet_106 : Int → Int) (X_limbs_107 : Int → Int64) (X_sum_108 : Int → Int64), J_86 S_groups_88 S_askedGroup_89 S_taken_90 X_low_91 X_high_92 B_rest_93 B_unknowns_94 S_minedSet_95 S_safeSet_96 S_partSet_97 S_tally_98 S_askedTally_99 S_groupOf_100 S_groupSize_101 S_links_102 S_linkEnd_103 S_pick_104 S_groupMinedSet_105 S_groupSafeSet_106 X_limbs_107 X_sum_108 → (inR (x3_15 + 1) ∧ (∀ x3_110 : Int, x3_110 = (x3_15 + 1) → (∃ n_111 : Nat, n_111 < n_12 ∧ Inv_10 n_111 x3_110 S_groups_88 S_askedGroup_89 S_taken_90 X_low_91 X_high_92 B_rest_93 B_unknowns_94 S_minedSet_95 S_safeSet_96 S_partSet_97 S_tally_98 S_askedTally_99 S_groupOf_100 S_groupSize_101 S_links_102 S_linkEnd_103 S_pick_104 S_groupMinedSet_105 S_groupSafeSet_106 X_limbs_107 X_sum_108))))))))) X_low X_high X_limbs X_sum )))) Q_all (0 : Int64))) Q_mined (0 : Int64)
set_option maxRecDepth 100000 in
set_option maxHeartbeats 4000000 in
theorem c_X5_weigh (l : Launch) (K : wK) (ad : Nat → Nat) {D_hasBoard : Int} {D_beganBlank : Int} {F_mines : Int} {F_moves : Int} {F_changes : Int} {G_width : Int} {G_height : Int} {G_size : Int} {B_parts : Int} {B_longest : Int} {S_groups : Int} {S_askedGroup : Int} {S_taken : Int} {R_waitingCount : Int} {R_metCount : Int} {A_grade : Int} {A_cell : Int} {A_mined : Int} {A_withTotal : Int} {A_numbers : Int} {X_low : Int} {X_high : Int} {Y_low : Int} {Y_high : Int} {F_mined : Int → Int} {F_number : Int → Int} {F_state : Int → Int} {F_cellsIn : Int → Int} {F_unknownNear : Int → Int} {F_hitNear : Int → Int} {F_moveStart : Int → Int} {F_changed : Int → Int} {F_waiting : Int → Int} {F_seen : Int → Int} {G_near : Int → Int} {G_nearEnd : Int → Int} {B_chosen : Int → Int} {B_partOf : Int → Int} {B_rest : Int → Int} {B_unknowns : Int → Int} {B_partStart : Int → Int} {B_cells : Int → Int} {S_minedSet : Int → Int} {S_safeSet : Int → Int} {S_partSet : Int → Int} {S_tally : Int → Int} {S_askedTally : Int → Int} {S_groupOf : Int → Int} {S_groupSize : Int → Int} {S_links : Int → Int} {S_linkEnd : Int → Int} {S_pick : Int → Int} {S_groupMinedSet : Int → Int} {S_groupSafeSet : Int → Int} {O_sums : Int → Int64} {O_nextSums : Int → Int64} {R_found : Int → Int} {R_openEnds : Int → Int} {R_need : Int → Int} {R_waiting : Int → Int} {R_waits : Int → Int} {R_common : Int → Int} {R_met : Int → Int} {A_number : Int → Int} {Q_mined : Int → Int64} {Q_all : Int → Int64} {Q_choices : Int → Int64} {Q_term : Int → Int64} {Q_divisor : Int → Int64} {Q_spare : Int → Int64} {X_limbs : Int → Int64} {X_sum : Int → Int64} {Y_limbs : Int → Int64} {Y_sum : Int → Int64} (x1 : Int) (rx1 : inR x1) (post : (Int) → (Int) → (Int) → (Int) → (Int) → (Int) → (Int) → (Int → Int) → (Int → Int) → (Int → Int) → (Int → Int) → (Int → Int) → (Int → Int) → (Int → Int) → (Int → Int) → (Int → Int) → (Int → Int) → (Int → Int) → (Int → Int) → (Int → Int) → (Int → Int) → (Int → Int64) → (Int → Int64) → (Int → Int64) → (Int → Int64) → (Int → Int64) → (Int → Int64) → (Int → Int64) → (Int → Int64) → Prop) (h : P_X5_weigh post F_mines B_parts S_groups S_askedGroup S_taken X_low X_high Y_low Y_high F_cellsIn G_near G_nearEnd B_chosen B_partOf B_rest B_unknowns B_partStart B_cells S_minedSet S_safeSet S_partSet S_tally S_askedTally S_groupOf S_groupSize S_links S_linkEnd S_pick S_groupMinedSet S_groupSafeSet Q_mined Q_all Q_choices Q_term X_limbs X_sum Y_limbs Y_sum x1) : mV l yX5_weigh (Cond.code yX5_weigh cX5_weigh 4 none :: GT) ({ frames := 24, cells := 0, slots := 0, locals := 1440 } : Room) [.ref (ad 8), .int (iI x1)] K ad (dW D_hasBoard D_beganBlank F_mines F_moves F_changes G_width G_height G_size B_parts B_longest S_groups S_askedGroup S_taken R_waitingCount R_metCount A_grade A_cell A_mined A_withTotal A_numbers X_low X_high Y_low Y_high F_mined F_number F_state F_cellsIn F_unknownNear F_hitNear F_moveStart F_changed F_waiting F_seen G_near G_nearEnd B_chosen B_partOf B_rest B_unknowns B_partStart B_cells S_minedSet S_safeSet S_partSet S_tally S_askedTally S_groupOf S_groupSize S_links S_linkEnd S_pick S_groupMinedSet S_groupSafeSet O_sums O_nextSums R_found R_openEnds R_need R_waiting R_waits R_common R_met A_number Q_mined Q_all Q_choices Q_term Q_divisor Q_spare X_limbs X_sum Y_limbs Y_sum) (fun u9 => ∃ S_groups9 S_askedGroup9 S_taken9 X_low9 X_high9 Y_low9 Y_high9 B_rest9 B_unknowns9 S_minedSet9 S_safeSet9 S_partSet9 S_tally9 S_askedTally9 S_groupOf9 S_groupSize9 S_links9 S_linkEnd9 S_pick9 S_groupMinedSet9 S_groupSafeSet9 Q_mined9 Q_all9 Q_choices9 Q_term9 X_limbs9 X_sum9 Y_limbs9 Y_sum9, u9 = (dW D_hasBoard D_beganBlank F_mines F_moves F_changes G_width G_height G_size B_parts B_longest S_groups9 S_askedGroup9 S_taken9 R_waitingCount R_metCount A_grade A_cell A_mined A_withTotal A_numbers X_low9 X_high9 Y_low9 Y_high9 F_mined F_number F_state F_cellsIn F_unknownNear F_hitNear F_moveStart F_changed F_waiting F_seen G_near G_nearEnd B_chosen B_partOf B_rest9 B_unknowns9 B_partStart B_cells S_minedSet9 S_safeSet9 S_partSet9 S_tally9 S_askedTally9 S_groupOf9 S_groupSize9 S_links9 S_linkEnd9 S_pick9 S_groupMinedSet9 S_groupSafeSet9 O_sums O_nextSums R_found R_openEnds R_need R_waiting R_waits R_common R_met A_number Q_mined9 Q_all9 Q_choices9 Q_term9 Q_divisor Q_spare X_limbs9 X_sum9 Y_limbs9 Y_sum9) ∧ post S_groups9 S_askedGroup9 S_taken9 X_low9 X_high9 Y_low9 Y_high9 B_rest9 B_unknowns9 S_minedSet9 S_safeSet9 S_partSet9 S_tally9 S_askedTally9 S_groupOf9 S_groupSize9 S_links9 S_linkEnd9 S_pick9 S_groupMinedSet9 S_groupSafeSet9 Q_mined9 Q_all9 Q_choices9 Q_term9 X_limbs9 X_sum9 Y_limbs9 Y_sum9) := by
  refine mV_of (lv0 := [(0, .ref (ad 8)), (1, .int (iI x1))]) (by decide) (Nat.le_of_ble_eq_true rfl) rfl ?_
  intro p e s m args below meth c Q A C ret
  replace C : Cx p ({ frames := 24, cells := 0, slots := 0, locals := 1440 } : Room) m c 0 0 cX5_weigh 4 s args RX5 K A := C
  unfold P_X5_weigh at h
  refine wa_aload_n C 0 rfl dX5_weigh_0 rfl ?_
  refine wa_getR C 8 0 dW_8 rfl rfl (by decide) okX5 gw_406 dX5_weigh_1 ?_
  refine wa_lconst C (v := 0) dX5_weigh_4 rfl ?_
  refine wa_callSv C (As := [.ref (ad 52), .long (0 : Int64)]) (rest := []) (c_J7_fill_d0a16_52 l K ad (0 : Int64) _ h) gw_822 gw_1086 gw_821 gw_17 q_J7_fill_d0a16 rfl rfl rfl ⟨by decide, by decide⟩ rfl (Nat.le_of_ble_eq_true rfl) dX5_weigh_5 (fun u9 hp => ?_)
  obtain ⟨Q_mined_1, rfl, h⟩ := hp
  refine wa_aload_n C 0 rfl dX5_weigh_8 rfl ?_
  refine wa_getR C 8 1 dW_8 rfl rfl (by decide) okX5 gw_408 dX5_weigh_9 ?_
  refine wa_lconst C (v := 0) dX5_weigh_12 rfl ?_
  refine wa_callSv C (As := [.ref (ad 53), .long (0 : Int64)]) (rest := []) (c_J7_fill_d0a16_53 l K ad (0 : Int64) _ h) gw_822 gw_1086 gw_821 gw_17 q_J7_fill_d0a16 rfl rfl rfl ⟨by decide, by decide⟩ rfl (Nat.le_of_ble_eq_true rfl) dX5_weigh_13 (fun u9 hp => ?_)
  obtain ⟨Q_all_2, rfl, h⟩ := hp
  refine wa_iload_n C 1 rfl dX5_weigh_16 rfl ?_
  refine wa_iconst C (z := -1) dX5_weigh_17 rfl ?_
  obtain ⟨J_3, h, hJ_3⟩ := h
  have k_4 : ∀ (z_5 : Int), inR z_5 → J_3 z_5 → WA p l e ({ frames := 24, cells := 0, slots := 0, locals := 1440 } : Room) s m args below meth c 0 0 Q K ad 4 A 34 [(0, .ref (ad 8)), (1, .int (iI x1))] [.int (iI z_5)] (dW D_hasBoard D_beganBlank F_mines F_moves F_changes G_width G_height G_size B_parts B_longest S_groups S_askedGroup S_taken R_waitingCount R_metCount A_grade A_cell A_mined A_withTotal A_numbers X_low X_high Y_low Y_high F_mined F_number F_state F_cellsIn F_unknownNear F_hitNear F_moveStart F_changed F_waiting F_seen G_near G_nearEnd B_chosen B_partOf B_rest B_unknowns B_partStart B_cells S_minedSet S_safeSet S_partSet S_tally S_askedTally S_groupOf S_groupSize S_links S_linkEnd S_pick S_groupMinedSet S_groupSafeSet O_sums O_nextSums R_found R_openEnds R_need R_waiting R_waits R_common R_met A_number Q_mined_1 Q_all_2 Q_choices Q_term Q_divisor Q_spare X_limbs X_sum Y_limbs Y_sum) := by
    intro z_5 rz_5 h
    replace h := hJ_3 z_5 rz_5 h
    refine wa_istore_n C dX5_weigh_34 rfl (by decide) rfl ?_
    refine wa_aload_n C 1 rfl dX5_weigh_35 rfl ?_
    refine wa_getR C 8 5 dW_8 rfl rfl (by decide) okX5 gw_413 dX5_weigh_36 ?_
    refine wa_callVv C (k := 9) (As := []) (rest := []) (c_X8_begin_9 l K ad  _ h) gw_1090 gw_1087 dW_9 rfl gw_1088 gw_1089 gw_10 q_X8_begin rfl rfl rfl ⟨by decide, by decide⟩ rfl (Nat.le_of_ble_eq_true rfl) dX5_weigh_39 (fun u9 hp => ?_)
    obtain ⟨X_low_6, X_high_7, X_limbs_8, X_sum_9, rfl, h⟩ := hp
    refine wa_iconst C (z := 0) dX5_weigh_42 rfl ?_
    refine wa_istore_n C dX5_weigh_43 rfl (by decide) rfl ?_
    obtain ⟨Inv_10, ⟨n_11, h0Inv_10⟩, hInv_10⟩ := h
    have k_14 : ∀ (n_12 : Nat) (x3_15 : Int) (S_groups_16 : Int) (S_askedGroup_17 : Int) (S_taken_18 : Int) (X_low_19 : Int) (X_high_20 : Int) (B_rest_21 : Int → Int) (B_unknowns_22 : Int → Int) (S_minedSet_23 : Int → Int) (S_safeSet_24 : Int → Int) (S_partSet_25 : Int → Int) (S_tally_26 : Int → Int) (S_askedTally_27 : Int → Int) (S_groupOf_28 : Int → Int) (S_groupSize_29 : Int → Int) (S_links_30 : Int → Int) (S_linkEnd_31 : Int → Int) (S_pick_32 : Int → Int) (S_groupMinedSet_33 : Int → Int) (S_groupSafeSet_34 : Int → Int) (X_limbs_35 : Int → Int64) (X_sum_36 : Int → Int64), inR x3_15 → Inv_10 n_12 x3_15 S_groups_16 S_askedGroup_17 S_taken_18 X_low_19 X_high_20 B_rest_21 B_unknowns_22 S_minedSet_23 S_safeSet_24 S_partSet_25 S_tally_26 S_askedTally_27 S_groupOf_28 S_groupSize_29 S_links_30 S_linkEnd_31 S_pick_32 S_groupMinedSet_33 S_groupSafeSet_34 X_limbs_35 X_sum_36 → WA p l e ({ frames := 24, cells := 0, slots := 0, locals := 1440 } : Room) s m args below meth c 0 0 Q K ad 4 A 44 [(0, .ref (ad 8)), (1, .int (iI x1)), (2, .int (iI z_5)), (3, .int (iI x3_15))] [] (dW D_hasBoard D_beganBlank F_mines F_moves F_changes G_width G_height G_size B_parts B_longest S_groups_16 S_askedGroup_17 S_taken_18 R_waitingCount R_metCount A_grade A_cell A_mined A_withTotal A_numbers X_low_19 X_high_20 Y_low Y_high F_mined F_number F_state F_cellsIn F_unknownNear F_hitNear F_moveStart F_changed F_waiting F_seen G_near G_nearEnd B_chosen B_partOf B_rest_21 B_unknowns_22 B_partStart B_cells S_minedSet_23 S_safeSet_24 S_partSet_25 S_tally_26 S_askedTally_27 S_groupOf_28 S_groupSize_29 S_links_30 S_linkEnd_31 S_pick_32 S_groupMinedSet_33 S_groupSafeSet_34 O_sums O_nextSums R_found R_openEnds R_need R_waiting R_waits R_common R_met A_number Q_mined_1 Q_all_2 Q_choices Q_term Q_divisor Q_spare X_limbs_35 X_sum_36 Y_limbs Y_sum) := by
      intro n_12
      induction n_12 using Nat.strongRecOn with
      | ind n_12 ih_13 =>
        intro x3_15 S_groups_16 S_askedGroup_17 S_taken_18 X_low_19 X_high_20 B_rest_21 B_unknowns_22 S_minedSet_23 S_safeSet_24 S_partSet_25 S_tally_26 S_askedTally_27 S_groupOf_28 S_groupSize_29 S_links_30 S_linkEnd_31 S_pick_32 S_groupMinedSet_33 S_groupSafeSet_34 X_limbs_35 X_sum_36 rx3_15 h
        replace h := hInv_10 n_12 x3_15 S_groups_16 S_askedGroup_17 S_taken_18 X_low_19 X_high_20 B_rest_21 B_unknowns_22 S_minedSet_23 S_safeSet_24 S_partSet_25 S_tally_26 S_askedTally_27 S_groupOf_28 S_groupSize_29 S_links_30 S_linkEnd_31 S_pick_32 S_groupMinedSet_33 S_groupSafeSet_34 X_limbs_35 X_sum_36 rx3_15 h
        refine wa_iload_n C 3 rfl dX5_weigh_44 rfl ?_
        refine wa_aload_n C 0 rfl dX5_weigh_45 rfl ?_
        refine wa_getR C 8 3 dW_8 rfl rfl (by decide) okX5 gw_411 dX5_weigh_46 ?_
        refine wa_getI C 3 8 dW_3 rfl rfl (by decide) okX1 gw_177 dX5_weigh_49 (fun r_37 => ?_)
        refine wa_icmp_ge C (tgt := 105) rx3_15 r_37 dX5_weigh_52 (by decide) (fun c_38 => ?_) (fun c_38 => ?_)
        · replace h := h.1 c_38
          refine wa_iload_n C 2 rfl dX5_weigh_105 rfl ?_
          refine wa_iconst C (z := -1) dX5_weigh_106 rfl ?_
          refine wa_icmp_ne C (tgt := 125) rz_5 (inR_k (-1) rfl) dX5_weigh_107 (by decide) (fun c_39 => ?_) (fun c_39 => ?_)
          · replace h := h.1 c_39
            refine wa_aload_n C 0 rfl dX5_weigh_125 rfl ?_
            refine wa_getR C 8 4 dW_8 rfl rfl (by decide) okX5 gw_412 dX5_weigh_126 ?_
            refine wa_iload_n C 2 rfl dX5_weigh_129 rfl ?_
            refine wa_iload_n C 1 rfl dX5_weigh_130 rfl ?_
            refine wa_callVv C (k := 4) (As := [.int (iI z_5), .int (iI x1)]) (rest := []) (c_X9_take l K ad z_5 x1 rz_5 rx1 _ h) gw_753 gw_1096 dW_4 rfl gw_751 gw_752 gw_5 q_X9_take rfl rfl rfl ⟨by decide, by decide⟩ rfl (Nat.le_of_ble_eq_true rfl) dX5_weigh_131 (fun u9 hp => ?_)
            obtain ⟨S_groups_40, S_askedGroup_41, S_taken_42, B_rest_43, B_unknowns_44, S_minedSet_45, S_safeSet_46, S_partSet_47, S_tally_48, S_askedTally_49, S_groupOf_50, S_groupSize_51, S_links_52, S_linkEnd_53, S_pick_54, S_groupMinedSet_55, S_groupSafeSet_56, rfl, h⟩ := hp
            refine wa_aload_n C 0 rfl dX5_weigh_134 rfl ?_
            refine wa_getR C 8 6 dW_8 rfl rfl (by decide) okX5 gw_414 dX5_weigh_135 ?_
            refine wa_aload_n C 0 rfl dX5_weigh_138 rfl ?_
            refine wa_getR C 8 5 dW_8 rfl rfl (by decide) okX5 gw_413 dX5_weigh_139 ?_
            refine wa_callVv C (k := 10) (As := [.ref (ad 9)]) (rest := []) (c_X8_copy_10_9 l K ad  _ h) gw_1133 gw_1130 dW_10 rfl gw_1131 gw_1132 gw_10 q_X8_copy rfl rfl rfl ⟨by decide, by decide⟩ rfl (Nat.le_of_ble_eq_true rfl) dX5_weigh_142 (fun u9 hp => ?_)
            obtain ⟨Y_low_57, Y_high_58, Y_limbs_59, rfl, h⟩ := hp
            refine wa_aload_n C 0 rfl dX5_weigh_145 rfl ?_
            refine wa_getR C 8 6 dW_8 rfl rfl (by decide) okX5 gw_414 dX5_weigh_146 ?_
            refine wa_aload_n C 0 rfl dX5_weigh_149 rfl ?_
            refine wa_getR C 8 4 dW_8 rfl rfl (by decide) okX5 gw_412 dX5_weigh_150 ?_
            refine wa_getR C 4 4 dW_4 rfl rfl (by decide) okX9 gw_217 dX5_weigh_153 ?_
            refine wa_iconst C (z := 0) dX5_weigh_156 rfl ?_
            refine wa_aload_n C 0 rfl dX5_weigh_157 rfl ?_
            refine wa_getR C 8 3 dW_8 rfl rfl (by decide) okX5 gw_411 dX5_weigh_158 ?_
            refine wa_iload_n C 2 rfl dX5_weigh_161 rfl ?_
            refine wa_callVi C (k := 3) (As := [.int (iI z_5)]) (rest := [.int (iI 0), .ref (ad 34), .ref (ad 10)]) (c_X1_sizeOf l K ad z_5 rz_5 _ h) gw_757 gw_1098 dW_3 rfl gw_755 gw_756 gw_4 q_X1_sizeOf rfl rfl rfl ⟨by decide, by decide⟩ rfl (Nat.le_of_ble_eq_true rfl) dX5_weigh_162 (fun c_60 u9 rc_60 hp => ?_)
            obtain ⟨rfl, h⟩ := hp
            replace h := h rc_60
            refine wa_callVv C (k := 10) (As := [.ref (ad 34), .int (iI 0), .int (iI c_60)]) (rest := []) (c_X8_multiply_10_34 l K ad 0 c_60 (inR_k 0 rfl) rc_60 _ h) gw_1102 gw_1099 dW_10 rfl gw_1100 gw_1101 gw_10 q_X8_multiply rfl rfl rfl ⟨by decide, by decide⟩ rfl (Nat.le_of_ble_eq_true rfl) dX5_weigh_165 (fun u9 hp => ?_)
            obtain ⟨Y_low_61, Y_high_62, Y_limbs_63, Y_sum_64, rfl, h⟩ := hp
            refine wa_aload_n C 0 rfl dX5_weigh_168 rfl ?_
            refine wa_getR C 8 5 dW_8 rfl rfl (by decide) okX5 gw_413 dX5_weigh_169 ?_
            refine wa_aload_n C 0 rfl dX5_weigh_172 rfl ?_
            refine wa_getR C 8 4 dW_8 rfl rfl (by decide) okX5 gw_412 dX5_weigh_173 ?_
            refine wa_getR C 4 3 dW_4 rfl rfl (by decide) okX9 gw_215 dX5_weigh_176 ?_
            refine wa_aload_n C 0 rfl dX5_weigh_179 rfl ?_
            refine wa_getR C 8 4 dW_8 rfl rfl (by decide) okX5 gw_412 dX5_weigh_180 ?_
            refine wa_iload_n C 2 rfl dX5_weigh_183 rfl ?_
            refine wa_callVi C (k := 4) (As := [.int (iI z_5)]) (rest := [.ref (ad 33), .ref (ad 9)]) (c_X9_tallyStart l K ad z_5 rz_5 _ h) gw_781 gw_1097 dW_4 rfl gw_779 gw_780 gw_5 q_X9_tallyStart rfl rfl rfl ⟨by decide, by decide⟩ rfl (Nat.le_of_ble_eq_true rfl) dX5_weigh_184 (fun c_65 u9 rc_65 hp => ?_)
            obtain ⟨rfl, h⟩ := hp
            replace h := h rc_65
            refine wa_aload_n C 0 rfl dX5_weigh_187 rfl ?_
            refine wa_getR C 8 3 dW_8 rfl rfl (by decide) okX5 gw_411 dX5_weigh_188 ?_
            refine wa_iload_n C 2 rfl dX5_weigh_191 rfl ?_
            refine wa_callVi C (k := 3) (As := [.int (iI z_5)]) (rest := [.int (iI c_65), .ref (ad 33), .ref (ad 9)]) (c_X1_sizeOf l K ad z_5 rz_5 _ h) gw_757 gw_1098 dW_3 rfl gw_755 gw_756 gw_4 q_X1_sizeOf rfl rfl rfl ⟨by decide, by decide⟩ rfl (Nat.le_of_ble_eq_true rfl) dX5_weigh_192 (fun c_66 u9 rc_66 hp => ?_)
            obtain ⟨rfl, h⟩ := hp
            replace h := h rc_66
            refine wa_callVv C (k := 9) (As := [.ref (ad 33), .int (iI c_65), .int (iI c_66)]) (rest := []) (c_X8_multiply_9_33 l K ad c_65 c_66 rc_65 rc_66 _ h) gw_1102 gw_1099 dW_9 rfl gw_1100 gw_1101 gw_10 q_X8_multiply rfl rfl rfl ⟨by decide, by decide⟩ rfl (Nat.le_of_ble_eq_true rfl) dX5_weigh_195 (fun u9 hp => ?_)
            obtain ⟨X_low_67, X_high_68, X_limbs_69, X_sum_70, rfl, h⟩ := hp
            refine wa_aload_n C 0 rfl dX5_weigh_198 rfl ?_
            refine wa_aload_n C 0 rfl dX5_weigh_199 rfl ?_
            refine wa_getR C 8 6 dW_8 rfl rfl (by decide) okX5 gw_414 dX5_weigh_200 ?_
            refine wa_aload_n C 0 rfl dX5_weigh_203 rfl ?_
            refine wa_getR C 8 0 dW_8 rfl rfl (by decide) okX5 gw_406 dX5_weigh_204 ?_
            refine wa_iconst C (z := 0) dX5_weigh_207 rfl ?_
            refine wa_callVv C (k := 8) (As := [.ref (ad 10), .ref (ad 52), .int (iI 0)]) (rest := []) (c_X5_addPlacements_10_52 l K ad 0 (Or.inl rfl) _ h) gw_1116 gw_1113 dW_8 rfl gw_1115 gs_45 gw_9 q_X5_addPlacements rfl rfl rfl ⟨by decide, by decide⟩ rfl (Nat.le_of_ble_eq_true rfl) dX5_weigh_208 (fun u9 hp => ?_)
            obtain ⟨Q_mined_71, Q_choices_72, Q_term_73, rfl, h⟩ := hp
            refine wa_aload_n C 0 rfl dX5_weigh_211 rfl ?_
            refine wa_aload_n C 0 rfl dX5_weigh_212 rfl ?_
            refine wa_getR C 8 5 dW_8 rfl rfl (by decide) okX5 gw_413 dX5_weigh_213 ?_
            refine wa_aload_n C 0 rfl dX5_weigh_216 rfl ?_
            refine wa_getR C 8 1 dW_8 rfl rfl (by decide) okX5 gw_408 dX5_weigh_217 ?_
            refine wa_iconst C (z := 0) dX5_weigh_220 rfl ?_
            refine wa_callVv C (k := 8) (As := [.ref (ad 9), .ref (ad 53), .int (iI 0)]) (rest := []) (c_X5_addPlacements_9_53 l K ad 0 (Or.inl rfl) _ h) gw_1116 gw_1113 dW_8 rfl gw_1115 gs_45 gw_9 q_X5_addPlacements rfl rfl rfl ⟨by decide, by decide⟩ rfl (Nat.le_of_ble_eq_true rfl) dX5_weigh_221 (fun u9 hp => ?_)
            obtain ⟨Q_all_74, Q_choices_75, Q_term_76, rfl, h⟩ := hp
            exact ret dX5_weigh_224 ⟨_, _, _, _, _, _, _, _, _, _, _, _, _, _, _, _, _, _, _, _, _, _, _, _, _, _, _, _, _, rfl, h⟩
          · replace h := h.2 c_39
            refine wa_aload_n C 0 rfl dX5_weigh_110 rfl ?_
            refine wa_iload_n C 1 rfl dX5_weigh_111 rfl ?_
            refine wa_iconst C (z := -1) dX5_weigh_112 rfl ?_
            obtain ⟨J_77, h, hJ_77⟩ := h
            have k_78 : ∀ (z_79 : Int), inR z_79 → J_77 z_79 → WA p l e ({ frames := 24, cells := 0, slots := 0, locals := 1440 } : Room) s m args below meth c 0 0 Q K ad 4 A 121 [] [.int (iI z_79), .ref (ad 8)] (dW D_hasBoard D_beganBlank F_mines F_moves F_changes G_width G_height G_size B_parts B_longest S_groups_16 S_askedGroup_17 S_taken_18 R_waitingCount R_metCount A_grade A_cell A_mined A_withTotal A_numbers X_low_19 X_high_20 Y_low Y_high F_mined F_number F_state F_cellsIn F_unknownNear F_hitNear F_moveStart F_changed F_waiting F_seen G_near G_nearEnd B_chosen B_partOf B_rest_21 B_unknowns_22 B_partStart B_cells S_minedSet_23 S_safeSet_24 S_partSet_25 S_tally_26 S_askedTally_27 S_groupOf_28 S_groupSize_29 S_links_30 S_linkEnd_31 S_pick_32 S_groupMinedSet_33 S_groupSafeSet_34 O_sums O_nextSums R_found R_openEnds R_need R_waiting R_waits R_common R_met A_number Q_mined_1 Q_all_2 Q_choices Q_term Q_divisor Q_spare X_limbs_35 X_sum_36 Y_limbs Y_sum) := by
              intro z_79 rz_79 h
              replace h := hJ_77 z_79 rz_79 h
              obtain ⟨b_80, h⟩ := h
              refine wa_callVv C (k := 8) (As := [.int (iI z_79)]) (rest := []) (c_X5_weighFree l K ad z_79 b_80 _ h) gw_1112 gw_1109 dW_8 rfl gw_1111 gs_44 gw_9 q_X5_weighFree rfl rfl rfl ⟨by decide, by decide⟩ rfl (Nat.le_of_ble_eq_true rfl) dX5_weigh_121 (fun u9 hp => ?_)
              obtain ⟨Q_mined_81, Q_all_82, Q_choices_83, Q_term_84, rfl, h⟩ := hp
              exact ret dX5_weigh_124 ⟨_, _, _, _, _, _, _, _, _, _, _, _, _, _, _, _, _, _, _, _, _, _, _, _, _, _, _, _, _, rfl, h⟩
            refine wa_icmp_eq C (tgt := 120) rx1 (inR_k (-1) rfl) dX5_weigh_113 (by decide) (fun c_85 => ?_) (fun c_85 => ?_)
            · replace h := h.1 c_85
              refine wa_iconst C (z := 0) dX5_weigh_120 rfl ?_
              refine wa_sub C [] rfl ?_
              exact k_78 0 (inR_k 0 rfl) h
            · replace h := h.2 c_85
              refine wa_iconst C (z := 1) dX5_weigh_116 rfl ?_
              refine wa_goto C (tgt := 121) dX5_weigh_117 (by decide) ?_
              refine wa_sub C [] rfl ?_
              exact k_78 1 (inR_k 1 rfl) h
        · replace h := h.2 c_38
          refine wa_iload_n C 3 rfl dX5_weigh_55 rfl ?_
          refine wa_iload_n C 2 rfl dX5_weigh_56 rfl ?_
          obtain ⟨J_86, h, hJ_86⟩ := h
          have k_87 : ∀ (S_groups_88 : Int) (S_askedGroup_89 : Int) (S_taken_90 : Int) (X_low_91 : Int) (X_high_92 : Int) (B_rest_93 : Int → Int) (B_unknowns_94 : Int → Int) (S_minedSet_95 : Int → Int) (S_safeSet_96 : Int → Int) (S_partSet_97 : Int → Int) (S_tally_98 : Int → Int) (S_askedTally_99 : Int → Int) (S_groupOf_100 : Int → Int) (S_groupSize_101 : Int → Int) (S_links_102 : Int → Int) (S_linkEnd_103 : Int → Int) (S_pick_104 : Int → Int) (S_groupMinedSet_105 : Int → Int) (S_groupSafeSet_106 : Int → Int) (X_limbs_107 : Int → Int64) (X_sum_108 : Int → Int64), J_86 S_groups_88 S_askedGroup_89 S_taken_90 X_low_91 X_high_92 B_rest_93 B_unknowns_94 S_minedSet_95 S_safeSet_96 S_partSet_97 S_tally_98 S_askedTally_99 S_groupOf_100 S_groupSize_101 S_links_102 S_linkEnd_103 S_pick_104 S_groupMinedSet_105 S_groupSafeSet_106 X_limbs_107 X_sum_108 → WA p l e ({ frames := 24, cells := 0, slots := 0, locals := 1440 } : Room) s m args below meth c 0 0 Q K ad 4 A 99 [(0, .ref (ad 8)), (1, .int (iI x1)), (2, .int (iI z_5)), (3, .int (iI x3_15))] [] (dW D_hasBoard D_beganBlank F_mines F_moves F_changes G_width G_height G_size B_parts B_longest S_groups_88 S_askedGroup_89 S_taken_90 R_waitingCount R_metCount A_grade A_cell A_mined A_withTotal A_numbers X_low_91 X_high_92 Y_low Y_high F_mined F_number F_state F_cellsIn F_unknownNear F_hitNear F_moveStart F_changed F_waiting F_seen G_near G_nearEnd B_chosen B_partOf B_rest_93 B_unknowns_94 B_partStart B_cells S_minedSet_95 S_safeSet_96 S_partSet_97 S_tally_98 S_askedTally_99 S_groupOf_100 S_groupSize_101 S_links_102 S_linkEnd_103 S_pick_104 S_groupMinedSet_105 S_groupSafeSet_106 O_sums O_nextSums R_found R_openEnds R_need R_waiting R_waits R_common R_met A_number Q_mined_1 Q_all_2 Q_choices Q_term Q_divisor Q_spare X_limbs_107 X_sum_108 Y_limbs Y_sum) := by
            intro S_groups_88 S_askedGroup_89 S_taken_90 X_low_91 X_high_92 B_rest_93 B_unknowns_94 S_minedSet_95 S_safeSet_96 S_partSet_97 S_tally_98 S_askedTally_99 S_groupOf_100 S_groupSize_101 S_links_102 S_linkEnd_103 S_pick_104 S_groupMinedSet_105 S_groupSafeSet_106 X_limbs_107 X_sum_108 h
            replace h := hJ_86 S_groups_88 S_askedGroup_89 S_taken_90 X_low_91 X_high_92 B_rest_93 B_unknowns_94 S_minedSet_95 S_safeSet_96 S_partSet_97 S_tally_98 S_askedTally_99 S_groupOf_100 S_groupSize_101 S_links_102 S_linkEnd_103 S_pick_104 S_groupMinedSet_105 S_groupSafeSet_106 X_limbs_107 X_sum_108 h
            obtain ⟨r_109, h⟩ := h
            refine wa_iinc C (lv' := fun w9 => [(3, .int (iI w9)), (0, .ref (ad 8)), (1, .int (iI x1)), (2, .int (iI z_5))]) 3 rfl dX5_weigh_99 (by decide) (fun _ => rfl) (fun x3_110 ex3_110 => ?_)
            replace h := h x3_110 ex3_110
            have rx3_110 : inR x3_110 := by rw [ex3_110]; exact r_109
            refine wa_goto C (tgt := 44) dX5_weigh_102 (by decide) ?_
            obtain ⟨n_111, ln_111, h⟩ := h
            refine wa_sub C [1, 2, 3, 0] rfl ?_
            exact ih_13 n_111 ln_111 x3_110 S_groups_88 S_askedGroup_89 S_taken_90 X_low_91 X_high_92 B_rest_93 B_unknowns_94 S_minedSet_95 S_safeSet_96 S_partSet_97 S_tally_98 S_askedTally_99 S_groupOf_100 S_groupSize_101 S_links_102 S_linkEnd_103 S_pick_104 S_groupMinedSet_105 S_groupSafeSet_106 X_limbs_107 X_sum_108 rx3_110 h
          refine wa_icmp_eq C (tgt := 99) rx3_15 rz_5 dX5_weigh_57 (by decide) (fun c_112 => ?_) (fun c_112 => ?_)
          · replace h := h.1 c_112
            refine wa_sub C [0, 1, 2, 3] rfl ?_
            exact k_87 S_groups_16 S_askedGroup_17 S_taken_18 X_low_19 X_high_20 B_rest_21 B_unknowns_22 S_minedSet_23 S_safeSet_24 S_partSet_25 S_tally_26 S_askedTally_27 S_groupOf_28 S_groupSize_29 S_links_30 S_linkEnd_31 S_pick_32 S_groupMinedSet_33 S_groupSafeSet_34 X_limbs_35 X_sum_36 h
          · replace h := h.2 c_112
            refine wa_aload_n C 0 rfl dX5_weigh_60 rfl ?_
            refine wa_getR C 8 4 dW_8 rfl rfl (by decide) okX5 gw_412 dX5_weigh_61 ?_
            refine wa_iload_n C 3 rfl dX5_weigh_64 rfl ?_
            refine wa_iconst C (z := -1) dX5_weigh_65 rfl ?_
            refine wa_callVv C (k := 4) (As := [.int (iI x3_15), .int (iI (-1))]) (rest := []) (c_X9_take l K ad x3_15 (-1) rx3_15 (inR_k (-1) rfl) _ h) gw_753 gw_1096 dW_4 rfl gw_751 gw_752 gw_5 q_X9_take rfl rfl rfl ⟨by decide, by decide⟩ rfl (Nat.le_of_ble_eq_true rfl) dX5_weigh_66 (fun u9 hp => ?_)
            obtain ⟨S_groups_113, S_askedGroup_114, S_taken_115, B_rest_116, B_unknowns_117, S_minedSet_118, S_safeSet_119, S_partSet_120, S_tally_121, S_askedTally_122, S_groupOf_123, S_groupSize_124, S_links_125, S_linkEnd_126, S_pick_127, S_groupMinedSet_128, S_groupSafeSet_129, rfl, h⟩ := hp
            refine wa_aload_n C 0 rfl dX5_weigh_69 rfl ?_
            refine wa_getR C 8 5 dW_8 rfl rfl (by decide) okX5 gw_413 dX5_weigh_70 ?_
            refine wa_aload_n C 0 rfl dX5_weigh_73 rfl ?_
            refine wa_getR C 8 4 dW_8 rfl rfl (by decide) okX5 gw_412 dX5_weigh_74 ?_
            refine wa_getR C 4 3 dW_4 rfl rfl (by decide) okX9 gw_215 dX5_weigh_77 ?_
            refine wa_aload_n C 0 rfl dX5_weigh_80 rfl ?_
            refine wa_getR C 8 4 dW_8 rfl rfl (by decide) okX5 gw_412 dX5_weigh_81 ?_
            refine wa_iload_n C 3 rfl dX5_weigh_84 rfl ?_
            refine wa_callVi C (k := 4) (As := [.int (iI x3_15)]) (rest := [.ref (ad 33), .ref (ad 9)]) (c_X9_tallyStart l K ad x3_15 rx3_15 _ h) gw_781 gw_1097 dW_4 rfl gw_779 gw_780 gw_5 q_X9_tallyStart rfl rfl rfl ⟨by decide, by decide⟩ rfl (Nat.le_of_ble_eq_true rfl) dX5_weigh_85 (fun c_130 u9 rc_130 hp => ?_)
            obtain ⟨rfl, h⟩ := hp
            replace h := h rc_130
            refine wa_aload_n C 0 rfl dX5_weigh_88 rfl ?_
            refine wa_getR C 8 3 dW_8 rfl rfl (by decide) okX5 gw_411 dX5_weigh_89 ?_
            refine wa_iload_n C 3 rfl dX5_weigh_92 rfl ?_
            refine wa_callVi C (k := 3) (As := [.int (iI x3_15)]) (rest := [.int (iI c_130), .ref (ad 33), .ref (ad 9)]) (c_X1_sizeOf l K ad x3_15 rx3_15 _ h) gw_757 gw_1098 dW_3 rfl gw_755 gw_756 gw_4 q_X1_sizeOf rfl rfl rfl ⟨by decide, by decide⟩ rfl (Nat.le_of_ble_eq_true rfl) dX5_weigh_93 (fun c_131 u9 rc_131 hp => ?_)
            obtain ⟨rfl, h⟩ := hp
            replace h := h rc_131
            refine wa_callVv C (k := 9) (As := [.ref (ad 33), .int (iI c_130), .int (iI c_131)]) (rest := []) (c_X8_multiply_9_33 l K ad c_130 c_131 rc_130 rc_131 _ h) gw_1102 gw_1099 dW_9 rfl gw_1100 gw_1101 gw_10 q_X8_multiply rfl rfl rfl ⟨by decide, by decide⟩ rfl (Nat.le_of_ble_eq_true rfl) dX5_weigh_96 (fun u9 hp => ?_)
            obtain ⟨X_low_132, X_high_133, X_limbs_134, X_sum_135, rfl, h⟩ := hp
            refine wa_sub C [0, 1, 2, 3] rfl ?_
            exact k_87 S_groups_113 S_askedGroup_114 S_taken_115 X_low_132 X_high_133 B_rest_116 B_unknowns_117 S_minedSet_118 S_safeSet_119 S_partSet_120 S_tally_121 S_askedTally_122 S_groupOf_123 S_groupSize_124 S_links_125 S_linkEnd_126 S_pick_127 S_groupMinedSet_128 S_groupSafeSet_129 X_limbs_134 X_sum_135 h
    refine wa_sub C [2, 3, 1, 0] rfl ?_
    exact k_14 n_11 0 S_groups S_askedGroup S_taken X_low_6 X_high_7 B_rest B_unknowns S_minedSet S_safeSet S_partSet S_tally S_askedTally S_groupOf S_groupSize S_links S_linkEnd S_pick S_groupMinedSet S_groupSafeSet X_limbs_8 X_sum_9 (inR_k 0 rfl) h0Inv_10
  refine wa_icmp_ne C (tgt := 25) rx1 (inR_k (-1) rfl) dX5_weigh_18 (by decide) (fun c_136 => ?_) (fun c_136 => ?_)
  · replace h := h.1 c_136
    refine wa_aload_n C 0 rfl dX5_weigh_25 rfl ?_
    refine wa_getR C 8 3 dW_8 rfl rfl (by decide) okX5 gw_411 dX5_weigh_26 ?_
    refine wa_getR C 3 3 dW_3 rfl rfl (by decide) okX1 gw_165 dX5_weigh_29 ?_
    refine wa_iload_n C 1 rfl dX5_weigh_32 rfl ?_
    obtain ⟨t_137, h⟩ := h
    refine wa_iald C 25 dW_25 dX5_weigh_33 t_137.1 t_137.2 (fun v_138 ev_138 rv_138 => ?_)
    replace h := h v_138 ev_138 rv_138
    refine wa_sub C [0, 1] rfl ?_
    exact k_4 v_138 rv_138 h
  · replace h := h.2 c_136
    refine wa_iconst C (z := -1) dX5_weigh_21 rfl ?_
    refine wa_goto C (tgt := 34) dX5_weigh_22 (by decide) ?_
    refine wa_sub C [0, 1] rfl ?_
    exact k_4 (-1) (inR_k (-1) rfl) h
def P_X10_isZero_52 (post : Int → Prop) (Q_mined : Int → Int64) : Prop :=
  ∃ Inv_1 : Nat → (Int64) → (Int) → Prop, (∃ n_2 : Nat, Inv_1 n_2 (0 : Int64) 0) ∧ ∀ (n_3 : Nat) (x1_6 : Int64) (x3_7 : Int), inR x3_7 → Inv_1 n_3 x1_6 x3_7 → ((6 ≤ x3_7 → (∃ J_9 : (Int) → Prop, ((¬ (lcI x1_6 (0 : Int64)) = 0 → (J_9 0)) ∧ ((lcI x1_6 (0 : Int64)) = 0 → (J_9 1))) ∧ (∀ (z_11 : Int), inR z_11 → J_9 z_11 → ((z_11 = 0 ∨ z_11 = 1) ∧ (post z_11))))) ∧ (¬ 6 ≤ x3_7 → ((0 ≤ x3_7 ∧ x3_7 < 6) ∧ (∀ v_15 : Int64, v_15 = Q_mined x3_7 → (∀ x1_16 : Int64, x1_16 = (x1_6 ||| v_15) → (inR (x3_7 + 1) ∧ (∀ x3_18 : Int, x3_18 = (x3_7 + 1) → (∃ n_19 : Nat, n_19 < n_3 ∧ Inv_1 n_19 x1_16 x3_18))))))))
set_option maxRecDepth 100000 in
set_option maxHeartbeats 4000000 in
theorem c_X10_isZero_52 (l : Launch) (K : wK) (ad : Nat → Nat) {D_hasBoard : Int} {D_beganBlank : Int} {F_mines : Int} {F_moves : Int} {F_changes : Int} {G_width : Int} {G_height : Int} {G_size : Int} {B_parts : Int} {B_longest : Int} {S_groups : Int} {S_askedGroup : Int} {S_taken : Int} {R_waitingCount : Int} {R_metCount : Int} {A_grade : Int} {A_cell : Int} {A_mined : Int} {A_withTotal : Int} {A_numbers : Int} {X_low : Int} {X_high : Int} {Y_low : Int} {Y_high : Int} {F_mined : Int → Int} {F_number : Int → Int} {F_state : Int → Int} {F_cellsIn : Int → Int} {F_unknownNear : Int → Int} {F_hitNear : Int → Int} {F_moveStart : Int → Int} {F_changed : Int → Int} {F_waiting : Int → Int} {F_seen : Int → Int} {G_near : Int → Int} {G_nearEnd : Int → Int} {B_chosen : Int → Int} {B_partOf : Int → Int} {B_rest : Int → Int} {B_unknowns : Int → Int} {B_partStart : Int → Int} {B_cells : Int → Int} {S_minedSet : Int → Int} {S_safeSet : Int → Int} {S_partSet : Int → Int} {S_tally : Int → Int} {S_askedTally : Int → Int} {S_groupOf : Int → Int} {S_groupSize : Int → Int} {S_links : Int → Int} {S_linkEnd : Int → Int} {S_pick : Int → Int} {S_groupMinedSet : Int → Int} {S_groupSafeSet : Int → Int} {O_sums : Int → Int64} {O_nextSums : Int → Int64} {R_found : Int → Int} {R_openEnds : Int → Int} {R_need : Int → Int} {R_waiting : Int → Int} {R_waits : Int → Int} {R_common : Int → Int} {R_met : Int → Int} {A_number : Int → Int} {Q_mined : Int → Int64} {Q_all : Int → Int64} {Q_choices : Int → Int64} {Q_term : Int → Int64} {Q_divisor : Int → Int64} {Q_spare : Int → Int64} {X_limbs : Int → Int64} {X_sum : Int → Int64} {Y_limbs : Int → Int64} {Y_sum : Int → Int64}   (post : Int → Prop) (h : P_X10_isZero_52 post Q_mined) : mI l yX10_isZero (Cond.code yX10_isZero cX10_isZero 4 (some .boolean) :: GT) ({ frames := 2, cells := 0, slots := 0, locals := 120 } : Room) [.ref (ad 52)] K ad (dW D_hasBoard D_beganBlank F_mines F_moves F_changes G_width G_height G_size B_parts B_longest S_groups S_askedGroup S_taken R_waitingCount R_metCount A_grade A_cell A_mined A_withTotal A_numbers X_low X_high Y_low Y_high F_mined F_number F_state F_cellsIn F_unknownNear F_hitNear F_moveStart F_changed F_waiting F_seen G_near G_nearEnd B_chosen B_partOf B_rest B_unknowns B_partStart B_cells S_minedSet S_safeSet S_partSet S_tally S_askedTally S_groupOf S_groupSize S_links S_linkEnd S_pick S_groupMinedSet S_groupSafeSet O_sums O_nextSums R_found R_openEnds R_need R_waiting R_waits R_common R_met A_number Q_mined Q_all Q_choices Q_term Q_divisor Q_spare X_limbs X_sum Y_limbs Y_sum) (fun z9 u9 => (z9 = 0 ∨ z9 = 1) ∧ u9 = (dW D_hasBoard D_beganBlank F_mines F_moves F_changes G_width G_height G_size B_parts B_longest S_groups S_askedGroup S_taken R_waitingCount R_metCount A_grade A_cell A_mined A_withTotal A_numbers X_low X_high Y_low Y_high F_mined F_number F_state F_cellsIn F_unknownNear F_hitNear F_moveStart F_changed F_waiting F_seen G_near G_nearEnd B_chosen B_partOf B_rest B_unknowns B_partStart B_cells S_minedSet S_safeSet S_partSet S_tally S_askedTally S_groupOf S_groupSize S_links S_linkEnd S_pick S_groupMinedSet S_groupSafeSet O_sums O_nextSums R_found R_openEnds R_need R_waiting R_waits R_common R_met A_number Q_mined Q_all Q_choices Q_term Q_divisor Q_spare X_limbs X_sum Y_limbs Y_sum) ∧ post z9) := by
  refine mZ_of (lv0 := [(0, .ref (ad 52))]) (by decide) (Nat.le_of_ble_eq_true rfl) rfl ?_
  intro p e s m args below meth c Q A C ret
  replace C : Cx p ({ frames := 2, cells := 0, slots := 0, locals := 120 } : Room) m c 0 0 cX10_isZero 4 s args RX10 K A := C
  unfold P_X10_isZero_52 at h
  refine wa_lconst C (v := 0) dX10_isZero_0 rfl ?_
  refine wa_lstore_n C dX10_isZero_1 rfl (by decide) rfl ?_
  refine wa_iconst C (z := 0) dX10_isZero_2 rfl ?_
  refine wa_istore_n C dX10_isZero_3 rfl (by decide) rfl ?_
  obtain ⟨Inv_1, ⟨n_2, h0Inv_1⟩, hInv_1⟩ := h
  have k_5 : ∀ (n_3 : Nat) (x1_6 : Int64) (x3_7 : Int), inR x3_7 → Inv_1 n_3 x1_6 x3_7 → WA p l e ({ frames := 2, cells := 0, slots := 0, locals := 120 } : Room) s m args below meth c 0 0 Q K ad 4 A 4 [(0, .ref (ad 52)), (1, .long x1_6), (3, .int (iI x3_7))] [] (dW D_hasBoard D_beganBlank F_mines F_moves F_changes G_width G_height G_size B_parts B_longest S_groups S_askedGroup S_taken R_waitingCount R_metCount A_grade A_cell A_mined A_withTotal A_numbers X_low X_high Y_low Y_high F_mined F_number F_state F_cellsIn F_unknownNear F_hitNear F_moveStart F_changed F_waiting F_seen G_near G_nearEnd B_chosen B_partOf B_rest B_unknowns B_partStart B_cells S_minedSet S_safeSet S_partSet S_tally S_askedTally S_groupOf S_groupSize S_links S_linkEnd S_pick S_groupMinedSet S_groupSafeSet O_sums O_nextSums R_found R_openEnds R_need R_waiting R_waits R_common R_met A_number Q_mined Q_all Q_choices Q_term Q_divisor Q_spare X_limbs X_sum Y_limbs Y_sum) := by
    intro n_3
    induction n_3 using Nat.strongRecOn with
    | ind n_3 ih_4 =>
      intro x1_6 x3_7 rx3_7 h
      replace h := hInv_1 n_3 x1_6 x3_7 rx3_7 h
      refine wa_iload_n C 2 rfl dX10_isZero_4 rfl ?_
      refine wa_bipush C (z := 6) dX10_isZero_5 (by decide) ?_
      refine wa_icmp_ge C (tgt := 22) rx3_7 (inR_k 6 rfl) dX10_isZero_7 (by decide) (fun c_8 => ?_) (fun c_8 => ?_)
      · replace h := h.1 c_8
        refine wa_lload_n C 1 rfl dX10_isZero_22 rfl ?_
        refine wa_lconst C (v := 0) dX10_isZero_23 rfl ?_
        refine wa_lcmp C dX10_isZero_24 ?_
        obtain ⟨J_9, h, hJ_9⟩ := h
        have k_10 : ∀ (z_11 : Int), inR z_11 → J_9 z_11 → WA p l e ({ frames := 2, cells := 0, slots := 0, locals := 120 } : Room) s m args below meth c 0 0 Q K ad 4 A 33 [] [.int (iI z_11)] (dW D_hasBoard D_beganBlank F_mines F_moves F_changes G_width G_height G_size B_parts B_longest S_groups S_askedGroup S_taken R_waitingCount R_metCount A_grade A_cell A_mined A_withTotal A_numbers X_low X_high Y_low Y_high F_mined F_number F_state F_cellsIn F_unknownNear F_hitNear F_moveStart F_changed F_waiting F_seen G_near G_nearEnd B_chosen B_partOf B_rest B_unknowns B_partStart B_cells S_minedSet S_safeSet S_partSet S_tally S_askedTally S_groupOf S_groupSize S_links S_linkEnd S_pick S_groupMinedSet S_groupSafeSet O_sums O_nextSums R_found R_openEnds R_need R_waiting R_waits R_common R_met A_number Q_mined Q_all Q_choices Q_term Q_divisor Q_spare X_limbs X_sum Y_limbs Y_sum) := by
          intro z_11 rz_11 h
          replace h := hJ_9 z_11 rz_11 h
          obtain ⟨b_12, h⟩ := h
          exact ret dX10_isZero_33 b_12 ⟨b_12, rfl, h⟩
        refine wa_if_ne C (tgt := 32) (lcI_r _ _) dX10_isZero_25 (by decide) (fun c_13 => ?_) (fun c_13 => ?_)
        · replace h := h.1 c_13
          refine wa_iconst C (z := 0) dX10_isZero_32 rfl ?_
          refine wa_sub C [] rfl ?_
          exact k_10 0 (inR_k 0 rfl) h
        · replace h := h.2 c_13
          refine wa_iconst C (z := 1) dX10_isZero_28 rfl ?_
          refine wa_goto C (tgt := 33) dX10_isZero_29 (by decide) ?_
          refine wa_sub C [] rfl ?_
          exact k_10 1 (inR_k 1 rfl) h
      · replace h := h.2 c_8
        refine wa_lload_n C 1 rfl dX10_isZero_10 rfl ?_
        refine wa_aload_n C 0 rfl dX10_isZero_11 rfl ?_
        refine wa_iload_n C 2 rfl dX10_isZero_12 rfl ?_
        obtain ⟨t_14, h⟩ := h
        refine wa_lald C 52 dW_52 dX10_isZero_13 t_14.1 t_14.2 (fun v_15 ev_15 => ?_)
        replace h := h v_15 ev_15
        refine wa_lor C dX10_isZero_14 ?_
        refine wa_nml (fun x1_16 ex1_16 => ?_)
        replace h := h x1_16 ex1_16
        refine wa_lstore_n C dX10_isZero_15 rfl (by decide) rfl ?_
        obtain ⟨r_17, h⟩ := h
        refine wa_iinc C (lv' := fun w9 => [(3, .int (iI w9)), (1, .long x1_16), (0, .ref (ad 52))]) 2 rfl dX10_isZero_16 (by decide) (fun _ => rfl) (fun x3_18 ex3_18 => ?_)
        replace h := h x3_18 ex3_18
        have rx3_18 : inR x3_18 := by rw [ex3_18]; exact r_17
        refine wa_goto C (tgt := 4) dX10_isZero_19 (by decide) ?_
        obtain ⟨n_19, ln_19, h⟩ := h
        refine wa_sub C [2, 1, 0] rfl ?_
        exact ih_4 n_19 ln_19 x1_16 x3_18 rx3_18 h
  refine wa_sub C [2, 1, 0] rfl ?_
  exact k_5 n_2 (0 : Int64) 0 (inR_k 0 rfl) h0Inv_1
def P_X10_isZero_57 (post : Int → Prop) (Q_spare : Int → Int64) : Prop :=
  ∃ Inv_1 : Nat → (Int64) → (Int) → Prop, (∃ n_2 : Nat, Inv_1 n_2 (0 : Int64) 0) ∧ ∀ (n_3 : Nat) (x1_6 : Int64) (x3_7 : Int), inR x3_7 → Inv_1 n_3 x1_6 x3_7 → ((6 ≤ x3_7 → (∃ J_9 : (Int) → Prop, ((¬ (lcI x1_6 (0 : Int64)) = 0 → (J_9 0)) ∧ ((lcI x1_6 (0 : Int64)) = 0 → (J_9 1))) ∧ (∀ (z_11 : Int), inR z_11 → J_9 z_11 → ((z_11 = 0 ∨ z_11 = 1) ∧ (post z_11))))) ∧ (¬ 6 ≤ x3_7 → ((0 ≤ x3_7 ∧ x3_7 < 6) ∧ (∀ v_15 : Int64, v_15 = Q_spare x3_7 → (∀ x1_16 : Int64, x1_16 = (x1_6 ||| v_15) → (inR (x3_7 + 1) ∧ (∀ x3_18 : Int, x3_18 = (x3_7 + 1) → (∃ n_19 : Nat, n_19 < n_3 ∧ Inv_1 n_19 x1_16 x3_18))))))))
set_option maxRecDepth 100000 in
set_option maxHeartbeats 4000000 in
theorem c_X10_isZero_57 (l : Launch) (K : wK) (ad : Nat → Nat) {D_hasBoard : Int} {D_beganBlank : Int} {F_mines : Int} {F_moves : Int} {F_changes : Int} {G_width : Int} {G_height : Int} {G_size : Int} {B_parts : Int} {B_longest : Int} {S_groups : Int} {S_askedGroup : Int} {S_taken : Int} {R_waitingCount : Int} {R_metCount : Int} {A_grade : Int} {A_cell : Int} {A_mined : Int} {A_withTotal : Int} {A_numbers : Int} {X_low : Int} {X_high : Int} {Y_low : Int} {Y_high : Int} {F_mined : Int → Int} {F_number : Int → Int} {F_state : Int → Int} {F_cellsIn : Int → Int} {F_unknownNear : Int → Int} {F_hitNear : Int → Int} {F_moveStart : Int → Int} {F_changed : Int → Int} {F_waiting : Int → Int} {F_seen : Int → Int} {G_near : Int → Int} {G_nearEnd : Int → Int} {B_chosen : Int → Int} {B_partOf : Int → Int} {B_rest : Int → Int} {B_unknowns : Int → Int} {B_partStart : Int → Int} {B_cells : Int → Int} {S_minedSet : Int → Int} {S_safeSet : Int → Int} {S_partSet : Int → Int} {S_tally : Int → Int} {S_askedTally : Int → Int} {S_groupOf : Int → Int} {S_groupSize : Int → Int} {S_links : Int → Int} {S_linkEnd : Int → Int} {S_pick : Int → Int} {S_groupMinedSet : Int → Int} {S_groupSafeSet : Int → Int} {O_sums : Int → Int64} {O_nextSums : Int → Int64} {R_found : Int → Int} {R_openEnds : Int → Int} {R_need : Int → Int} {R_waiting : Int → Int} {R_waits : Int → Int} {R_common : Int → Int} {R_met : Int → Int} {A_number : Int → Int} {Q_mined : Int → Int64} {Q_all : Int → Int64} {Q_choices : Int → Int64} {Q_term : Int → Int64} {Q_divisor : Int → Int64} {Q_spare : Int → Int64} {X_limbs : Int → Int64} {X_sum : Int → Int64} {Y_limbs : Int → Int64} {Y_sum : Int → Int64}   (post : Int → Prop) (h : P_X10_isZero_57 post Q_spare) : mI l yX10_isZero (Cond.code yX10_isZero cX10_isZero 4 (some .boolean) :: GT) ({ frames := 2, cells := 0, slots := 0, locals := 120 } : Room) [.ref (ad 57)] K ad (dW D_hasBoard D_beganBlank F_mines F_moves F_changes G_width G_height G_size B_parts B_longest S_groups S_askedGroup S_taken R_waitingCount R_metCount A_grade A_cell A_mined A_withTotal A_numbers X_low X_high Y_low Y_high F_mined F_number F_state F_cellsIn F_unknownNear F_hitNear F_moveStart F_changed F_waiting F_seen G_near G_nearEnd B_chosen B_partOf B_rest B_unknowns B_partStart B_cells S_minedSet S_safeSet S_partSet S_tally S_askedTally S_groupOf S_groupSize S_links S_linkEnd S_pick S_groupMinedSet S_groupSafeSet O_sums O_nextSums R_found R_openEnds R_need R_waiting R_waits R_common R_met A_number Q_mined Q_all Q_choices Q_term Q_divisor Q_spare X_limbs X_sum Y_limbs Y_sum) (fun z9 u9 => (z9 = 0 ∨ z9 = 1) ∧ u9 = (dW D_hasBoard D_beganBlank F_mines F_moves F_changes G_width G_height G_size B_parts B_longest S_groups S_askedGroup S_taken R_waitingCount R_metCount A_grade A_cell A_mined A_withTotal A_numbers X_low X_high Y_low Y_high F_mined F_number F_state F_cellsIn F_unknownNear F_hitNear F_moveStart F_changed F_waiting F_seen G_near G_nearEnd B_chosen B_partOf B_rest B_unknowns B_partStart B_cells S_minedSet S_safeSet S_partSet S_tally S_askedTally S_groupOf S_groupSize S_links S_linkEnd S_pick S_groupMinedSet S_groupSafeSet O_sums O_nextSums R_found R_openEnds R_need R_waiting R_waits R_common R_met A_number Q_mined Q_all Q_choices Q_term Q_divisor Q_spare X_limbs X_sum Y_limbs Y_sum) ∧ post z9) := by
  refine mZ_of (lv0 := [(0, .ref (ad 57))]) (by decide) (Nat.le_of_ble_eq_true rfl) rfl ?_
  intro p e s m args below meth c Q A C ret
  replace C : Cx p ({ frames := 2, cells := 0, slots := 0, locals := 120 } : Room) m c 0 0 cX10_isZero 4 s args RX10 K A := C
  unfold P_X10_isZero_57 at h
  refine wa_lconst C (v := 0) dX10_isZero_0 rfl ?_
  refine wa_lstore_n C dX10_isZero_1 rfl (by decide) rfl ?_
  refine wa_iconst C (z := 0) dX10_isZero_2 rfl ?_
  refine wa_istore_n C dX10_isZero_3 rfl (by decide) rfl ?_
  obtain ⟨Inv_1, ⟨n_2, h0Inv_1⟩, hInv_1⟩ := h
  have k_5 : ∀ (n_3 : Nat) (x1_6 : Int64) (x3_7 : Int), inR x3_7 → Inv_1 n_3 x1_6 x3_7 → WA p l e ({ frames := 2, cells := 0, slots := 0, locals := 120 } : Room) s m args below meth c 0 0 Q K ad 4 A 4 [(0, .ref (ad 57)), (1, .long x1_6), (3, .int (iI x3_7))] [] (dW D_hasBoard D_beganBlank F_mines F_moves F_changes G_width G_height G_size B_parts B_longest S_groups S_askedGroup S_taken R_waitingCount R_metCount A_grade A_cell A_mined A_withTotal A_numbers X_low X_high Y_low Y_high F_mined F_number F_state F_cellsIn F_unknownNear F_hitNear F_moveStart F_changed F_waiting F_seen G_near G_nearEnd B_chosen B_partOf B_rest B_unknowns B_partStart B_cells S_minedSet S_safeSet S_partSet S_tally S_askedTally S_groupOf S_groupSize S_links S_linkEnd S_pick S_groupMinedSet S_groupSafeSet O_sums O_nextSums R_found R_openEnds R_need R_waiting R_waits R_common R_met A_number Q_mined Q_all Q_choices Q_term Q_divisor Q_spare X_limbs X_sum Y_limbs Y_sum) := by
    intro n_3
    induction n_3 using Nat.strongRecOn with
    | ind n_3 ih_4 =>
      intro x1_6 x3_7 rx3_7 h
      replace h := hInv_1 n_3 x1_6 x3_7 rx3_7 h
      refine wa_iload_n C 2 rfl dX10_isZero_4 rfl ?_
      refine wa_bipush C (z := 6) dX10_isZero_5 (by decide) ?_
      refine wa_icmp_ge C (tgt := 22) rx3_7 (inR_k 6 rfl) dX10_isZero_7 (by decide) (fun c_8 => ?_) (fun c_8 => ?_)
      · replace h := h.1 c_8
        refine wa_lload_n C 1 rfl dX10_isZero_22 rfl ?_
        refine wa_lconst C (v := 0) dX10_isZero_23 rfl ?_
        refine wa_lcmp C dX10_isZero_24 ?_
        obtain ⟨J_9, h, hJ_9⟩ := h
        have k_10 : ∀ (z_11 : Int), inR z_11 → J_9 z_11 → WA p l e ({ frames := 2, cells := 0, slots := 0, locals := 120 } : Room) s m args below meth c 0 0 Q K ad 4 A 33 [] [.int (iI z_11)] (dW D_hasBoard D_beganBlank F_mines F_moves F_changes G_width G_height G_size B_parts B_longest S_groups S_askedGroup S_taken R_waitingCount R_metCount A_grade A_cell A_mined A_withTotal A_numbers X_low X_high Y_low Y_high F_mined F_number F_state F_cellsIn F_unknownNear F_hitNear F_moveStart F_changed F_waiting F_seen G_near G_nearEnd B_chosen B_partOf B_rest B_unknowns B_partStart B_cells S_minedSet S_safeSet S_partSet S_tally S_askedTally S_groupOf S_groupSize S_links S_linkEnd S_pick S_groupMinedSet S_groupSafeSet O_sums O_nextSums R_found R_openEnds R_need R_waiting R_waits R_common R_met A_number Q_mined Q_all Q_choices Q_term Q_divisor Q_spare X_limbs X_sum Y_limbs Y_sum) := by
          intro z_11 rz_11 h
          replace h := hJ_9 z_11 rz_11 h
          obtain ⟨b_12, h⟩ := h
          exact ret dX10_isZero_33 b_12 ⟨b_12, rfl, h⟩
        refine wa_if_ne C (tgt := 32) (lcI_r _ _) dX10_isZero_25 (by decide) (fun c_13 => ?_) (fun c_13 => ?_)
        · replace h := h.1 c_13
          refine wa_iconst C (z := 0) dX10_isZero_32 rfl ?_
          refine wa_sub C [] rfl ?_
          exact k_10 0 (inR_k 0 rfl) h
        · replace h := h.2 c_13
          refine wa_iconst C (z := 1) dX10_isZero_28 rfl ?_
          refine wa_goto C (tgt := 33) dX10_isZero_29 (by decide) ?_
          refine wa_sub C [] rfl ?_
          exact k_10 1 (inR_k 1 rfl) h
      · replace h := h.2 c_8
        refine wa_lload_n C 1 rfl dX10_isZero_10 rfl ?_
        refine wa_aload_n C 0 rfl dX10_isZero_11 rfl ?_
        refine wa_iload_n C 2 rfl dX10_isZero_12 rfl ?_
        obtain ⟨t_14, h⟩ := h
        refine wa_lald C 57 dW_57 dX10_isZero_13 t_14.1 t_14.2 (fun v_15 ev_15 => ?_)
        replace h := h v_15 ev_15
        refine wa_lor C dX10_isZero_14 ?_
        refine wa_nml (fun x1_16 ex1_16 => ?_)
        replace h := h x1_16 ex1_16
        refine wa_lstore_n C dX10_isZero_15 rfl (by decide) rfl ?_
        obtain ⟨r_17, h⟩ := h
        refine wa_iinc C (lv' := fun w9 => [(3, .int (iI w9)), (1, .long x1_16), (0, .ref (ad 57))]) 2 rfl dX10_isZero_16 (by decide) (fun _ => rfl) (fun x3_18 ex3_18 => ?_)
        replace h := h x3_18 ex3_18
        have rx3_18 : inR x3_18 := by rw [ex3_18]; exact r_17
        refine wa_goto C (tgt := 4) dX10_isZero_19 (by decide) ?_
        obtain ⟨n_19, ln_19, h⟩ := h
        refine wa_sub C [2, 1, 0] rfl ?_
        exact ih_4 n_19 ln_19 x1_16 x3_18 rx3_18 h
  refine wa_sub C [2, 1, 0] rfl ?_
  exact k_5 n_2 (0 : Int64) 0 (inR_k 0 rfl) h0Inv_1
def P_X10_scale_56 (post : (Int → Int64) → Prop) (Q_divisor : Int → Int64) (x1 : Int) : Prop :=
  ∃ Inv_1 : Nat → (Int64) → (Int) → (Int → Int64) → Prop, (∃ n_2 : Nat, Inv_1 n_2 (0 : Int64) 0 Q_divisor) ∧ ∀ (n_3 : Nat) (x2_6 : Int64) (x4_7 : Int) (Q_divisor_8 : Int → Int64), inR x4_7 → Inv_1 n_3 x2_6 x4_7 Q_divisor_8 → ((6 ≤ x4_7 → (post Q_divisor_8)) ∧ (¬ 6 ≤ x4_7 → ((0 ≤ x4_7 ∧ x4_7 < 6) ∧ (∀ v_11 : Int64, v_11 = Q_divisor_8 x4_7 → (∀ x2_12 : Int64, x2_12 = (x2_6 + (v_11 * (Int64.ofInt x1))) → ((0 ≤ x4_7 ∧ x4_7 < 6) ∧ (∀ Q_divisor_14 : Int → Int64, Q_divisor_14 = upZ Q_divisor_8 x4_7 (x2_12 &&& (2147483647 : Int64)) → (∀ x2_15 : Int64, x2_15 = (ushrL x2_12 31) → (inR (x4_7 + 1) ∧ (∀ x4_17 : Int, x4_17 = (x4_7 + 1) → (∃ n_18 : Nat, n_18 < n_3 ∧ Inv_1 n_18 x2_15 x4_17 Q_divisor_14)))))))))))
set_option maxRecDepth 100000 in
set_option maxHeartbeats 4000000 in
theorem c_X10_scale_56 (l : Launch) (K : wK) (ad : Nat → Nat) {D_hasBoard : Int} {D_beganBlank : Int} {F_mines : Int} {F_moves : Int} {F_changes : Int} {G_width : Int} {G_height : Int} {G_size : Int} {B_parts : Int} {B_longest : Int} {S_groups : Int} {S_askedGroup : Int} {S_taken : Int} {R_waitingCount : Int} {R_metCount : Int} {A_grade : Int} {A_cell : Int} {A_mined : Int} {A_withTotal : Int} {A_numbers : Int} {X_low : Int} {X_high : Int} {Y_low : Int} {Y_high : Int} {F_mined : Int → Int} {F_number : Int → Int} {F_state : Int → Int} {F_cellsIn : Int → Int} {F_unknownNear : Int → Int} {F_hitNear : Int → Int} {F_moveStart : Int → Int} {F_changed : Int → Int} {F_waiting : Int → Int} {F_seen : Int → Int} {G_near : Int → Int} {G_nearEnd : Int → Int} {B_chosen : Int → Int} {B_partOf : Int → Int} {B_rest : Int → Int} {B_unknowns : Int → Int} {B_partStart : Int → Int} {B_cells : Int → Int} {S_minedSet : Int → Int} {S_safeSet : Int → Int} {S_partSet : Int → Int} {S_tally : Int → Int} {S_askedTally : Int → Int} {S_groupOf : Int → Int} {S_groupSize : Int → Int} {S_links : Int → Int} {S_linkEnd : Int → Int} {S_pick : Int → Int} {S_groupMinedSet : Int → Int} {S_groupSafeSet : Int → Int} {O_sums : Int → Int64} {O_nextSums : Int → Int64} {R_found : Int → Int} {R_openEnds : Int → Int} {R_need : Int → Int} {R_waiting : Int → Int} {R_waits : Int → Int} {R_common : Int → Int} {R_met : Int → Int} {A_number : Int → Int} {Q_mined : Int → Int64} {Q_all : Int → Int64} {Q_choices : Int → Int64} {Q_term : Int → Int64} {Q_divisor : Int → Int64} {Q_spare : Int → Int64} {X_limbs : Int → Int64} {X_sum : Int → Int64} {Y_limbs : Int → Int64} {Y_sum : Int → Int64} (x1 : Int) (rx1 : inR x1) (post : (Int → Int64) → Prop) (h : P_X10_scale_56 post Q_divisor x1) : mV l yX10_scale (Cond.code yX10_scale cX10_scale 5 none :: GT) ({ frames := 2, cells := 0, slots := 0, locals := 120 } : Room) [.ref (ad 56), .int (iI x1)] K ad (dW D_hasBoard D_beganBlank F_mines F_moves F_changes G_width G_height G_size B_parts B_longest S_groups S_askedGroup S_taken R_waitingCount R_metCount A_grade A_cell A_mined A_withTotal A_numbers X_low X_high Y_low Y_high F_mined F_number F_state F_cellsIn F_unknownNear F_hitNear F_moveStart F_changed F_waiting F_seen G_near G_nearEnd B_chosen B_partOf B_rest B_unknowns B_partStart B_cells S_minedSet S_safeSet S_partSet S_tally S_askedTally S_groupOf S_groupSize S_links S_linkEnd S_pick S_groupMinedSet S_groupSafeSet O_sums O_nextSums R_found R_openEnds R_need R_waiting R_waits R_common R_met A_number Q_mined Q_all Q_choices Q_term Q_divisor Q_spare X_limbs X_sum Y_limbs Y_sum) (fun u9 => ∃ Q_divisor9, u9 = (dW D_hasBoard D_beganBlank F_mines F_moves F_changes G_width G_height G_size B_parts B_longest S_groups S_askedGroup S_taken R_waitingCount R_metCount A_grade A_cell A_mined A_withTotal A_numbers X_low X_high Y_low Y_high F_mined F_number F_state F_cellsIn F_unknownNear F_hitNear F_moveStart F_changed F_waiting F_seen G_near G_nearEnd B_chosen B_partOf B_rest B_unknowns B_partStart B_cells S_minedSet S_safeSet S_partSet S_tally S_askedTally S_groupOf S_groupSize S_links S_linkEnd S_pick S_groupMinedSet S_groupSafeSet O_sums O_nextSums R_found R_openEnds R_need R_waiting R_waits R_common R_met A_number Q_mined Q_all Q_choices Q_term Q_divisor9 Q_spare X_limbs X_sum Y_limbs Y_sum) ∧ post Q_divisor9) := by
  refine mV_of (lv0 := [(0, .ref (ad 56)), (1, .int (iI x1))]) (by decide) (Nat.le_of_ble_eq_true rfl) rfl ?_
  intro p e s m args below meth c Q A C ret
  replace C : Cx p ({ frames := 2, cells := 0, slots := 0, locals := 120 } : Room) m c 0 0 cX10_scale 5 s args RX10 K A := C
  unfold P_X10_scale_56 at h
  refine wa_lconst C (v := 0) dX10_scale_0 rfl ?_
  refine wa_lstore_n C dX10_scale_1 rfl (by decide) rfl ?_
  refine wa_iconst C (z := 0) dX10_scale_2 rfl ?_
  refine wa_istore C dX10_scale_3 (by decide) rfl ?_
  obtain ⟨Inv_1, ⟨n_2, h0Inv_1⟩, hInv_1⟩ := h
  have k_5 : ∀ (n_3 : Nat) (x2_6 : Int64) (x4_7 : Int) (Q_divisor_8 : Int → Int64), inR x4_7 → Inv_1 n_3 x2_6 x4_7 Q_divisor_8 → WA p l e ({ frames := 2, cells := 0, slots := 0, locals := 120 } : Room) s m args below meth c 0 0 Q K ad 5 A 5 [(0, .ref (ad 56)), (1, .int (iI x1)), (2, .long x2_6), (4, .int (iI x4_7))] [] (dW D_hasBoard D_beganBlank F_mines F_moves F_changes G_width G_height G_size B_parts B_longest S_groups S_askedGroup S_taken R_waitingCount R_metCount A_grade A_cell A_mined A_withTotal A_numbers X_low X_high Y_low Y_high F_mined F_number F_state F_cellsIn F_unknownNear F_hitNear F_moveStart F_changed F_waiting F_seen G_near G_nearEnd B_chosen B_partOf B_rest B_unknowns B_partStart B_cells S_minedSet S_safeSet S_partSet S_tally S_askedTally S_groupOf S_groupSize S_links S_linkEnd S_pick S_groupMinedSet S_groupSafeSet O_sums O_nextSums R_found R_openEnds R_need R_waiting R_waits R_common R_met A_number Q_mined Q_all Q_choices Q_term Q_divisor_8 Q_spare X_limbs X_sum Y_limbs Y_sum) := by
    intro n_3
    induction n_3 using Nat.strongRecOn with
    | ind n_3 ih_4 =>
      intro x2_6 x4_7 Q_divisor_8 rx4_7 h
      replace h := hInv_1 n_3 x2_6 x4_7 Q_divisor_8 rx4_7 h
      refine wa_iload C 3 rfl dX10_scale_5 ?_
      refine wa_bipush C (z := 6) dX10_scale_7 (by decide) ?_
      refine wa_icmp_ge C (tgt := 42) rx4_7 (inR_k 6 rfl) dX10_scale_9 (by decide) (fun c_9 => ?_) (fun c_9 => ?_)
      · replace h := h.1 c_9
        exact ret dX10_scale_42 ⟨_, rfl, h⟩
      · replace h := h.2 c_9
        refine wa_lload_n C 2 rfl dX10_scale_12 rfl ?_
        refine wa_aload_n C 0 rfl dX10_scale_13 rfl ?_
        refine wa_iload C 3 rfl dX10_scale_14 ?_
        obtain ⟨t_10, h⟩ := h
        refine wa_lald C 56 dW_56 dX10_scale_16 t_10.1 t_10.2 (fun v_11 ev_11 => ?_)
        replace h := h v_11 ev_11
        refine wa_iload_n C 1 rfl dX10_scale_17 rfl ?_
        refine wa_i2l C rx1 dX10_scale_18 ?_
        refine wa_lmul C dX10_scale_19 ?_
        refine wa_ladd C dX10_scale_20 ?_
        refine wa_nml (fun x2_12 ex2_12 => ?_)
        replace h := h x2_12 ex2_12
        refine wa_lstore_n C dX10_scale_21 rfl (by decide) rfl ?_
        refine wa_aload_n C 1 rfl dX10_scale_22 rfl ?_
        refine wa_iload C 3 rfl dX10_scale_23 ?_
        refine wa_lload_n C 0 rfl dX10_scale_25 rfl ?_
        refine wa_ldc2 C gw_1108 dX10_scale_26 ?_
        refine wa_land C dX10_scale_29 ?_
        obtain ⟨t_13, h⟩ := h
        refine wa_last C (ws' := fun w9 => (dW D_hasBoard D_beganBlank F_mines F_moves F_changes G_width G_height G_size B_parts B_longest S_groups S_askedGroup S_taken R_waitingCount R_metCount A_grade A_cell A_mined A_withTotal A_numbers X_low X_high Y_low Y_high F_mined F_number F_state F_cellsIn F_unknownNear F_hitNear F_moveStart F_changed F_waiting F_seen G_near G_nearEnd B_chosen B_partOf B_rest B_unknowns B_partStart B_cells S_minedSet S_safeSet S_partSet S_tally S_askedTally S_groupOf S_groupSize S_links S_linkEnd S_pick S_groupMinedSet S_groupSafeSet O_sums O_nextSums R_found R_openEnds R_need R_waiting R_waits R_common R_met A_number Q_mined Q_all Q_choices Q_term w9 Q_spare X_limbs X_sum Y_limbs Y_sum)) 56 dW_56 dX10_scale_30 t_13.1 t_13.2 dWs_56 (fun Q_divisor_14 eQ_divisor_14 => ?_)
        replace h := h Q_divisor_14 eQ_divisor_14
        refine wa_lload_n C 0 rfl dX10_scale_31 rfl ?_
        refine wa_bipush C (z := 31) dX10_scale_32 (by decide) ?_
        refine wa_lushr C dX10_scale_34 ?_
        refine wa_nml (fun x2_15 ex2_15 => ?_)
        replace h := h x2_15 ex2_15
        refine wa_lstore_n C dX10_scale_35 rfl (by decide) rfl ?_
        obtain ⟨r_16, h⟩ := h
        refine wa_iinc C (lv' := fun w9 => [(4, .int (iI w9)), (2, .long x2_15), (0, .ref (ad 56)), (1, .int (iI x1))]) 3 rfl dX10_scale_36 (by decide) (fun _ => rfl) (fun x4_17 ex4_17 => ?_)
        replace h := h x4_17 ex4_17
        have rx4_17 : inR x4_17 := by rw [ex4_17]; exact r_16
        refine wa_goto C (tgt := 5) dX10_scale_39 (by decide) ?_
        obtain ⟨n_18, ln_18, h⟩ := h
        refine wa_sub C [2, 3, 1, 0] rfl ?_
        exact ih_4 n_18 ln_18 x2_15 x4_17 Q_divisor_14 rx4_17 h
  refine wa_sub C [2, 3, 1, 0] rfl ?_
  exact k_5 n_2 (0 : Int64) 0 Q_divisor (inR_k 0 rfl) h0Inv_1
def P_X10_isLess_57_56 (post : Int → Prop) (Q_divisor : Int → Int64) (Q_spare : Int → Int64) : Prop :=
  ∃ Inv_1 : Nat → (Int) → Prop, (∃ n_2 : Nat, Inv_1 n_2 5) ∧ ∀ (n_3 : Nat) (x2_6 : Int), inR x2_6 → Inv_1 n_3 x2_6 → ((x2_6 < 0 → (post 0)) ∧ (¬ x2_6 < 0 → ((0 ≤ x2_6 ∧ x2_6 < 6) ∧ (∀ v_9 : Int64, v_9 = Q_spare x2_6 → ((0 ≤ x2_6 ∧ x2_6 < 6) ∧ (∀ v_11 : Int64, v_11 = Q_divisor x2_6 → (((lcI v_9 v_11) = 0 → (inR (x2_6 + (-1)) ∧ (∀ x2_14 : Int, x2_14 = (x2_6 + (-1)) → (∃ n_15 : Nat, n_15 < n_3 ∧ Inv_1 n_15 x2_14)))) ∧ (¬ (lcI v_9 v_11) = 0 → ((0 ≤ x2_6 ∧ x2_6 < 6) ∧ (∀ v_17 : Int64, v_17 = Q_spare x2_6 → ((0 ≤ x2_6 ∧ x2_6 < 6) ∧ (∀ v_19 : Int64, v_19 = Q_divisor x2_6 → (∃ J_20 : (Int) → Prop, ((0 ≤ (lcI v_17 v_19) → (J_20 0)) ∧ (¬ 0 ≤ (lcI v_17 v_19) → (J_20 1))) ∧ (∀ (z_22 : Int), inR z_22 → J_20 z_22 → ((z_22 = 0 ∨ z_22 = 1) ∧ (post z_22))))))))))))))))
set_option maxRecDepth 100000 in
set_option maxHeartbeats 4000000 in
theorem c_X10_isLess_57_56 (l : Launch) (K : wK) (ad : Nat → Nat) {D_hasBoard : Int} {D_beganBlank : Int} {F_mines : Int} {F_moves : Int} {F_changes : Int} {G_width : Int} {G_height : Int} {G_size : Int} {B_parts : Int} {B_longest : Int} {S_groups : Int} {S_askedGroup : Int} {S_taken : Int} {R_waitingCount : Int} {R_metCount : Int} {A_grade : Int} {A_cell : Int} {A_mined : Int} {A_withTotal : Int} {A_numbers : Int} {X_low : Int} {X_high : Int} {Y_low : Int} {Y_high : Int} {F_mined : Int → Int} {F_number : Int → Int} {F_state : Int → Int} {F_cellsIn : Int → Int} {F_unknownNear : Int → Int} {F_hitNear : Int → Int} {F_moveStart : Int → Int} {F_changed : Int → Int} {F_waiting : Int → Int} {F_seen : Int → Int} {G_near : Int → Int} {G_nearEnd : Int → Int} {B_chosen : Int → Int} {B_partOf : Int → Int} {B_rest : Int → Int} {B_unknowns : Int → Int} {B_partStart : Int → Int} {B_cells : Int → Int} {S_minedSet : Int → Int} {S_safeSet : Int → Int} {S_partSet : Int → Int} {S_tally : Int → Int} {S_askedTally : Int → Int} {S_groupOf : Int → Int} {S_groupSize : Int → Int} {S_links : Int → Int} {S_linkEnd : Int → Int} {S_pick : Int → Int} {S_groupMinedSet : Int → Int} {S_groupSafeSet : Int → Int} {O_sums : Int → Int64} {O_nextSums : Int → Int64} {R_found : Int → Int} {R_openEnds : Int → Int} {R_need : Int → Int} {R_waiting : Int → Int} {R_waits : Int → Int} {R_common : Int → Int} {R_met : Int → Int} {A_number : Int → Int} {Q_mined : Int → Int64} {Q_all : Int → Int64} {Q_choices : Int → Int64} {Q_term : Int → Int64} {Q_divisor : Int → Int64} {Q_spare : Int → Int64} {X_limbs : Int → Int64} {X_sum : Int → Int64} {Y_limbs : Int → Int64} {Y_sum : Int → Int64}   (post : Int → Prop) (h : P_X10_isLess_57_56 post Q_divisor Q_spare) : mI l yX10_isLess (Cond.code yX10_isLess cX10_isLess 3 (some .boolean) :: GT) ({ frames := 2, cells := 0, slots := 0, locals := 120 } : Room) [.ref (ad 57), .ref (ad 56)] K ad (dW D_hasBoard D_beganBlank F_mines F_moves F_changes G_width G_height G_size B_parts B_longest S_groups S_askedGroup S_taken R_waitingCount R_metCount A_grade A_cell A_mined A_withTotal A_numbers X_low X_high Y_low Y_high F_mined F_number F_state F_cellsIn F_unknownNear F_hitNear F_moveStart F_changed F_waiting F_seen G_near G_nearEnd B_chosen B_partOf B_rest B_unknowns B_partStart B_cells S_minedSet S_safeSet S_partSet S_tally S_askedTally S_groupOf S_groupSize S_links S_linkEnd S_pick S_groupMinedSet S_groupSafeSet O_sums O_nextSums R_found R_openEnds R_need R_waiting R_waits R_common R_met A_number Q_mined Q_all Q_choices Q_term Q_divisor Q_spare X_limbs X_sum Y_limbs Y_sum) (fun z9 u9 => (z9 = 0 ∨ z9 = 1) ∧ u9 = (dW D_hasBoard D_beganBlank F_mines F_moves F_changes G_width G_height G_size B_parts B_longest S_groups S_askedGroup S_taken R_waitingCount R_metCount A_grade A_cell A_mined A_withTotal A_numbers X_low X_high Y_low Y_high F_mined F_number F_state F_cellsIn F_unknownNear F_hitNear F_moveStart F_changed F_waiting F_seen G_near G_nearEnd B_chosen B_partOf B_rest B_unknowns B_partStart B_cells S_minedSet S_safeSet S_partSet S_tally S_askedTally S_groupOf S_groupSize S_links S_linkEnd S_pick S_groupMinedSet S_groupSafeSet O_sums O_nextSums R_found R_openEnds R_need R_waiting R_waits R_common R_met A_number Q_mined Q_all Q_choices Q_term Q_divisor Q_spare X_limbs X_sum Y_limbs Y_sum) ∧ post z9) := by
  refine mZ_of (lv0 := [(0, .ref (ad 57)), (1, .ref (ad 56))]) (by decide) (Nat.le_of_ble_eq_true rfl) rfl ?_
  intro p e s m args below meth c Q A C ret
  replace C : Cx p ({ frames := 2, cells := 0, slots := 0, locals := 120 } : Room) m c 0 0 cX10_isLess 3 s args RX10 K A := C
  unfold P_X10_isLess_57_56 at h
  refine wa_iconst C (z := 5) dX10_isLess_0 rfl ?_
  refine wa_istore_n C dX10_isLess_1 rfl (by decide) rfl ?_
  obtain ⟨Inv_1, ⟨n_2, h0Inv_1⟩, hInv_1⟩ := h
  have k_5 : ∀ (n_3 : Nat) (x2_6 : Int), inR x2_6 → Inv_1 n_3 x2_6 → WA p l e ({ frames := 2, cells := 0, slots := 0, locals := 120 } : Room) s m args below meth c 0 0 Q K ad 3 A 2 [(0, .ref (ad 57)), (1, .ref (ad 56)), (2, .int (iI x2_6))] [] (dW D_hasBoard D_beganBlank F_mines F_moves F_changes G_width G_height G_size B_parts B_longest S_groups S_askedGroup S_taken R_waitingCount R_metCount A_grade A_cell A_mined A_withTotal A_numbers X_low X_high Y_low Y_high F_mined F_number F_state F_cellsIn F_unknownNear F_hitNear F_moveStart F_changed F_waiting F_seen G_near G_nearEnd B_chosen B_partOf B_rest B_unknowns B_partStart B_cells S_minedSet S_safeSet S_partSet S_tally S_askedTally S_groupOf S_groupSize S_links S_linkEnd S_pick S_groupMinedSet S_groupSafeSet O_sums O_nextSums R_found R_openEnds R_need R_waiting R_waits R_common R_met A_number Q_mined Q_all Q_choices Q_term Q_divisor Q_spare X_limbs X_sum Y_limbs Y_sum) := by
    intro n_3
    induction n_3 using Nat.strongRecOn with
    | ind n_3 ih_4 =>
      intro x2_6 rx2_6 h
      replace h := hInv_1 n_3 x2_6 rx2_6 h
      refine wa_iload_n C 2 rfl dX10_isLess_2 rfl ?_
      refine wa_if_lt C (tgt := 38) rx2_6 dX10_isLess_3 (by decide) (fun c_7 => ?_) (fun c_7 => ?_)
      · replace h := h.1 c_7
        refine wa_iconst C (z := 0) dX10_isLess_38 rfl ?_
        exact ret dX10_isLess_39 (Or.inl rfl) ⟨(Or.inl rfl), rfl, h⟩
      · replace h := h.2 c_7
        refine wa_aload_n C 0 rfl dX10_isLess_6 rfl ?_
        refine wa_iload_n C 2 rfl dX10_isLess_7 rfl ?_
        obtain ⟨t_8, h⟩ := h
        refine wa_lald C 57 dW_57 dX10_isLess_8 t_8.1 t_8.2 (fun v_9 ev_9 => ?_)
        replace h := h v_9 ev_9
        refine wa_aload_n C 1 rfl dX10_isLess_9 rfl ?_
        refine wa_iload_n C 2 rfl dX10_isLess_10 rfl ?_
        obtain ⟨t_10, h⟩ := h
        refine wa_lald C 56 dW_56 dX10_isLess_11 t_10.1 t_10.2 (fun v_11 ev_11 => ?_)
        replace h := h v_11 ev_11
        refine wa_lcmp C dX10_isLess_12 ?_
        refine wa_if_eq C (tgt := 32) (lcI_r _ _) dX10_isLess_13 (by decide) (fun c_12 => ?_) (fun c_12 => ?_)
        · replace h := h.1 c_12
          obtain ⟨r_13, h⟩ := h
          refine wa_iinc C (lv' := fun w9 => [(2, .int (iI w9)), (0, .ref (ad 57)), (1, .ref (ad 56))]) 2 rfl dX10_isLess_32 (by decide) (fun _ => rfl) (fun x2_14 ex2_14 => ?_)
          replace h := h x2_14 ex2_14
          have rx2_14 : inR x2_14 := by rw [ex2_14]; exact r_13
          refine wa_goto C (tgt := 2) dX10_isLess_35 (by decide) ?_
          obtain ⟨n_15, ln_15, h⟩ := h
          refine wa_sub C [1, 2, 0] rfl ?_
          exact ih_4 n_15 ln_15 x2_14 rx2_14 h
        · replace h := h.2 c_12
          refine wa_aload_n C 0 rfl dX10_isLess_16 rfl ?_
          refine wa_iload_n C 2 rfl dX10_isLess_17 rfl ?_
          obtain ⟨t_16, h⟩ := h
          refine wa_lald C 57 dW_57 dX10_isLess_18 t_16.1 t_16.2 (fun v_17 ev_17 => ?_)
          replace h := h v_17 ev_17
          refine wa_aload_n C 1 rfl dX10_isLess_19 rfl ?_
          refine wa_iload_n C 2 rfl dX10_isLess_20 rfl ?_
          obtain ⟨t_18, h⟩ := h
          refine wa_lald C 56 dW_56 dX10_isLess_21 t_18.1 t_18.2 (fun v_19 ev_19 => ?_)
          replace h := h v_19 ev_19
          refine wa_lcmp C dX10_isLess_22 ?_
          obtain ⟨J_20, h, hJ_20⟩ := h
          have k_21 : ∀ (z_22 : Int), inR z_22 → J_20 z_22 → WA p l e ({ frames := 2, cells := 0, slots := 0, locals := 120 } : Room) s m args below meth c 0 0 Q K ad 3 A 31 [] [.int (iI z_22)] (dW D_hasBoard D_beganBlank F_mines F_moves F_changes G_width G_height G_size B_parts B_longest S_groups S_askedGroup S_taken R_waitingCount R_metCount A_grade A_cell A_mined A_withTotal A_numbers X_low X_high Y_low Y_high F_mined F_number F_state F_cellsIn F_unknownNear F_hitNear F_moveStart F_changed F_waiting F_seen G_near G_nearEnd B_chosen B_partOf B_rest B_unknowns B_partStart B_cells S_minedSet S_safeSet S_partSet S_tally S_askedTally S_groupOf S_groupSize S_links S_linkEnd S_pick S_groupMinedSet S_groupSafeSet O_sums O_nextSums R_found R_openEnds R_need R_waiting R_waits R_common R_met A_number Q_mined Q_all Q_choices Q_term Q_divisor Q_spare X_limbs X_sum Y_limbs Y_sum) := by
            intro z_22 rz_22 h
            replace h := hJ_20 z_22 rz_22 h
            obtain ⟨b_23, h⟩ := h
            exact ret dX10_isLess_31 b_23 ⟨b_23, rfl, h⟩
          refine wa_if_ge C (tgt := 30) (lcI_r _ _) dX10_isLess_23 (by decide) (fun c_24 => ?_) (fun c_24 => ?_)
          · replace h := h.1 c_24
            refine wa_iconst C (z := 0) dX10_isLess_30 rfl ?_
            refine wa_sub C [] rfl ?_
            exact k_21 0 (inR_k 0 rfl) h
          · replace h := h.2 c_24
            refine wa_iconst C (z := 1) dX10_isLess_26 rfl ?_
            refine wa_goto C (tgt := 31) dX10_isLess_27 (by decide) ?_
            refine wa_sub C [] rfl ?_
            exact k_21 1 (inR_k 1 rfl) h
  refine wa_sub C [1, 2, 0] rfl ?_
  exact k_5 n_2 5 (inR_k 5 rfl) h0Inv_1
def P_X10_subtract_57_56 (post : (Int → Int64) → Prop) (Q_divisor : Int → Int64) (Q_spare : Int → Int64) : Prop :=
  ∃ Inv_1 : Nat → (Int64) → (Int) → (Int → Int64) → Prop, (∃ n_2 : Nat, Inv_1 n_2 (0 : Int64) 0 Q_spare) ∧ ∀ (n_3 : Nat) (x2_6 : Int64) (x4_7 : Int) (Q_spare_8 : Int → Int64), inR x4_7 → Inv_1 n_3 x2_6 x4_7 Q_spare_8 → ((6 ≤ x4_7 → (post Q_spare_8)) ∧ (¬ 6 ≤ x4_7 → ((0 ≤ x4_7 ∧ x4_7 < 6) ∧ (∀ v_11 : Int64, v_11 = Q_spare_8 x4_7 → ((0 ≤ x4_7 ∧ x4_7 < 6) ∧ (∀ v_13 : Int64, v_13 = Q_divisor x4_7 → (∀ x2_14 : Int64, x2_14 = (x2_6 + (v_11 - v_13)) → ((0 ≤ x4_7 ∧ x4_7 < 6) ∧ (∀ Q_spare_16 : Int → Int64, Q_spare_16 = upZ Q_spare_8 x4_7 (x2_14 &&& (2147483647 : Int64)) → (∀ x2_17 : Int64, x2_17 = (shrL x2_14 31) → (inR (x4_7 + 1) ∧ (∀ x4_19 : Int, x4_19 = (x4_7 + 1) → (∃ n_20 : Nat, n_20 < n_3 ∧ Inv_1 n_20 x2_17 x4_19 Q_spare_16)))))))))))))
set_option maxRecDepth 100000 in
set_option maxHeartbeats 4000000 in
theorem c_X10_subtract_57_56 (l : Launch) (K : wK) (ad : Nat → Nat) {D_hasBoard : Int} {D_beganBlank : Int} {F_mines : Int} {F_moves : Int} {F_changes : Int} {G_width : Int} {G_height : Int} {G_size : Int} {B_parts : Int} {B_longest : Int} {S_groups : Int} {S_askedGroup : Int} {S_taken : Int} {R_waitingCount : Int} {R_metCount : Int} {A_grade : Int} {A_cell : Int} {A_mined : Int} {A_withTotal : Int} {A_numbers : Int} {X_low : Int} {X_high : Int} {Y_low : Int} {Y_high : Int} {F_mined : Int → Int} {F_number : Int → Int} {F_state : Int → Int} {F_cellsIn : Int → Int} {F_unknownNear : Int → Int} {F_hitNear : Int → Int} {F_moveStart : Int → Int} {F_changed : Int → Int} {F_waiting : Int → Int} {F_seen : Int → Int} {G_near : Int → Int} {G_nearEnd : Int → Int} {B_chosen : Int → Int} {B_partOf : Int → Int} {B_rest : Int → Int} {B_unknowns : Int → Int} {B_partStart : Int → Int} {B_cells : Int → Int} {S_minedSet : Int → Int} {S_safeSet : Int → Int} {S_partSet : Int → Int} {S_tally : Int → Int} {S_askedTally : Int → Int} {S_groupOf : Int → Int} {S_groupSize : Int → Int} {S_links : Int → Int} {S_linkEnd : Int → Int} {S_pick : Int → Int} {S_groupMinedSet : Int → Int} {S_groupSafeSet : Int → Int} {O_sums : Int → Int64} {O_nextSums : Int → Int64} {R_found : Int → Int} {R_openEnds : Int → Int} {R_need : Int → Int} {R_waiting : Int → Int} {R_waits : Int → Int} {R_common : Int → Int} {R_met : Int → Int} {A_number : Int → Int} {Q_mined : Int → Int64} {Q_all : Int → Int64} {Q_choices : Int → Int64} {Q_term : Int → Int64} {Q_divisor : Int → Int64} {Q_spare : Int → Int64} {X_limbs : Int → Int64} {X_sum : Int → Int64} {Y_limbs : Int → Int64} {Y_sum : Int → Int64}   (post : (Int → Int64) → Prop) (h : P_X10_subtract_57_56 post Q_divisor Q_spare) : mV l yX10_subtract (Cond.code yX10_subtract cX10_subtract 5 none :: GT) ({ frames := 2, cells := 0, slots := 0, locals := 120 } : Room) [.ref (ad 57), .ref (ad 56)] K ad (dW D_hasBoard D_beganBlank F_mines F_moves F_changes G_width G_height G_size B_parts B_longest S_groups S_askedGroup S_taken R_waitingCount R_metCount A_grade A_cell A_mined A_withTotal A_numbers X_low X_high Y_low Y_high F_mined F_number F_state F_cellsIn F_unknownNear F_hitNear F_moveStart F_changed F_waiting F_seen G_near G_nearEnd B_chosen B_partOf B_rest B_unknowns B_partStart B_cells S_minedSet S_safeSet S_partSet S_tally S_askedTally S_groupOf S_groupSize S_links S_linkEnd S_pick S_groupMinedSet S_groupSafeSet O_sums O_nextSums R_found R_openEnds R_need R_waiting R_waits R_common R_met A_number Q_mined Q_all Q_choices Q_term Q_divisor Q_spare X_limbs X_sum Y_limbs Y_sum) (fun u9 => ∃ Q_spare9, u9 = (dW D_hasBoard D_beganBlank F_mines F_moves F_changes G_width G_height G_size B_parts B_longest S_groups S_askedGroup S_taken R_waitingCount R_metCount A_grade A_cell A_mined A_withTotal A_numbers X_low X_high Y_low Y_high F_mined F_number F_state F_cellsIn F_unknownNear F_hitNear F_moveStart F_changed F_waiting F_seen G_near G_nearEnd B_chosen B_partOf B_rest B_unknowns B_partStart B_cells S_minedSet S_safeSet S_partSet S_tally S_askedTally S_groupOf S_groupSize S_links S_linkEnd S_pick S_groupMinedSet S_groupSafeSet O_sums O_nextSums R_found R_openEnds R_need R_waiting R_waits R_common R_met A_number Q_mined Q_all Q_choices Q_term Q_divisor Q_spare9 X_limbs X_sum Y_limbs Y_sum) ∧ post Q_spare9) := by
  refine mV_of (lv0 := [(0, .ref (ad 57)), (1, .ref (ad 56))]) (by decide) (Nat.le_of_ble_eq_true rfl) rfl ?_
  intro p e s m args below meth c Q A C ret
  replace C : Cx p ({ frames := 2, cells := 0, slots := 0, locals := 120 } : Room) m c 0 0 cX10_subtract 5 s args RX10 K A := C
  unfold P_X10_subtract_57_56 at h
  refine wa_lconst C (v := 0) dX10_subtract_0 rfl ?_
  refine wa_lstore_n C dX10_subtract_1 rfl (by decide) rfl ?_
  refine wa_iconst C (z := 0) dX10_subtract_2 rfl ?_
  refine wa_istore C dX10_subtract_3 (by decide) rfl ?_
  obtain ⟨Inv_1, ⟨n_2, h0Inv_1⟩, hInv_1⟩ := h
  have k_5 : ∀ (n_3 : Nat) (x2_6 : Int64) (x4_7 : Int) (Q_spare_8 : Int → Int64), inR x4_7 → Inv_1 n_3 x2_6 x4_7 Q_spare_8 → WA p l e ({ frames := 2, cells := 0, slots := 0, locals := 120 } : Room) s m args below meth c 0 0 Q K ad 5 A 5 [(0, .ref (ad 57)), (1, .ref (ad 56)), (2, .long x2_6), (4, .int (iI x4_7))] [] (dW D_hasBoard D_beganBlank F_mines F_moves F_changes G_width G_height G_size B_parts B_longest S_groups S_askedGroup S_taken R_waitingCount R_metCount A_grade A_cell A_mined A_withTotal A_numbers X_low X_high Y_low Y_high F_mined F_number F_state F_cellsIn F_unknownNear F_hitNear F_moveStart F_changed F_waiting F_seen G_near G_nearEnd B_chosen B_partOf B_rest B_unknowns B_partStart B_cells S_minedSet S_safeSet S_partSet S_tally S_askedTally S_groupOf S_groupSize S_links S_linkEnd S_pick S_groupMinedSet S_groupSafeSet O_sums O_nextSums R_found R_openEnds R_need R_waiting R_waits R_common R_met A_number Q_mined Q_all Q_choices Q_term Q_divisor Q_spare_8 X_limbs X_sum Y_limbs Y_sum) := by
    intro n_3
    induction n_3 using Nat.strongRecOn with
    | ind n_3 ih_4 =>
      intro x2_6 x4_7 Q_spare_8 rx4_7 h
      replace h := hInv_1 n_3 x2_6 x4_7 Q_spare_8 rx4_7 h
      refine wa_iload C 3 rfl dX10_subtract_5 ?_
      refine wa_bipush C (z := 6) dX10_subtract_7 (by decide) ?_
      refine wa_icmp_ge C (tgt := 44) rx4_7 (inR_k 6 rfl) dX10_subtract_9 (by decide) (fun c_9 => ?_) (fun c_9 => ?_)
      · replace h := h.1 c_9
        exact ret dX10_subtract_44 ⟨_, rfl, h⟩
      · replace h := h.2 c_9
        refine wa_lload_n C 2 rfl dX10_subtract_12 rfl ?_
        refine wa_aload_n C 0 rfl dX10_subtract_13 rfl ?_
        refine wa_iload C 3 rfl dX10_subtract_14 ?_
        obtain ⟨t_10, h⟩ := h
        refine wa_lald C 57 dW_57 dX10_subtract_16 t_10.1 t_10.2 (fun v_11 ev_11 => ?_)
        replace h := h v_11 ev_11
        refine wa_aload_n C 1 rfl dX10_subtract_17 rfl ?_
        refine wa_iload C 3 rfl dX10_subtract_18 ?_
        obtain ⟨t_12, h⟩ := h
        refine wa_lald C 56 dW_56 dX10_subtract_20 t_12.1 t_12.2 (fun v_13 ev_13 => ?_)
        replace h := h v_13 ev_13
        refine wa_lsub C dX10_subtract_21 ?_
        refine wa_ladd C dX10_subtract_22 ?_
        refine wa_nml (fun x2_14 ex2_14 => ?_)
        replace h := h x2_14 ex2_14
        refine wa_lstore_n C dX10_subtract_23 rfl (by decide) rfl ?_
        refine wa_aload_n C 1 rfl dX10_subtract_24 rfl ?_
        refine wa_iload C 3 rfl dX10_subtract_25 ?_
        refine wa_lload_n C 0 rfl dX10_subtract_27 rfl ?_
        refine wa_ldc2 C gw_1108 dX10_subtract_28 ?_
        refine wa_land C dX10_subtract_31 ?_
        obtain ⟨t_15, h⟩ := h
        refine wa_last C (ws' := fun w9 => (dW D_hasBoard D_beganBlank F_mines F_moves F_changes G_width G_height G_size B_parts B_longest S_groups S_askedGroup S_taken R_waitingCount R_metCount A_grade A_cell A_mined A_withTotal A_numbers X_low X_high Y_low Y_high F_mined F_number F_state F_cellsIn F_unknownNear F_hitNear F_moveStart F_changed F_waiting F_seen G_near G_nearEnd B_chosen B_partOf B_rest B_unknowns B_partStart B_cells S_minedSet S_safeSet S_partSet S_tally S_askedTally S_groupOf S_groupSize S_links S_linkEnd S_pick S_groupMinedSet S_groupSafeSet O_sums O_nextSums R_found R_openEnds R_need R_waiting R_waits R_common R_met A_number Q_mined Q_all Q_choices Q_term Q_divisor w9 X_limbs X_sum Y_limbs Y_sum)) 57 dW_57 dX10_subtract_32 t_15.1 t_15.2 dWs_57 (fun Q_spare_16 eQ_spare_16 => ?_)
        replace h := h Q_spare_16 eQ_spare_16
        refine wa_lload_n C 0 rfl dX10_subtract_33 rfl ?_
        refine wa_bipush C (z := 31) dX10_subtract_34 (by decide) ?_
        refine wa_lshr C dX10_subtract_36 ?_
        refine wa_nml (fun x2_17 ex2_17 => ?_)
        replace h := h x2_17 ex2_17
        refine wa_lstore_n C dX10_subtract_37 rfl (by decide) rfl ?_
        obtain ⟨r_18, h⟩ := h
        refine wa_iinc C (lv' := fun w9 => [(4, .int (iI w9)), (2, .long x2_17), (0, .ref (ad 57)), (1, .ref (ad 56))]) 3 rfl dX10_subtract_38 (by decide) (fun _ => rfl) (fun x4_19 ex4_19 => ?_)
        replace h := h x4_19 ex4_19
        have rx4_19 : inR x4_19 := by rw [ex4_19]; exact r_18
        refine wa_goto C (tgt := 5) dX10_subtract_41 (by decide) ?_
        obtain ⟨n_20, ln_20, h⟩ := h
        refine wa_sub C [2, 3, 1, 0] rfl ?_
        exact ih_4 n_20 ln_20 x2_17 x4_19 Q_spare_16 rx4_19 h
  refine wa_sub C [2, 3, 1, 0] rfl ?_
  exact k_5 n_2 (0 : Int64) 0 Q_spare (inR_k 0 rfl) h0Inv_1
def P_X10_subtract_56_57 (post : (Int → Int64) → Prop) (Q_divisor : Int → Int64) (Q_spare : Int → Int64) : Prop :=
  ∃ Inv_1 : Nat → (Int64) → (Int) → (Int → Int64) → Prop, (∃ n_2 : Nat, Inv_1 n_2 (0 : Int64) 0 Q_divisor) ∧ ∀ (n_3 : Nat) (x2_6 : Int64) (x4_7 : Int) (Q_divisor_8 : Int → Int64), inR x4_7 → Inv_1 n_3 x2_6 x4_7 Q_divisor_8 → ((6 ≤ x4_7 → (post Q_divisor_8)) ∧ (¬ 6 ≤ x4_7 → ((0 ≤ x4_7 ∧ x4_7 < 6) ∧ (∀ v_11 : Int64, v_11 = Q_divisor_8 x4_7 → ((0 ≤ x4_7 ∧ x4_7 < 6) ∧ (∀ v_13 : Int64, v_13 = Q_spare x4_7 → (∀ x2_14 : Int64, x2_14 = (x2_6 + (v_11 - v_13)) → ((0 ≤ x4_7 ∧ x4_7 < 6) ∧ (∀ Q_divisor_16 : Int → Int64, Q_divisor_16 = upZ Q_divisor_8 x4_7 (x2_14 &&& (2147483647 : Int64)) → (∀ x2_17 : Int64, x2_17 = (shrL x2_14 31) → (inR (x4_7 + 1) ∧ (∀ x4_19 : Int, x4_19 = (x4_7 + 1) → (∃ n_20 : Nat, n_20 < n_3 ∧ Inv_1 n_20 x2_17 x4_19 Q_divisor_16)))))))))))))
set_option maxRecDepth 100000 in
set_option maxHeartbeats 4000000 in
theorem c_X10_subtract_56_57 (l : Launch) (K : wK) (ad : Nat → Nat) {D_hasBoard : Int} {D_beganBlank : Int} {F_mines : Int} {F_moves : Int} {F_changes : Int} {G_width : Int} {G_height : Int} {G_size : Int} {B_parts : Int} {B_longest : Int} {S_groups : Int} {S_askedGroup : Int} {S_taken : Int} {R_waitingCount : Int} {R_metCount : Int} {A_grade : Int} {A_cell : Int} {A_mined : Int} {A_withTotal : Int} {A_numbers : Int} {X_low : Int} {X_high : Int} {Y_low : Int} {Y_high : Int} {F_mined : Int → Int} {F_number : Int → Int} {F_state : Int → Int} {F_cellsIn : Int → Int} {F_unknownNear : Int → Int} {F_hitNear : Int → Int} {F_moveStart : Int → Int} {F_changed : Int → Int} {F_waiting : Int → Int} {F_seen : Int → Int} {G_near : Int → Int} {G_nearEnd : Int → Int} {B_chosen : Int → Int} {B_partOf : Int → Int} {B_rest : Int → Int} {B_unknowns : Int → Int} {B_partStart : Int → Int} {B_cells : Int → Int} {S_minedSet : Int → Int} {S_safeSet : Int → Int} {S_partSet : Int → Int} {S_tally : Int → Int} {S_askedTally : Int → Int} {S_groupOf : Int → Int} {S_groupSize : Int → Int} {S_links : Int → Int} {S_linkEnd : Int → Int} {S_pick : Int → Int} {S_groupMinedSet : Int → Int} {S_groupSafeSet : Int → Int} {O_sums : Int → Int64} {O_nextSums : Int → Int64} {R_found : Int → Int} {R_openEnds : Int → Int} {R_need : Int → Int} {R_waiting : Int → Int} {R_waits : Int → Int} {R_common : Int → Int} {R_met : Int → Int} {A_number : Int → Int} {Q_mined : Int → Int64} {Q_all : Int → Int64} {Q_choices : Int → Int64} {Q_term : Int → Int64} {Q_divisor : Int → Int64} {Q_spare : Int → Int64} {X_limbs : Int → Int64} {X_sum : Int → Int64} {Y_limbs : Int → Int64} {Y_sum : Int → Int64}   (post : (Int → Int64) → Prop) (h : P_X10_subtract_56_57 post Q_divisor Q_spare) : mV l yX10_subtract (Cond.code yX10_subtract cX10_subtract 5 none :: GT) ({ frames := 2, cells := 0, slots := 0, locals := 120 } : Room) [.ref (ad 56), .ref (ad 57)] K ad (dW D_hasBoard D_beganBlank F_mines F_moves F_changes G_width G_height G_size B_parts B_longest S_groups S_askedGroup S_taken R_waitingCount R_metCount A_grade A_cell A_mined A_withTotal A_numbers X_low X_high Y_low Y_high F_mined F_number F_state F_cellsIn F_unknownNear F_hitNear F_moveStart F_changed F_waiting F_seen G_near G_nearEnd B_chosen B_partOf B_rest B_unknowns B_partStart B_cells S_minedSet S_safeSet S_partSet S_tally S_askedTally S_groupOf S_groupSize S_links S_linkEnd S_pick S_groupMinedSet S_groupSafeSet O_sums O_nextSums R_found R_openEnds R_need R_waiting R_waits R_common R_met A_number Q_mined Q_all Q_choices Q_term Q_divisor Q_spare X_limbs X_sum Y_limbs Y_sum) (fun u9 => ∃ Q_divisor9, u9 = (dW D_hasBoard D_beganBlank F_mines F_moves F_changes G_width G_height G_size B_parts B_longest S_groups S_askedGroup S_taken R_waitingCount R_metCount A_grade A_cell A_mined A_withTotal A_numbers X_low X_high Y_low Y_high F_mined F_number F_state F_cellsIn F_unknownNear F_hitNear F_moveStart F_changed F_waiting F_seen G_near G_nearEnd B_chosen B_partOf B_rest B_unknowns B_partStart B_cells S_minedSet S_safeSet S_partSet S_tally S_askedTally S_groupOf S_groupSize S_links S_linkEnd S_pick S_groupMinedSet S_groupSafeSet O_sums O_nextSums R_found R_openEnds R_need R_waiting R_waits R_common R_met A_number Q_mined Q_all Q_choices Q_term Q_divisor9 Q_spare X_limbs X_sum Y_limbs Y_sum) ∧ post Q_divisor9) := by
  refine mV_of (lv0 := [(0, .ref (ad 56)), (1, .ref (ad 57))]) (by decide) (Nat.le_of_ble_eq_true rfl) rfl ?_
  intro p e s m args below meth c Q A C ret
  replace C : Cx p ({ frames := 2, cells := 0, slots := 0, locals := 120 } : Room) m c 0 0 cX10_subtract 5 s args RX10 K A := C
  unfold P_X10_subtract_56_57 at h
  refine wa_lconst C (v := 0) dX10_subtract_0 rfl ?_
  refine wa_lstore_n C dX10_subtract_1 rfl (by decide) rfl ?_
  refine wa_iconst C (z := 0) dX10_subtract_2 rfl ?_
  refine wa_istore C dX10_subtract_3 (by decide) rfl ?_
  obtain ⟨Inv_1, ⟨n_2, h0Inv_1⟩, hInv_1⟩ := h
  have k_5 : ∀ (n_3 : Nat) (x2_6 : Int64) (x4_7 : Int) (Q_divisor_8 : Int → Int64), inR x4_7 → Inv_1 n_3 x2_6 x4_7 Q_divisor_8 → WA p l e ({ frames := 2, cells := 0, slots := 0, locals := 120 } : Room) s m args below meth c 0 0 Q K ad 5 A 5 [(0, .ref (ad 56)), (1, .ref (ad 57)), (2, .long x2_6), (4, .int (iI x4_7))] [] (dW D_hasBoard D_beganBlank F_mines F_moves F_changes G_width G_height G_size B_parts B_longest S_groups S_askedGroup S_taken R_waitingCount R_metCount A_grade A_cell A_mined A_withTotal A_numbers X_low X_high Y_low Y_high F_mined F_number F_state F_cellsIn F_unknownNear F_hitNear F_moveStart F_changed F_waiting F_seen G_near G_nearEnd B_chosen B_partOf B_rest B_unknowns B_partStart B_cells S_minedSet S_safeSet S_partSet S_tally S_askedTally S_groupOf S_groupSize S_links S_linkEnd S_pick S_groupMinedSet S_groupSafeSet O_sums O_nextSums R_found R_openEnds R_need R_waiting R_waits R_common R_met A_number Q_mined Q_all Q_choices Q_term Q_divisor_8 Q_spare X_limbs X_sum Y_limbs Y_sum) := by
    intro n_3
    induction n_3 using Nat.strongRecOn with
    | ind n_3 ih_4 =>
      intro x2_6 x4_7 Q_divisor_8 rx4_7 h
      replace h := hInv_1 n_3 x2_6 x4_7 Q_divisor_8 rx4_7 h
      refine wa_iload C 3 rfl dX10_subtract_5 ?_
      refine wa_bipush C (z := 6) dX10_subtract_7 (by decide) ?_
      refine wa_icmp_ge C (tgt := 44) rx4_7 (inR_k 6 rfl) dX10_subtract_9 (by decide) (fun c_9 => ?_) (fun c_9 => ?_)
      · replace h := h.1 c_9
        exact ret dX10_subtract_44 ⟨_, rfl, h⟩
      · replace h := h.2 c_9
        refine wa_lload_n C 2 rfl dX10_subtract_12 rfl ?_
        refine wa_aload_n C 0 rfl dX10_subtract_13 rfl ?_
        refine wa_iload C 3 rfl dX10_subtract_14 ?_
        obtain ⟨t_10, h⟩ := h
        refine wa_lald C 56 dW_56 dX10_subtract_16 t_10.1 t_10.2 (fun v_11 ev_11 => ?_)
        replace h := h v_11 ev_11
        refine wa_aload_n C 1 rfl dX10_subtract_17 rfl ?_
        refine wa_iload C 3 rfl dX10_subtract_18 ?_
        obtain ⟨t_12, h⟩ := h
        refine wa_lald C 57 dW_57 dX10_subtract_20 t_12.1 t_12.2 (fun v_13 ev_13 => ?_)
        replace h := h v_13 ev_13
        refine wa_lsub C dX10_subtract_21 ?_
        refine wa_ladd C dX10_subtract_22 ?_
        refine wa_nml (fun x2_14 ex2_14 => ?_)
        replace h := h x2_14 ex2_14
        refine wa_lstore_n C dX10_subtract_23 rfl (by decide) rfl ?_
        refine wa_aload_n C 1 rfl dX10_subtract_24 rfl ?_
        refine wa_iload C 3 rfl dX10_subtract_25 ?_
        refine wa_lload_n C 0 rfl dX10_subtract_27 rfl ?_
        refine wa_ldc2 C gw_1108 dX10_subtract_28 ?_
        refine wa_land C dX10_subtract_31 ?_
        obtain ⟨t_15, h⟩ := h
        refine wa_last C (ws' := fun w9 => (dW D_hasBoard D_beganBlank F_mines F_moves F_changes G_width G_height G_size B_parts B_longest S_groups S_askedGroup S_taken R_waitingCount R_metCount A_grade A_cell A_mined A_withTotal A_numbers X_low X_high Y_low Y_high F_mined F_number F_state F_cellsIn F_unknownNear F_hitNear F_moveStart F_changed F_waiting F_seen G_near G_nearEnd B_chosen B_partOf B_rest B_unknowns B_partStart B_cells S_minedSet S_safeSet S_partSet S_tally S_askedTally S_groupOf S_groupSize S_links S_linkEnd S_pick S_groupMinedSet S_groupSafeSet O_sums O_nextSums R_found R_openEnds R_need R_waiting R_waits R_common R_met A_number Q_mined Q_all Q_choices Q_term w9 Q_spare X_limbs X_sum Y_limbs Y_sum)) 56 dW_56 dX10_subtract_32 t_15.1 t_15.2 dWs_56 (fun Q_divisor_16 eQ_divisor_16 => ?_)
        replace h := h Q_divisor_16 eQ_divisor_16
        refine wa_lload_n C 0 rfl dX10_subtract_33 rfl ?_
        refine wa_bipush C (z := 31) dX10_subtract_34 (by decide) ?_
        refine wa_lshr C dX10_subtract_36 ?_
        refine wa_nml (fun x2_17 ex2_17 => ?_)
        replace h := h x2_17 ex2_17
        refine wa_lstore_n C dX10_subtract_37 rfl (by decide) rfl ?_
        obtain ⟨r_18, h⟩ := h
        refine wa_iinc C (lv' := fun w9 => [(4, .int (iI w9)), (2, .long x2_17), (0, .ref (ad 56)), (1, .ref (ad 57))]) 3 rfl dX10_subtract_38 (by decide) (fun _ => rfl) (fun x4_19 ex4_19 => ?_)
        replace h := h x4_19 ex4_19
        have rx4_19 : inR x4_19 := by rw [ex4_19]; exact r_18
        refine wa_goto C (tgt := 5) dX10_subtract_41 (by decide) ?_
        obtain ⟨n_20, ln_20, h⟩ := h
        refine wa_sub C [2, 3, 1, 0] rfl ?_
        exact ih_4 n_20 ln_20 x2_17 x4_19 Q_divisor_16 rx4_19 h
  refine wa_sub C [2, 3, 1, 0] rfl ?_
  exact k_5 n_2 (0 : Int64) 0 Q_divisor (inR_k 0 rfl) h0Inv_1
def P_J13_bitCount_95d88 (post : Int → Prop) (x0 : Int64) : Prop :=
  ∀ x0_1 : Int64, x0_1 = (x0 - ((ushrL x0 1) &&& (6148914691236517205 : Int64))) → (∀ x0_2 : Int64, x0_2 = ((x0_1 &&& (3689348814741910323 : Int64)) + ((ushrL x0_1 2) &&& (3689348814741910323 : Int64))) → (∀ x0_3 : Int64, x0_3 = ((x0_2 + (ushrL x0_2 4)) &&& (1085102592571150095 : Int64)) → (∀ x0_4 : Int64, x0_4 = (x0_3 + (ushrL x0_3 8)) → (∀ x0_5 : Int64, x0_5 = (x0_4 + (ushrL x0_4 16)) → (∀ x0_6 : Int64, x0_6 = (x0_5 + (ushrL x0_5 32)) → (post (andI (l2I x0_6) 127)))))))
set_option maxRecDepth 100000 in
set_option maxHeartbeats 4000000 in
theorem c_J13_bitCount_95d88 (l : Launch) (K : wK) (ad : Nat → Nat) {D_hasBoard : Int} {D_beganBlank : Int} {F_mines : Int} {F_moves : Int} {F_changes : Int} {G_width : Int} {G_height : Int} {G_size : Int} {B_parts : Int} {B_longest : Int} {S_groups : Int} {S_askedGroup : Int} {S_taken : Int} {R_waitingCount : Int} {R_metCount : Int} {A_grade : Int} {A_cell : Int} {A_mined : Int} {A_withTotal : Int} {A_numbers : Int} {X_low : Int} {X_high : Int} {Y_low : Int} {Y_high : Int} {F_mined : Int → Int} {F_number : Int → Int} {F_state : Int → Int} {F_cellsIn : Int → Int} {F_unknownNear : Int → Int} {F_hitNear : Int → Int} {F_moveStart : Int → Int} {F_changed : Int → Int} {F_waiting : Int → Int} {F_seen : Int → Int} {G_near : Int → Int} {G_nearEnd : Int → Int} {B_chosen : Int → Int} {B_partOf : Int → Int} {B_rest : Int → Int} {B_unknowns : Int → Int} {B_partStart : Int → Int} {B_cells : Int → Int} {S_minedSet : Int → Int} {S_safeSet : Int → Int} {S_partSet : Int → Int} {S_tally : Int → Int} {S_askedTally : Int → Int} {S_groupOf : Int → Int} {S_groupSize : Int → Int} {S_links : Int → Int} {S_linkEnd : Int → Int} {S_pick : Int → Int} {S_groupMinedSet : Int → Int} {S_groupSafeSet : Int → Int} {O_sums : Int → Int64} {O_nextSums : Int → Int64} {R_found : Int → Int} {R_openEnds : Int → Int} {R_need : Int → Int} {R_waiting : Int → Int} {R_waits : Int → Int} {R_common : Int → Int} {R_met : Int → Int} {A_number : Int → Int} {Q_mined : Int → Int64} {Q_all : Int → Int64} {Q_choices : Int → Int64} {Q_term : Int → Int64} {Q_divisor : Int → Int64} {Q_spare : Int → Int64} {X_limbs : Int → Int64} {X_sum : Int → Int64} {Y_limbs : Int → Int64} {Y_sum : Int → Int64} (x0 : Int64)  (post : Int → Prop) (h : P_J13_bitCount_95d88 post x0) : mI l yJ13_bitCount_95d88 (Cond.code yJ13_bitCount_95d88 cJ13_bitCount_95d88 2 (some .int) :: GT) ({ frames := 2, cells := 0, slots := 0, locals := 120 } : Room) [.long x0] K ad (dW D_hasBoard D_beganBlank F_mines F_moves F_changes G_width G_height G_size B_parts B_longest S_groups S_askedGroup S_taken R_waitingCount R_metCount A_grade A_cell A_mined A_withTotal A_numbers X_low X_high Y_low Y_high F_mined F_number F_state F_cellsIn F_unknownNear F_hitNear F_moveStart F_changed F_waiting F_seen G_near G_nearEnd B_chosen B_partOf B_rest B_unknowns B_partStart B_cells S_minedSet S_safeSet S_partSet S_tally S_askedTally S_groupOf S_groupSize S_links S_linkEnd S_pick S_groupMinedSet S_groupSafeSet O_sums O_nextSums R_found R_openEnds R_need R_waiting R_waits R_common R_met A_number Q_mined Q_all Q_choices Q_term Q_divisor Q_spare X_limbs X_sum Y_limbs Y_sum) (fun z9 u9 => u9 = (dW D_hasBoard D_beganBlank F_mines F_moves F_changes G_width G_height G_size B_parts B_longest S_groups S_askedGroup S_taken R_waitingCount R_metCount A_grade A_cell A_mined A_withTotal A_numbers X_low X_high Y_low Y_high F_mined F_number F_state F_cellsIn F_unknownNear F_hitNear F_moveStart F_changed F_waiting F_seen G_near G_nearEnd B_chosen B_partOf B_rest B_unknowns B_partStart B_cells S_minedSet S_safeSet S_partSet S_tally S_askedTally S_groupOf S_groupSize S_links S_linkEnd S_pick S_groupMinedSet S_groupSafeSet O_sums O_nextSums R_found R_openEnds R_need R_waiting R_waits R_common R_met A_number Q_mined Q_all Q_choices Q_term Q_divisor Q_spare X_limbs X_sum Y_limbs Y_sum) ∧ post z9) := by
  refine mI_of (lv0 := [(0, .long x0)]) (by decide) (Nat.le_of_ble_eq_true rfl) rfl ?_
  intro p e s m args below meth c Q A C ret
  replace C : Cx p ({ frames := 2, cells := 0, slots := 0, locals := 120 } : Room) m c 0 0 cJ13_bitCount_95d88 2 s args RJ13 K A := C
  unfold P_J13_bitCount_95d88 at h
  refine wa_lload_n C 0 rfl dJ13_bitCount_95d88_0 rfl ?_
  refine wa_lload_n C 0 rfl dJ13_bitCount_95d88_1 rfl ?_
  refine wa_iconst C (z := 1) dJ13_bitCount_95d88_2 rfl ?_
  refine wa_lushr C dJ13_bitCount_95d88_3 ?_
  refine wa_ldc2 C gw_1171 dJ13_bitCount_95d88_4 ?_
  refine wa_land C dJ13_bitCount_95d88_7 ?_
  refine wa_lsub C dJ13_bitCount_95d88_8 ?_
  refine wa_nml (fun x0_1 ex0_1 => ?_)
  replace h := h x0_1 ex0_1
  refine wa_lstore_n C dJ13_bitCount_95d88_9 rfl (by decide) rfl ?_
  refine wa_lload_n C 0 rfl dJ13_bitCount_95d88_10 rfl ?_
  refine wa_ldc2 C gw_1172 dJ13_bitCount_95d88_11 ?_
  refine wa_land C dJ13_bitCount_95d88_14 ?_
  refine wa_lload_n C 0 rfl dJ13_bitCount_95d88_15 rfl ?_
  refine wa_iconst C (z := 2) dJ13_bitCount_95d88_16 rfl ?_
  refine wa_lushr C dJ13_bitCount_95d88_17 ?_
  refine wa_ldc2 C gw_1172 dJ13_bitCount_95d88_18 ?_
  refine wa_land C dJ13_bitCount_95d88_21 ?_
  refine wa_ladd C dJ13_bitCount_95d88_22 ?_
  refine wa_nml (fun x0_2 ex0_2 => ?_)
  replace h := h x0_2 ex0_2
  refine wa_lstore_n C dJ13_bitCount_95d88_23 rfl (by decide) rfl ?_
  refine wa_lload_n C 0 rfl dJ13_bitCount_95d88_24 rfl ?_
  refine wa_lload_n C 0 rfl dJ13_bitCount_95d88_25 rfl ?_
  refine wa_iconst C (z := 4) dJ13_bitCount_95d88_26 rfl ?_
  refine wa_lushr C dJ13_bitCount_95d88_27 ?_
  refine wa_ladd C dJ13_bitCount_95d88_28 ?_
  refine wa_ldc2 C gw_1173 dJ13_bitCount_95d88_29 ?_
  refine wa_land C dJ13_bitCount_95d88_32 ?_
  refine wa_nml (fun x0_3 ex0_3 => ?_)
  replace h := h x0_3 ex0_3
  refine wa_lstore_n C dJ13_bitCount_95d88_33 rfl (by decide) rfl ?_
  refine wa_lload_n C 0 rfl dJ13_bitCount_95d88_34 rfl ?_
  refine wa_lload_n C 0 rfl dJ13_bitCount_95d88_35 rfl ?_
  refine wa_bipush C (z := 8) dJ13_bitCount_95d88_36 (by decide) ?_
  refine wa_lushr C dJ13_bitCount_95d88_38 ?_
  refine wa_ladd C dJ13_bitCount_95d88_39 ?_
  refine wa_nml (fun x0_4 ex0_4 => ?_)
  replace h := h x0_4 ex0_4
  refine wa_lstore_n C dJ13_bitCount_95d88_40 rfl (by decide) rfl ?_
  refine wa_lload_n C 0 rfl dJ13_bitCount_95d88_41 rfl ?_
  refine wa_lload_n C 0 rfl dJ13_bitCount_95d88_42 rfl ?_
  refine wa_bipush C (z := 16) dJ13_bitCount_95d88_43 (by decide) ?_
  refine wa_lushr C dJ13_bitCount_95d88_45 ?_
  refine wa_ladd C dJ13_bitCount_95d88_46 ?_
  refine wa_nml (fun x0_5 ex0_5 => ?_)
  replace h := h x0_5 ex0_5
  refine wa_lstore_n C dJ13_bitCount_95d88_47 rfl (by decide) rfl ?_
  refine wa_lload_n C 0 rfl dJ13_bitCount_95d88_48 rfl ?_
  refine wa_lload_n C 0 rfl dJ13_bitCount_95d88_49 rfl ?_
  refine wa_bipush C (z := 32) dJ13_bitCount_95d88_50 (by decide) ?_
  refine wa_lushr C dJ13_bitCount_95d88_52 ?_
  refine wa_ladd C dJ13_bitCount_95d88_53 ?_
  refine wa_nml (fun x0_6 ex0_6 => ?_)
  replace h := h x0_6 ex0_6
  refine wa_lstore_n C dJ13_bitCount_95d88_54 rfl (by decide) rfl ?_
  refine wa_lload_n C 0 rfl dJ13_bitCount_95d88_55 rfl ?_
  refine wa_l2i C dJ13_bitCount_95d88_56 ?_
  refine wa_bipush C (z := 127) dJ13_bitCount_95d88_57 (by decide) ?_
  refine wa_iand C dJ13_bitCount_95d88_59 ?_
  exact ret dJ13_bitCount_95d88_60 (andI_r _ _) ⟨rfl, h⟩
def P_X10_twosOf_57 (post : Int → Prop) (Q_spare : Int → Int64) : Prop :=
  ∀ v_1 : Int64, v_1 = Q_spare 0 → (∀ v_2 : Int64, v_2 = Q_spare 0 → (P_J13_bitCount_95d88 (fun (c_3 : Int) => inR c_3 → (inR (if c_3 < 30 then c_3 else 30) ∧ (post (if c_3 < 30 then c_3 else 30))))  ((v_1 &&& (-v_2)) - (1 : Int64))))
set_option maxRecDepth 100000 in
set_option maxHeartbeats 4000000 in
theorem c_X10_twosOf_57 (l : Launch) (K : wK) (ad : Nat → Nat) {D_hasBoard : Int} {D_beganBlank : Int} {F_mines : Int} {F_moves : Int} {F_changes : Int} {G_width : Int} {G_height : Int} {G_size : Int} {B_parts : Int} {B_longest : Int} {S_groups : Int} {S_askedGroup : Int} {S_taken : Int} {R_waitingCount : Int} {R_metCount : Int} {A_grade : Int} {A_cell : Int} {A_mined : Int} {A_withTotal : Int} {A_numbers : Int} {X_low : Int} {X_high : Int} {Y_low : Int} {Y_high : Int} {F_mined : Int → Int} {F_number : Int → Int} {F_state : Int → Int} {F_cellsIn : Int → Int} {F_unknownNear : Int → Int} {F_hitNear : Int → Int} {F_moveStart : Int → Int} {F_changed : Int → Int} {F_waiting : Int → Int} {F_seen : Int → Int} {G_near : Int → Int} {G_nearEnd : Int → Int} {B_chosen : Int → Int} {B_partOf : Int → Int} {B_rest : Int → Int} {B_unknowns : Int → Int} {B_partStart : Int → Int} {B_cells : Int → Int} {S_minedSet : Int → Int} {S_safeSet : Int → Int} {S_partSet : Int → Int} {S_tally : Int → Int} {S_askedTally : Int → Int} {S_groupOf : Int → Int} {S_groupSize : Int → Int} {S_links : Int → Int} {S_linkEnd : Int → Int} {S_pick : Int → Int} {S_groupMinedSet : Int → Int} {S_groupSafeSet : Int → Int} {O_sums : Int → Int64} {O_nextSums : Int → Int64} {R_found : Int → Int} {R_openEnds : Int → Int} {R_need : Int → Int} {R_waiting : Int → Int} {R_waits : Int → Int} {R_common : Int → Int} {R_met : Int → Int} {A_number : Int → Int} {Q_mined : Int → Int64} {Q_all : Int → Int64} {Q_choices : Int → Int64} {Q_term : Int → Int64} {Q_divisor : Int → Int64} {Q_spare : Int → Int64} {X_limbs : Int → Int64} {X_sum : Int → Int64} {Y_limbs : Int → Int64} {Y_sum : Int → Int64}   (post : Int → Prop) (h : P_X10_twosOf_57 post Q_spare) : mI l yX10_twosOf (Cond.code yX10_twosOf cX10_twosOf 1 (some .int) :: GT) ({ frames := 3, cells := 0, slots := 0, locals := 180 } : Room) [.ref (ad 57)] K ad (dW D_hasBoard D_beganBlank F_mines F_moves F_changes G_width G_height G_size B_parts B_longest S_groups S_askedGroup S_taken R_waitingCount R_metCount A_grade A_cell A_mined A_withTotal A_numbers X_low X_high Y_low Y_high F_mined F_number F_state F_cellsIn F_unknownNear F_hitNear F_moveStart F_changed F_waiting F_seen G_near G_nearEnd B_chosen B_partOf B_rest B_unknowns B_partStart B_cells S_minedSet S_safeSet S_partSet S_tally S_askedTally S_groupOf S_groupSize S_links S_linkEnd S_pick S_groupMinedSet S_groupSafeSet O_sums O_nextSums R_found R_openEnds R_need R_waiting R_waits R_common R_met A_number Q_mined Q_all Q_choices Q_term Q_divisor Q_spare X_limbs X_sum Y_limbs Y_sum) (fun z9 u9 => u9 = (dW D_hasBoard D_beganBlank F_mines F_moves F_changes G_width G_height G_size B_parts B_longest S_groups S_askedGroup S_taken R_waitingCount R_metCount A_grade A_cell A_mined A_withTotal A_numbers X_low X_high Y_low Y_high F_mined F_number F_state F_cellsIn F_unknownNear F_hitNear F_moveStart F_changed F_waiting F_seen G_near G_nearEnd B_chosen B_partOf B_rest B_unknowns B_partStart B_cells S_minedSet S_safeSet S_partSet S_tally S_askedTally S_groupOf S_groupSize S_links S_linkEnd S_pick S_groupMinedSet S_groupSafeSet O_sums O_nextSums R_found R_openEnds R_need R_waiting R_waits R_common R_met A_number Q_mined Q_all Q_choices Q_term Q_divisor Q_spare X_limbs X_sum Y_limbs Y_sum) ∧ post z9) := by
  refine mI_of (lv0 := [(0, .ref (ad 57))]) (by decide) (Nat.le_of_ble_eq_true rfl) rfl ?_
  intro p e s m args below meth c Q A C ret
  replace C : Cx p ({ frames := 3, cells := 0, slots := 0, locals := 180 } : Room) m c 0 0 cX10_twosOf 1 s args RX10 K A := C
  unfold P_X10_twosOf_57 at h
  refine wa_bipush C (z := 30) dX10_twosOf_0 (by decide) ?_
  refine wa_aload_n C 0 rfl dX10_twosOf_2 rfl ?_
  refine wa_iconst C (z := 0) dX10_twosOf_3 rfl ?_
  refine wa_lald C 57 dW_57 dX10_twosOf_4 (by decide) (by decide) (fun v_1 ev_1 => ?_)
  replace h := h v_1 ev_1
  refine wa_aload_n C 0 rfl dX10_twosOf_5 rfl ?_
  refine wa_iconst C (z := 0) dX10_twosOf_6 rfl ?_
  refine wa_lald C 57 dW_57 dX10_twosOf_7 (by decide) (by decide) (fun v_2 ev_2 => ?_)
  replace h := h v_2 ev_2
  refine wa_lneg C dX10_twosOf_8 ?_
  refine wa_land C dX10_twosOf_9 ?_
  refine wa_lconst C (v := 1) dX10_twosOf_10 rfl ?_
  refine wa_lsub C dX10_twosOf_11 ?_
  refine wa_callSi C (As := [.long ((v_1 &&& (-v_2)) - (1 : Int64))]) (rest := [.int (iI 30)]) (c_J13_bitCount_95d88 l K ad ((v_1 &&& (-v_2)) - (1 : Int64)) _ h) gw_1170 gw_1168 gw_1169 gw_24 q_J13_bitCount_95d88 rfl rfl rfl ⟨by decide, by decide⟩ rfl (Nat.le_of_ble_eq_true rfl) dX10_twosOf_12 (fun c_3 u9 rc_3 hp => ?_)
  obtain ⟨rfl, h⟩ := hp
  replace h := h rc_3
  refine wa_min C (inR_k 30 rfl) rc_3 gw_1174 gw_625 gw_18 gw_626 (by decide) (Nat.le_of_ble_eq_true rfl) dX10_twosOf_15 ?_
  obtain ⟨r_4, h⟩ := h
  exact ret dX10_twosOf_18 r_4 ⟨rfl, h⟩
def P_X10_shiftDown_57 (post : (Int → Int64) → Prop) (Q_spare : Int → Int64) (x1 : Int) : Prop :=
  ∃ Inv_1 : Nat → (Int) → (Int → Int64) → Prop, (∃ n_2 : Nat, Inv_1 n_2 0 Q_spare) ∧ ∀ (n_3 : Nat) (x2_6 : Int) (Q_spare_7 : Int → Int64), inR x2_6 → Inv_1 n_3 x2_6 Q_spare_7 → ((6 ≤ x2_6 → (post Q_spare_7)) ∧ (¬ 6 ≤ x2_6 → (inR (x2_6 + 1) ∧ (∃ J_10 : (Int64) → Prop, ((6 ≤ (x2_6 + 1) → (J_10 (0 : Int64))) ∧ (¬ 6 ≤ (x2_6 + 1) → ((0 ≤ (x2_6 + 1) ∧ (x2_6 + 1) < 6) ∧ (∀ v_21 : Int64, v_21 = Q_spare_7 (x2_6 + 1) → (J_10 v_21))))) ∧ (∀ (z_12 : Int64), J_10 z_12 → ((0 ≤ x2_6 ∧ x2_6 < 6) ∧ (∀ v_14 : Int64, v_14 = Q_spare_7 x2_6 → ((0 ≤ x2_6 ∧ x2_6 < 6) ∧ (∀ Q_spare_16 : Int → Int64, Q_spare_16 = upZ Q_spare_7 x2_6 ((ushrL ((shlL z_12 31) ||| v_14) x1) &&& (2147483647 : Int64)) → (∀ x2_17 : Int, x2_17 = (x2_6 + 1) → (∃ n_18 : Nat, n_18 < n_3 ∧ Inv_1 n_18 x2_17 Q_spare_16)))))))))))
set_option maxRecDepth 100000 in
set_option maxHeartbeats 4000000 in
theorem c_X10_shiftDown_57 (l : Launch) (K : wK) (ad : Nat → Nat) {D_hasBoard : Int} {D_beganBlank : Int} {F_mines : Int} {F_moves : Int} {F_changes : Int} {G_width : Int} {G_height : Int} {G_size : Int} {B_parts : Int} {B_longest : Int} {S_groups : Int} {S_askedGroup : Int} {S_taken : Int} {R_waitingCount : Int} {R_metCount : Int} {A_grade : Int} {A_cell : Int} {A_mined : Int} {A_withTotal : Int} {A_numbers : Int} {X_low : Int} {X_high : Int} {Y_low : Int} {Y_high : Int} {F_mined : Int → Int} {F_number : Int → Int} {F_state : Int → Int} {F_cellsIn : Int → Int} {F_unknownNear : Int → Int} {F_hitNear : Int → Int} {F_moveStart : Int → Int} {F_changed : Int → Int} {F_waiting : Int → Int} {F_seen : Int → Int} {G_near : Int → Int} {G_nearEnd : Int → Int} {B_chosen : Int → Int} {B_partOf : Int → Int} {B_rest : Int → Int} {B_unknowns : Int → Int} {B_partStart : Int → Int} {B_cells : Int → Int} {S_minedSet : Int → Int} {S_safeSet : Int → Int} {S_partSet : Int → Int} {S_tally : Int → Int} {S_askedTally : Int → Int} {S_groupOf : Int → Int} {S_groupSize : Int → Int} {S_links : Int → Int} {S_linkEnd : Int → Int} {S_pick : Int → Int} {S_groupMinedSet : Int → Int} {S_groupSafeSet : Int → Int} {O_sums : Int → Int64} {O_nextSums : Int → Int64} {R_found : Int → Int} {R_openEnds : Int → Int} {R_need : Int → Int} {R_waiting : Int → Int} {R_waits : Int → Int} {R_common : Int → Int} {R_met : Int → Int} {A_number : Int → Int} {Q_mined : Int → Int64} {Q_all : Int → Int64} {Q_choices : Int → Int64} {Q_term : Int → Int64} {Q_divisor : Int → Int64} {Q_spare : Int → Int64} {X_limbs : Int → Int64} {X_sum : Int → Int64} {Y_limbs : Int → Int64} {Y_sum : Int → Int64} (x1 : Int) (rx1 : inR x1) (post : (Int → Int64) → Prop) (h : P_X10_shiftDown_57 post Q_spare x1) : mV l yX10_shiftDown (Cond.code yX10_shiftDown cX10_shiftDown 5 none :: GT) ({ frames := 2, cells := 0, slots := 0, locals := 120 } : Room) [.ref (ad 57), .int (iI x1)] K ad (dW D_hasBoard D_beganBlank F_mines F_moves F_changes G_width G_height G_size B_parts B_longest S_groups S_askedGroup S_taken R_waitingCount R_metCount A_grade A_cell A_mined A_withTotal A_numbers X_low X_high Y_low Y_high F_mined F_number F_state F_cellsIn F_unknownNear F_hitNear F_moveStart F_changed F_waiting F_seen G_near G_nearEnd B_chosen B_partOf B_rest B_unknowns B_partStart B_cells S_minedSet S_safeSet S_partSet S_tally S_askedTally S_groupOf S_groupSize S_links S_linkEnd S_pick S_groupMinedSet S_groupSafeSet O_sums O_nextSums R_found R_openEnds R_need R_waiting R_waits R_common R_met A_number Q_mined Q_all Q_choices Q_term Q_divisor Q_spare X_limbs X_sum Y_limbs Y_sum) (fun u9 => ∃ Q_spare9, u9 = (dW D_hasBoard D_beganBlank F_mines F_moves F_changes G_width G_height G_size B_parts B_longest S_groups S_askedGroup S_taken R_waitingCount R_metCount A_grade A_cell A_mined A_withTotal A_numbers X_low X_high Y_low Y_high F_mined F_number F_state F_cellsIn F_unknownNear F_hitNear F_moveStart F_changed F_waiting F_seen G_near G_nearEnd B_chosen B_partOf B_rest B_unknowns B_partStart B_cells S_minedSet S_safeSet S_partSet S_tally S_askedTally S_groupOf S_groupSize S_links S_linkEnd S_pick S_groupMinedSet S_groupSafeSet O_sums O_nextSums R_found R_openEnds R_need R_waiting R_waits R_common R_met A_number Q_mined Q_all Q_choices Q_term Q_divisor Q_spare9 X_limbs X_sum Y_limbs Y_sum) ∧ post Q_spare9) := by
  refine mV_of (lv0 := [(0, .ref (ad 57)), (1, .int (iI x1))]) (by decide) (Nat.le_of_ble_eq_true rfl) rfl ?_
  intro p e s m args below meth c Q A C ret
  replace C : Cx p ({ frames := 2, cells := 0, slots := 0, locals := 120 } : Room) m c 0 0 cX10_shiftDown 5 s args RX10 K A := C
  unfold P_X10_shiftDown_57 at h
  refine wa_iconst C (z := 0) dX10_shiftDown_0 rfl ?_
  refine wa_istore_n C dX10_shiftDown_1 rfl (by decide) rfl ?_
  obtain ⟨Inv_1, ⟨n_2, h0Inv_1⟩, hInv_1⟩ := h
  have k_5 : ∀ (n_3 : Nat) (x2_6 : Int) (Q_spare_7 : Int → Int64), inR x2_6 → Inv_1 n_3 x2_6 Q_spare_7 → WA p l e ({ frames := 2, cells := 0, slots := 0, locals := 120 } : Room) s m args below meth c 0 0 Q K ad 5 A 2 [(0, .ref (ad 57)), (1, .int (iI x1)), (2, .int (iI x2_6))] [] (dW D_hasBoard D_beganBlank F_mines F_moves F_changes G_width G_height G_size B_parts B_longest S_groups S_askedGroup S_taken R_waitingCount R_metCount A_grade A_cell A_mined A_withTotal A_numbers X_low X_high Y_low Y_high F_mined F_number F_state F_cellsIn F_unknownNear F_hitNear F_moveStart F_changed F_waiting F_seen G_near G_nearEnd B_chosen B_partOf B_rest B_unknowns B_partStart B_cells S_minedSet S_safeSet S_partSet S_tally S_askedTally S_groupOf S_groupSize S_links S_linkEnd S_pick S_groupMinedSet S_groupSafeSet O_sums O_nextSums R_found R_openEnds R_need R_waiting R_waits R_common R_met A_number Q_mined Q_all Q_choices Q_term Q_divisor Q_spare_7 X_limbs X_sum Y_limbs Y_sum) := by
    intro n_3
    induction n_3 using Nat.strongRecOn with
    | ind n_3 ih_4 =>
      intro x2_6 Q_spare_7 rx2_6 h
      replace h := hInv_1 n_3 x2_6 Q_spare_7 rx2_6 h
      refine wa_iload_n C 2 rfl dX10_shiftDown_2 rfl ?_
      refine wa_bipush C (z := 6) dX10_shiftDown_3 (by decide) ?_
      refine wa_icmp_ge C (tgt := 49) rx2_6 (inR_k 6 rfl) dX10_shiftDown_5 (by decide) (fun c_8 => ?_) (fun c_8 => ?_)
      · replace h := h.1 c_8
        exact ret dX10_shiftDown_49 ⟨_, rfl, h⟩
      · replace h := h.2 c_8
        refine wa_iload_n C 2 rfl dX10_shiftDown_8 rfl ?_
        refine wa_iconst C (z := 1) dX10_shiftDown_9 rfl ?_
        refine wa_iadd C dX10_shiftDown_10 ?_
        refine wa_bipush C (z := 6) dX10_shiftDown_11 (by decide) ?_
        obtain ⟨r_9, h⟩ := h
        obtain ⟨J_10, h, hJ_10⟩ := h
        have k_11 : ∀ (z_12 : Int64), J_10 z_12 → WA p l e ({ frames := 2, cells := 0, slots := 0, locals := 120 } : Room) s m args below meth c 0 0 Q K ad 5 A 25 [(0, .ref (ad 57)), (1, .int (iI x1)), (2, .int (iI x2_6))] [.long z_12] (dW D_hasBoard D_beganBlank F_mines F_moves F_changes G_width G_height G_size B_parts B_longest S_groups S_askedGroup S_taken R_waitingCount R_metCount A_grade A_cell A_mined A_withTotal A_numbers X_low X_high Y_low Y_high F_mined F_number F_state F_cellsIn F_unknownNear F_hitNear F_moveStart F_changed F_waiting F_seen G_near G_nearEnd B_chosen B_partOf B_rest B_unknowns B_partStart B_cells S_minedSet S_safeSet S_partSet S_tally S_askedTally S_groupOf S_groupSize S_links S_linkEnd S_pick S_groupMinedSet S_groupSafeSet O_sums O_nextSums R_found R_openEnds R_need R_waiting R_waits R_common R_met A_number Q_mined Q_all Q_choices Q_term Q_divisor Q_spare_7 X_limbs X_sum Y_limbs Y_sum) := by
          intro z_12 h
          replace h := hJ_10 z_12 h
          refine wa_lstore_n C dX10_shiftDown_25 rfl (by decide) rfl ?_
          refine wa_aload_n C 1 rfl dX10_shiftDown_26 rfl ?_
          refine wa_iload_n C 3 rfl dX10_shiftDown_27 rfl ?_
          refine wa_lload_n C 0 rfl dX10_shiftDown_28 rfl ?_
          refine wa_bipush C (z := 31) dX10_shiftDown_29 (by decide) ?_
          refine wa_lshl C dX10_shiftDown_31 ?_
          refine wa_aload_n C 1 rfl dX10_shiftDown_32 rfl ?_
          refine wa_iload_n C 3 rfl dX10_shiftDown_33 rfl ?_
          obtain ⟨t_13, h⟩ := h
          refine wa_lald C 57 dW_57 dX10_shiftDown_34 t_13.1 t_13.2 (fun v_14 ev_14 => ?_)
          replace h := h v_14 ev_14
          refine wa_lor C dX10_shiftDown_35 ?_
          refine wa_iload_n C 2 rfl dX10_shiftDown_36 rfl ?_
          refine wa_lushr C dX10_shiftDown_37 ?_
          refine wa_ldc2 C gw_1108 dX10_shiftDown_38 ?_
          refine wa_land C dX10_shiftDown_41 ?_
          obtain ⟨t_15, h⟩ := h
          refine wa_last C (ws' := fun w9 => (dW D_hasBoard D_beganBlank F_mines F_moves F_changes G_width G_height G_size B_parts B_longest S_groups S_askedGroup S_taken R_waitingCount R_metCount A_grade A_cell A_mined A_withTotal A_numbers X_low X_high Y_low Y_high F_mined F_number F_state F_cellsIn F_unknownNear F_hitNear F_moveStart F_changed F_waiting F_seen G_near G_nearEnd B_chosen B_partOf B_rest B_unknowns B_partStart B_cells S_minedSet S_safeSet S_partSet S_tally S_askedTally S_groupOf S_groupSize S_links S_linkEnd S_pick S_groupMinedSet S_groupSafeSet O_sums O_nextSums R_found R_openEnds R_need R_waiting R_waits R_common R_met A_number Q_mined Q_all Q_choices Q_term Q_divisor w9 X_limbs X_sum Y_limbs Y_sum)) 57 dW_57 dX10_shiftDown_42 t_15.1 t_15.2 dWs_57 (fun Q_spare_16 eQ_spare_16 => ?_)
          replace h := h Q_spare_16 eQ_spare_16
          refine wa_iinc C (lv' := fun w9 => [(2, .int (iI w9)), (3, .long z_12), (0, .ref (ad 57)), (1, .int (iI x1))]) 3 rfl dX10_shiftDown_43 (by decide) (fun _ => rfl) (fun x2_17 ex2_17 => ?_)
          replace h := h x2_17 ex2_17
          have rx2_17 : inR x2_17 := by rw [ex2_17]; exact r_9
          refine wa_goto C (tgt := 2) dX10_shiftDown_46 (by decide) ?_
          obtain ⟨n_18, ln_18, h⟩ := h
          refine wa_sub C [2, 3, 0] rfl ?_
          exact ih_4 n_18 ln_18 x2_17 Q_spare_16 rx2_17 h
        refine wa_icmp_ge C (tgt := 24) r_9 (inR_k 6 rfl) dX10_shiftDown_13 (by decide) (fun c_19 => ?_) (fun c_19 => ?_)
        · replace h := h.1 c_19
          refine wa_lconst C (v := 0) dX10_shiftDown_24 rfl ?_
          refine wa_sub C [0, 1, 2] rfl ?_
          exact k_11 (0 : Int64) h
        · replace h := h.2 c_19
          refine wa_aload_n C 0 rfl dX10_shiftDown_16 rfl ?_
          refine wa_iload_n C 2 rfl dX10_shiftDown_17 rfl ?_
          refine wa_iconst C (z := 1) dX10_shiftDown_18 rfl ?_
          refine wa_iadd C dX10_shiftDown_19 ?_
          obtain ⟨t_20, h⟩ := h
          refine wa_lald C 57 dW_57 dX10_shiftDown_20 t_20.1 t_20.2 (fun v_21 ev_21 => ?_)
          replace h := h v_21 ev_21
          refine wa_goto C (tgt := 25) dX10_shiftDown_21 (by decide) ?_
          refine wa_sub C [0, 1, 2] rfl ?_
          exact k_11 v_21 h
  refine wa_sub C [1, 2, 0] rfl ?_
  exact k_5 n_2 0 Q_spare (inR_k 0 rfl) h0Inv_1
def P_X10_twosOf_56 (post : Int → Prop) (Q_divisor : Int → Int64) : Prop :=
  ∀ v_1 : Int64, v_1 = Q_divisor 0 → (∀ v_2 : Int64, v_2 = Q_divisor 0 → (P_J13_bitCount_95d88 (fun (c_3 : Int) => inR c_3 → (inR (if c_3 < 30 then c_3 else 30) ∧ (post (if c_3 < 30 then c_3 else 30))))  ((v_1 &&& (-v_2)) - (1 : Int64))))
set_option maxRecDepth 100000 in
set_option maxHeartbeats 4000000 in
theorem c_X10_twosOf_56 (l : Launch) (K : wK) (ad : Nat → Nat) {D_hasBoard : Int} {D_beganBlank : Int} {F_mines : Int} {F_moves : Int} {F_changes : Int} {G_width : Int} {G_height : Int} {G_size : Int} {B_parts : Int} {B_longest : Int} {S_groups : Int} {S_askedGroup : Int} {S_taken : Int} {R_waitingCount : Int} {R_metCount : Int} {A_grade : Int} {A_cell : Int} {A_mined : Int} {A_withTotal : Int} {A_numbers : Int} {X_low : Int} {X_high : Int} {Y_low : Int} {Y_high : Int} {F_mined : Int → Int} {F_number : Int → Int} {F_state : Int → Int} {F_cellsIn : Int → Int} {F_unknownNear : Int → Int} {F_hitNear : Int → Int} {F_moveStart : Int → Int} {F_changed : Int → Int} {F_waiting : Int → Int} {F_seen : Int → Int} {G_near : Int → Int} {G_nearEnd : Int → Int} {B_chosen : Int → Int} {B_partOf : Int → Int} {B_rest : Int → Int} {B_unknowns : Int → Int} {B_partStart : Int → Int} {B_cells : Int → Int} {S_minedSet : Int → Int} {S_safeSet : Int → Int} {S_partSet : Int → Int} {S_tally : Int → Int} {S_askedTally : Int → Int} {S_groupOf : Int → Int} {S_groupSize : Int → Int} {S_links : Int → Int} {S_linkEnd : Int → Int} {S_pick : Int → Int} {S_groupMinedSet : Int → Int} {S_groupSafeSet : Int → Int} {O_sums : Int → Int64} {O_nextSums : Int → Int64} {R_found : Int → Int} {R_openEnds : Int → Int} {R_need : Int → Int} {R_waiting : Int → Int} {R_waits : Int → Int} {R_common : Int → Int} {R_met : Int → Int} {A_number : Int → Int} {Q_mined : Int → Int64} {Q_all : Int → Int64} {Q_choices : Int → Int64} {Q_term : Int → Int64} {Q_divisor : Int → Int64} {Q_spare : Int → Int64} {X_limbs : Int → Int64} {X_sum : Int → Int64} {Y_limbs : Int → Int64} {Y_sum : Int → Int64}   (post : Int → Prop) (h : P_X10_twosOf_56 post Q_divisor) : mI l yX10_twosOf (Cond.code yX10_twosOf cX10_twosOf 1 (some .int) :: GT) ({ frames := 3, cells := 0, slots := 0, locals := 180 } : Room) [.ref (ad 56)] K ad (dW D_hasBoard D_beganBlank F_mines F_moves F_changes G_width G_height G_size B_parts B_longest S_groups S_askedGroup S_taken R_waitingCount R_metCount A_grade A_cell A_mined A_withTotal A_numbers X_low X_high Y_low Y_high F_mined F_number F_state F_cellsIn F_unknownNear F_hitNear F_moveStart F_changed F_waiting F_seen G_near G_nearEnd B_chosen B_partOf B_rest B_unknowns B_partStart B_cells S_minedSet S_safeSet S_partSet S_tally S_askedTally S_groupOf S_groupSize S_links S_linkEnd S_pick S_groupMinedSet S_groupSafeSet O_sums O_nextSums R_found R_openEnds R_need R_waiting R_waits R_common R_met A_number Q_mined Q_all Q_choices Q_term Q_divisor Q_spare X_limbs X_sum Y_limbs Y_sum) (fun z9 u9 => u9 = (dW D_hasBoard D_beganBlank F_mines F_moves F_changes G_width G_height G_size B_parts B_longest S_groups S_askedGroup S_taken R_waitingCount R_metCount A_grade A_cell A_mined A_withTotal A_numbers X_low X_high Y_low Y_high F_mined F_number F_state F_cellsIn F_unknownNear F_hitNear F_moveStart F_changed F_waiting F_seen G_near G_nearEnd B_chosen B_partOf B_rest B_unknowns B_partStart B_cells S_minedSet S_safeSet S_partSet S_tally S_askedTally S_groupOf S_groupSize S_links S_linkEnd S_pick S_groupMinedSet S_groupSafeSet O_sums O_nextSums R_found R_openEnds R_need R_waiting R_waits R_common R_met A_number Q_mined Q_all Q_choices Q_term Q_divisor Q_spare X_limbs X_sum Y_limbs Y_sum) ∧ post z9) := by
  refine mI_of (lv0 := [(0, .ref (ad 56))]) (by decide) (Nat.le_of_ble_eq_true rfl) rfl ?_
  intro p e s m args below meth c Q A C ret
  replace C : Cx p ({ frames := 3, cells := 0, slots := 0, locals := 180 } : Room) m c 0 0 cX10_twosOf 1 s args RX10 K A := C
  unfold P_X10_twosOf_56 at h
  refine wa_bipush C (z := 30) dX10_twosOf_0 (by decide) ?_
  refine wa_aload_n C 0 rfl dX10_twosOf_2 rfl ?_
  refine wa_iconst C (z := 0) dX10_twosOf_3 rfl ?_
  refine wa_lald C 56 dW_56 dX10_twosOf_4 (by decide) (by decide) (fun v_1 ev_1 => ?_)
  replace h := h v_1 ev_1
  refine wa_aload_n C 0 rfl dX10_twosOf_5 rfl ?_
  refine wa_iconst C (z := 0) dX10_twosOf_6 rfl ?_
  refine wa_lald C 56 dW_56 dX10_twosOf_7 (by decide) (by decide) (fun v_2 ev_2 => ?_)
  replace h := h v_2 ev_2
  refine wa_lneg C dX10_twosOf_8 ?_
  refine wa_land C dX10_twosOf_9 ?_
  refine wa_lconst C (v := 1) dX10_twosOf_10 rfl ?_
  refine wa_lsub C dX10_twosOf_11 ?_
  refine wa_callSi C (As := [.long ((v_1 &&& (-v_2)) - (1 : Int64))]) (rest := [.int (iI 30)]) (c_J13_bitCount_95d88 l K ad ((v_1 &&& (-v_2)) - (1 : Int64)) _ h) gw_1170 gw_1168 gw_1169 gw_24 q_J13_bitCount_95d88 rfl rfl rfl ⟨by decide, by decide⟩ rfl (Nat.le_of_ble_eq_true rfl) dX10_twosOf_12 (fun c_3 u9 rc_3 hp => ?_)
  obtain ⟨rfl, h⟩ := hp
  replace h := h rc_3
  refine wa_min C (inR_k 30 rfl) rc_3 gw_1174 gw_625 gw_18 gw_626 (by decide) (Nat.le_of_ble_eq_true rfl) dX10_twosOf_15 ?_
  obtain ⟨r_4, h⟩ := h
  exact ret dX10_twosOf_18 r_4 ⟨rfl, h⟩
def P_X10_shiftDown_56 (post : (Int → Int64) → Prop) (Q_divisor : Int → Int64) (x1 : Int) : Prop :=
  ∃ Inv_1 : Nat → (Int) → (Int → Int64) → Prop, (∃ n_2 : Nat, Inv_1 n_2 0 Q_divisor) ∧ ∀ (n_3 : Nat) (x2_6 : Int) (Q_divisor_7 : Int → Int64), inR x2_6 → Inv_1 n_3 x2_6 Q_divisor_7 → ((6 ≤ x2_6 → (post Q_divisor_7)) ∧ (¬ 6 ≤ x2_6 → (inR (x2_6 + 1) ∧ (∃ J_10 : (Int64) → Prop, ((6 ≤ (x2_6 + 1) → (J_10 (0 : Int64))) ∧ (¬ 6 ≤ (x2_6 + 1) → ((0 ≤ (x2_6 + 1) ∧ (x2_6 + 1) < 6) ∧ (∀ v_21 : Int64, v_21 = Q_divisor_7 (x2_6 + 1) → (J_10 v_21))))) ∧ (∀ (z_12 : Int64), J_10 z_12 → ((0 ≤ x2_6 ∧ x2_6 < 6) ∧ (∀ v_14 : Int64, v_14 = Q_divisor_7 x2_6 → ((0 ≤ x2_6 ∧ x2_6 < 6) ∧ (∀ Q_divisor_16 : Int → Int64, Q_divisor_16 = upZ Q_divisor_7 x2_6 ((ushrL ((shlL z_12 31) ||| v_14) x1) &&& (2147483647 : Int64)) → (∀ x2_17 : Int, x2_17 = (x2_6 + 1) → (∃ n_18 : Nat, n_18 < n_3 ∧ Inv_1 n_18 x2_17 Q_divisor_16)))))))))))
set_option maxRecDepth 100000 in
set_option maxHeartbeats 4000000 in
theorem c_X10_shiftDown_56 (l : Launch) (K : wK) (ad : Nat → Nat) {D_hasBoard : Int} {D_beganBlank : Int} {F_mines : Int} {F_moves : Int} {F_changes : Int} {G_width : Int} {G_height : Int} {G_size : Int} {B_parts : Int} {B_longest : Int} {S_groups : Int} {S_askedGroup : Int} {S_taken : Int} {R_waitingCount : Int} {R_metCount : Int} {A_grade : Int} {A_cell : Int} {A_mined : Int} {A_withTotal : Int} {A_numbers : Int} {X_low : Int} {X_high : Int} {Y_low : Int} {Y_high : Int} {F_mined : Int → Int} {F_number : Int → Int} {F_state : Int → Int} {F_cellsIn : Int → Int} {F_unknownNear : Int → Int} {F_hitNear : Int → Int} {F_moveStart : Int → Int} {F_changed : Int → Int} {F_waiting : Int → Int} {F_seen : Int → Int} {G_near : Int → Int} {G_nearEnd : Int → Int} {B_chosen : Int → Int} {B_partOf : Int → Int} {B_rest : Int → Int} {B_unknowns : Int → Int} {B_partStart : Int → Int} {B_cells : Int → Int} {S_minedSet : Int → Int} {S_safeSet : Int → Int} {S_partSet : Int → Int} {S_tally : Int → Int} {S_askedTally : Int → Int} {S_groupOf : Int → Int} {S_groupSize : Int → Int} {S_links : Int → Int} {S_linkEnd : Int → Int} {S_pick : Int → Int} {S_groupMinedSet : Int → Int} {S_groupSafeSet : Int → Int} {O_sums : Int → Int64} {O_nextSums : Int → Int64} {R_found : Int → Int} {R_openEnds : Int → Int} {R_need : Int → Int} {R_waiting : Int → Int} {R_waits : Int → Int} {R_common : Int → Int} {R_met : Int → Int} {A_number : Int → Int} {Q_mined : Int → Int64} {Q_all : Int → Int64} {Q_choices : Int → Int64} {Q_term : Int → Int64} {Q_divisor : Int → Int64} {Q_spare : Int → Int64} {X_limbs : Int → Int64} {X_sum : Int → Int64} {Y_limbs : Int → Int64} {Y_sum : Int → Int64} (x1 : Int) (rx1 : inR x1) (post : (Int → Int64) → Prop) (h : P_X10_shiftDown_56 post Q_divisor x1) : mV l yX10_shiftDown (Cond.code yX10_shiftDown cX10_shiftDown 5 none :: GT) ({ frames := 2, cells := 0, slots := 0, locals := 120 } : Room) [.ref (ad 56), .int (iI x1)] K ad (dW D_hasBoard D_beganBlank F_mines F_moves F_changes G_width G_height G_size B_parts B_longest S_groups S_askedGroup S_taken R_waitingCount R_metCount A_grade A_cell A_mined A_withTotal A_numbers X_low X_high Y_low Y_high F_mined F_number F_state F_cellsIn F_unknownNear F_hitNear F_moveStart F_changed F_waiting F_seen G_near G_nearEnd B_chosen B_partOf B_rest B_unknowns B_partStart B_cells S_minedSet S_safeSet S_partSet S_tally S_askedTally S_groupOf S_groupSize S_links S_linkEnd S_pick S_groupMinedSet S_groupSafeSet O_sums O_nextSums R_found R_openEnds R_need R_waiting R_waits R_common R_met A_number Q_mined Q_all Q_choices Q_term Q_divisor Q_spare X_limbs X_sum Y_limbs Y_sum) (fun u9 => ∃ Q_divisor9, u9 = (dW D_hasBoard D_beganBlank F_mines F_moves F_changes G_width G_height G_size B_parts B_longest S_groups S_askedGroup S_taken R_waitingCount R_metCount A_grade A_cell A_mined A_withTotal A_numbers X_low X_high Y_low Y_high F_mined F_number F_state F_cellsIn F_unknownNear F_hitNear F_moveStart F_changed F_waiting F_seen G_near G_nearEnd B_chosen B_partOf B_rest B_unknowns B_partStart B_cells S_minedSet S_safeSet S_partSet S_tally S_askedTally S_groupOf S_groupSize S_links S_linkEnd S_pick S_groupMinedSet S_groupSafeSet O_sums O_nextSums R_found R_openEnds R_need R_waiting R_waits R_common R_met A_number Q_mined Q_all Q_choices Q_term Q_divisor9 Q_spare X_limbs X_sum Y_limbs Y_sum) ∧ post Q_divisor9) := by
  refine mV_of (lv0 := [(0, .ref (ad 56)), (1, .int (iI x1))]) (by decide) (Nat.le_of_ble_eq_true rfl) rfl ?_
  intro p e s m args below meth c Q A C ret
  replace C : Cx p ({ frames := 2, cells := 0, slots := 0, locals := 120 } : Room) m c 0 0 cX10_shiftDown 5 s args RX10 K A := C
  unfold P_X10_shiftDown_56 at h
  refine wa_iconst C (z := 0) dX10_shiftDown_0 rfl ?_
  refine wa_istore_n C dX10_shiftDown_1 rfl (by decide) rfl ?_
  obtain ⟨Inv_1, ⟨n_2, h0Inv_1⟩, hInv_1⟩ := h
  have k_5 : ∀ (n_3 : Nat) (x2_6 : Int) (Q_divisor_7 : Int → Int64), inR x2_6 → Inv_1 n_3 x2_6 Q_divisor_7 → WA p l e ({ frames := 2, cells := 0, slots := 0, locals := 120 } : Room) s m args below meth c 0 0 Q K ad 5 A 2 [(0, .ref (ad 56)), (1, .int (iI x1)), (2, .int (iI x2_6))] [] (dW D_hasBoard D_beganBlank F_mines F_moves F_changes G_width G_height G_size B_parts B_longest S_groups S_askedGroup S_taken R_waitingCount R_metCount A_grade A_cell A_mined A_withTotal A_numbers X_low X_high Y_low Y_high F_mined F_number F_state F_cellsIn F_unknownNear F_hitNear F_moveStart F_changed F_waiting F_seen G_near G_nearEnd B_chosen B_partOf B_rest B_unknowns B_partStart B_cells S_minedSet S_safeSet S_partSet S_tally S_askedTally S_groupOf S_groupSize S_links S_linkEnd S_pick S_groupMinedSet S_groupSafeSet O_sums O_nextSums R_found R_openEnds R_need R_waiting R_waits R_common R_met A_number Q_mined Q_all Q_choices Q_term Q_divisor_7 Q_spare X_limbs X_sum Y_limbs Y_sum) := by
    intro n_3
    induction n_3 using Nat.strongRecOn with
    | ind n_3 ih_4 =>
      intro x2_6 Q_divisor_7 rx2_6 h
      replace h := hInv_1 n_3 x2_6 Q_divisor_7 rx2_6 h
      refine wa_iload_n C 2 rfl dX10_shiftDown_2 rfl ?_
      refine wa_bipush C (z := 6) dX10_shiftDown_3 (by decide) ?_
      refine wa_icmp_ge C (tgt := 49) rx2_6 (inR_k 6 rfl) dX10_shiftDown_5 (by decide) (fun c_8 => ?_) (fun c_8 => ?_)
      · replace h := h.1 c_8
        exact ret dX10_shiftDown_49 ⟨_, rfl, h⟩
      · replace h := h.2 c_8
        refine wa_iload_n C 2 rfl dX10_shiftDown_8 rfl ?_
        refine wa_iconst C (z := 1) dX10_shiftDown_9 rfl ?_
        refine wa_iadd C dX10_shiftDown_10 ?_
        refine wa_bipush C (z := 6) dX10_shiftDown_11 (by decide) ?_
        obtain ⟨r_9, h⟩ := h
        obtain ⟨J_10, h, hJ_10⟩ := h
        have k_11 : ∀ (z_12 : Int64), J_10 z_12 → WA p l e ({ frames := 2, cells := 0, slots := 0, locals := 120 } : Room) s m args below meth c 0 0 Q K ad 5 A 25 [(0, .ref (ad 56)), (1, .int (iI x1)), (2, .int (iI x2_6))] [.long z_12] (dW D_hasBoard D_beganBlank F_mines F_moves F_changes G_width G_height G_size B_parts B_longest S_groups S_askedGroup S_taken R_waitingCount R_metCount A_grade A_cell A_mined A_withTotal A_numbers X_low X_high Y_low Y_high F_mined F_number F_state F_cellsIn F_unknownNear F_hitNear F_moveStart F_changed F_waiting F_seen G_near G_nearEnd B_chosen B_partOf B_rest B_unknowns B_partStart B_cells S_minedSet S_safeSet S_partSet S_tally S_askedTally S_groupOf S_groupSize S_links S_linkEnd S_pick S_groupMinedSet S_groupSafeSet O_sums O_nextSums R_found R_openEnds R_need R_waiting R_waits R_common R_met A_number Q_mined Q_all Q_choices Q_term Q_divisor_7 Q_spare X_limbs X_sum Y_limbs Y_sum) := by
          intro z_12 h
          replace h := hJ_10 z_12 h
          refine wa_lstore_n C dX10_shiftDown_25 rfl (by decide) rfl ?_
          refine wa_aload_n C 1 rfl dX10_shiftDown_26 rfl ?_
          refine wa_iload_n C 3 rfl dX10_shiftDown_27 rfl ?_
          refine wa_lload_n C 0 rfl dX10_shiftDown_28 rfl ?_
          refine wa_bipush C (z := 31) dX10_shiftDown_29 (by decide) ?_
          refine wa_lshl C dX10_shiftDown_31 ?_
          refine wa_aload_n C 1 rfl dX10_shiftDown_32 rfl ?_
          refine wa_iload_n C 3 rfl dX10_shiftDown_33 rfl ?_
          obtain ⟨t_13, h⟩ := h
          refine wa_lald C 56 dW_56 dX10_shiftDown_34 t_13.1 t_13.2 (fun v_14 ev_14 => ?_)
          replace h := h v_14 ev_14
          refine wa_lor C dX10_shiftDown_35 ?_
          refine wa_iload_n C 2 rfl dX10_shiftDown_36 rfl ?_
          refine wa_lushr C dX10_shiftDown_37 ?_
          refine wa_ldc2 C gw_1108 dX10_shiftDown_38 ?_
          refine wa_land C dX10_shiftDown_41 ?_
          obtain ⟨t_15, h⟩ := h
          refine wa_last C (ws' := fun w9 => (dW D_hasBoard D_beganBlank F_mines F_moves F_changes G_width G_height G_size B_parts B_longest S_groups S_askedGroup S_taken R_waitingCount R_metCount A_grade A_cell A_mined A_withTotal A_numbers X_low X_high Y_low Y_high F_mined F_number F_state F_cellsIn F_unknownNear F_hitNear F_moveStart F_changed F_waiting F_seen G_near G_nearEnd B_chosen B_partOf B_rest B_unknowns B_partStart B_cells S_minedSet S_safeSet S_partSet S_tally S_askedTally S_groupOf S_groupSize S_links S_linkEnd S_pick S_groupMinedSet S_groupSafeSet O_sums O_nextSums R_found R_openEnds R_need R_waiting R_waits R_common R_met A_number Q_mined Q_all Q_choices Q_term w9 Q_spare X_limbs X_sum Y_limbs Y_sum)) 56 dW_56 dX10_shiftDown_42 t_15.1 t_15.2 dWs_56 (fun Q_divisor_16 eQ_divisor_16 => ?_)
          replace h := h Q_divisor_16 eQ_divisor_16
          refine wa_iinc C (lv' := fun w9 => [(2, .int (iI w9)), (3, .long z_12), (0, .ref (ad 56)), (1, .int (iI x1))]) 3 rfl dX10_shiftDown_43 (by decide) (fun _ => rfl) (fun x2_17 ex2_17 => ?_)
          replace h := h x2_17 ex2_17
          have rx2_17 : inR x2_17 := by rw [ex2_17]; exact r_9
          refine wa_goto C (tgt := 2) dX10_shiftDown_46 (by decide) ?_
          obtain ⟨n_18, ln_18, h⟩ := h
          refine wa_sub C [2, 3, 0] rfl ?_
          exact ih_4 n_18 ln_18 x2_17 Q_divisor_16 rx2_17 h
        refine wa_icmp_ge C (tgt := 24) r_9 (inR_k 6 rfl) dX10_shiftDown_13 (by decide) (fun c_19 => ?_) (fun c_19 => ?_)
        · replace h := h.1 c_19
          refine wa_lconst C (v := 0) dX10_shiftDown_24 rfl ?_
          refine wa_sub C [0, 1, 2] rfl ?_
          exact k_11 (0 : Int64) h
        · replace h := h.2 c_19
          refine wa_aload_n C 0 rfl dX10_shiftDown_16 rfl ?_
          refine wa_iload_n C 2 rfl dX10_shiftDown_17 rfl ?_
          refine wa_iconst C (z := 1) dX10_shiftDown_18 rfl ?_
          refine wa_iadd C dX10_shiftDown_19 ?_
          obtain ⟨t_20, h⟩ := h
          refine wa_lald C 56 dW_56 dX10_shiftDown_20 t_20.1 t_20.2 (fun v_21 ev_21 => ?_)
          replace h := h v_21 ev_21
          refine wa_goto C (tgt := 25) dX10_shiftDown_21 (by decide) ?_
          refine wa_sub C [0, 1, 2] rfl ?_
          exact k_11 v_21 h
  refine wa_sub C [1, 2, 0] rfl ?_
  exact k_5 n_2 0 Q_divisor (inR_k 0 rfl) h0Inv_1
def P_X10_toCommonDivisor_56_57 (post : (Int → Int64) → (Int → Int64) → Prop) (Q_divisor : Int → Int64) (Q_spare : Int → Int64) : Prop :=
  ∃ Inv_1 : Nat → (Int) → (Int → Int64) → (Int → Int64) → Prop, (∃ n_2 : Nat, Inv_1 n_2 0 Q_divisor Q_spare) ∧ ∀ (n_3 : Nat) (x2_6 : Int) (Q_divisor_7 : Int → Int64) (Q_spare_8 : Int → Int64), inR x2_6 → Inv_1 n_3 x2_6 Q_divisor_7 Q_spare_8 → (∃ J_9 : Prop, ((186 ≤ x2_6 → (J_9)) ∧ (¬ 186 ≤ x2_6 → (∀ v_56 : Int64, v_56 = Q_divisor_7 0 → (∀ v_57 : Int64, v_57 = Q_spare_8 0 → ((¬ (lcI ((v_56 ||| v_57) &&& (1 : Int64)) (0 : Int64)) = 0 → (J_9)) ∧ ((lcI ((v_56 ||| v_57) &&& (1 : Int64)) (0 : Int64)) = 0 → (P_X10_shiftDown_56 (fun (Q_divisor_59 : Int → Int64) => (P_X10_shiftDown_57 (fun (Q_spare_60 : Int → Int64) => (inR (x2_6 + 1) ∧ (∀ x2_62 : Int, x2_62 = (x2_6 + 1) → (∃ n_63 : Nat, n_63 < n_3 ∧ Inv_1 n_63 x2_62 Q_divisor_59 Q_spare_60)))) Q_spare_8 1)) Q_divisor_7 1))))))) ∧ (J_9 → (∃ Inv_11 : Nat → (Int) → (Int → Int64) → (Int → Int64) → Prop, (∃ n_12 : Nat, Inv_11 n_12 0 Q_divisor_7 Q_spare_8) ∧ ∀ (n_13 : Nat) (x3_16 : Int) (Q_divisor_17 : Int → Int64) (Q_spare_18 : Int → Int64), inR x3_16 → Inv_11 n_13 x3_16 Q_divisor_17 Q_spare_18 → (∃ J_19 : Prop, ((744 ≤ x3_16 → (J_19)) ∧ (¬ 744 ≤ x3_16 → (P_X10_isZero_57 (fun (c_34 : Int) => (c_34 = 0 ∨ c_34 = 1) → ((¬ c_34 = 0 → (J_19)) ∧ (c_34 = 0 → (∀ v_36 : Int64, v_36 = Q_divisor_17 0 → (∃ J_37 : (Int → Int64) → (Int → Int64) → Prop, ((¬ (lcI (v_36 &&& (1 : Int64)) (0 : Int64)) = 0 → (∀ v_45 : Int64, v_45 = Q_spare_18 0 → ((¬ (lcI (v_45 &&& (1 : Int64)) (0 : Int64)) = 0 → (P_X10_isLess_57_56 (fun (c_47 : Int) => (c_47 = 0 ∨ c_47 = 1) → ((c_47 = 0 → (P_X10_subtract_57_56 (fun (Q_spare_49 : Int → Int64) => (J_37 Q_divisor_17 Q_spare_49)) Q_divisor_17 Q_spare_18 )) ∧ (¬ c_47 = 0 → (P_X10_subtract_56_57 (fun (Q_divisor_50 : Int → Int64) => (J_37 Q_divisor_50 Q_spare_18)) Q_divisor_17 Q_spare_18 )))) Q_divisor_17 Q_spare_18 )) ∧ ((lcI (v_45 &&& (1 : Int64)) (0 : Int64)) = 0 → (P_X10_twosOf_57 (fun (c_51 : Int) => inR c_51 → (P_X10_shiftDown_57 (fun (Q_spare_52 : Int → Int64) => (J_37 Q_divisor_17 Q_spare_52)) Q_spare_18 c_51)) Q_spare_18 ))))) ∧ ((lcI (v_36 &&& (1 : Int64)) (0 : Int64)) = 0 → (P_X10_twosOf_56 (fun (c_53 : Int) => inR c_53 → (P_X10_shiftDown_56 (fun (Q_divisor_54 : Int → Int64) => (J_37 Q_divisor_54 Q_spare_18)) Q_divisor_17 c_53)) Q_divisor_17 ))) ∧ (∀ (Q_divisor_39 : Int → Int64) (Q_spare_40 : Int → Int64), J_37 Q_divisor_39 Q_spare_40 → (inR (x3_16 + 1) ∧ (∀ x3_42 : Int, x3_42 = (x3_16 + 1) → (∃ n_43 : Nat, n_43 < n_13 ∧ Inv_11 n_43 x3_42 Q_divisor_39 Q_spare_40))))))))) Q_spare_18 ))) ∧ (J_19 → (∃ Inv_21 : Nat → (Int) → (Int → Int64) → Prop, (∃ n_22 : Nat, Inv_21 n_22 0 Q_divisor_17) ∧ ∀ (n_23 : Nat) (x3_26 : Int) (Q_divisor_27 : Int → Int64), inR x3_26 → Inv_21 n_23 x3_26 Q_divisor_27 → ((x2_6 ≤ x3_26 → (post Q_divisor_27 Q_spare_18)) ∧ (¬ x2_6 ≤ x3_26 → (P_X10_scale_56 (fun (Q_divisor_29 : Int → Int64) => (inR (x3_26 + 1) ∧ (∀ x3_31 : Int, x3_31 = (x3_26 + 1) → (∃ n_32 : Nat, n_32 < n_23 ∧ Inv_21 n_32 x3_31 Q_divisor_29)))) Q_divisor_27 2)))))))))
set_option maxRecDepth 100000 in
set_option maxHeartbeats 4000000 in
theorem c_X10_toCommonDivisor_56_57 (l : Launch) (K : wK) (ad : Nat → Nat) {D_hasBoard : Int} {D_beganBlank : Int} {F_mines : Int} {F_moves : Int} {F_changes : Int} {G_width : Int} {G_height : Int} {G_size : Int} {B_parts : Int} {B_longest : Int} {S_groups : Int} {S_askedGroup : Int} {S_taken : Int} {R_waitingCount : Int} {R_metCount : Int} {A_grade : Int} {A_cell : Int} {A_mined : Int} {A_withTotal : Int} {A_numbers : Int} {X_low : Int} {X_high : Int} {Y_low : Int} {Y_high : Int} {F_mined : Int → Int} {F_number : Int → Int} {F_state : Int → Int} {F_cellsIn : Int → Int} {F_unknownNear : Int → Int} {F_hitNear : Int → Int} {F_moveStart : Int → Int} {F_changed : Int → Int} {F_waiting : Int → Int} {F_seen : Int → Int} {G_near : Int → Int} {G_nearEnd : Int → Int} {B_chosen : Int → Int} {B_partOf : Int → Int} {B_rest : Int → Int} {B_unknowns : Int → Int} {B_partStart : Int → Int} {B_cells : Int → Int} {S_minedSet : Int → Int} {S_safeSet : Int → Int} {S_partSet : Int → Int} {S_tally : Int → Int} {S_askedTally : Int → Int} {S_groupOf : Int → Int} {S_groupSize : Int → Int} {S_links : Int → Int} {S_linkEnd : Int → Int} {S_pick : Int → Int} {S_groupMinedSet : Int → Int} {S_groupSafeSet : Int → Int} {O_sums : Int → Int64} {O_nextSums : Int → Int64} {R_found : Int → Int} {R_openEnds : Int → Int} {R_need : Int → Int} {R_waiting : Int → Int} {R_waits : Int → Int} {R_common : Int → Int} {R_met : Int → Int} {A_number : Int → Int} {Q_mined : Int → Int64} {Q_all : Int → Int64} {Q_choices : Int → Int64} {Q_term : Int → Int64} {Q_divisor : Int → Int64} {Q_spare : Int → Int64} {X_limbs : Int → Int64} {X_sum : Int → Int64} {Y_limbs : Int → Int64} {Y_sum : Int → Int64}   (post : (Int → Int64) → (Int → Int64) → Prop) (h : P_X10_toCommonDivisor_56_57 post Q_divisor Q_spare) : mV l yX10_toCommonDivisor (Cond.code yX10_toCommonDivisor cX10_toCommonDivisor 4 none :: GT) ({ frames := 4, cells := 0, slots := 0, locals := 240 } : Room) [.ref (ad 56), .ref (ad 57)] K ad (dW D_hasBoard D_beganBlank F_mines F_moves F_changes G_width G_height G_size B_parts B_longest S_groups S_askedGroup S_taken R_waitingCount R_metCount A_grade A_cell A_mined A_withTotal A_numbers X_low X_high Y_low Y_high F_mined F_number F_state F_cellsIn F_unknownNear F_hitNear F_moveStart F_changed F_waiting F_seen G_near G_nearEnd B_chosen B_partOf B_rest B_unknowns B_partStart B_cells S_minedSet S_safeSet S_partSet S_tally S_askedTally S_groupOf S_groupSize S_links S_linkEnd S_pick S_groupMinedSet S_groupSafeSet O_sums O_nextSums R_found R_openEnds R_need R_waiting R_waits R_common R_met A_number Q_mined Q_all Q_choices Q_term Q_divisor Q_spare X_limbs X_sum Y_limbs Y_sum) (fun u9 => ∃ Q_divisor9 Q_spare9, u9 = (dW D_hasBoard D_beganBlank F_mines F_moves F_changes G_width G_height G_size B_parts B_longest S_groups S_askedGroup S_taken R_waitingCount R_metCount A_grade A_cell A_mined A_withTotal A_numbers X_low X_high Y_low Y_high F_mined F_number F_state F_cellsIn F_unknownNear F_hitNear F_moveStart F_changed F_waiting F_seen G_near G_nearEnd B_chosen B_partOf B_rest B_unknowns B_partStart B_cells S_minedSet S_safeSet S_partSet S_tally S_askedTally S_groupOf S_groupSize S_links S_linkEnd S_pick S_groupMinedSet S_groupSafeSet O_sums O_nextSums R_found R_openEnds R_need R_waiting R_waits R_common R_met A_number Q_mined Q_all Q_choices Q_term Q_divisor9 Q_spare9 X_limbs X_sum Y_limbs Y_sum) ∧ post Q_divisor9 Q_spare9) := by
  refine mV_of (lv0 := [(0, .ref (ad 56)), (1, .ref (ad 57))]) (by decide) (Nat.le_of_ble_eq_true rfl) rfl ?_
  intro p e s m args below meth c Q A C ret
  replace C : Cx p ({ frames := 4, cells := 0, slots := 0, locals := 240 } : Room) m c 0 0 cX10_toCommonDivisor 4 s args RX10 K A := C
  unfold P_X10_toCommonDivisor_56_57 at h
  refine wa_iconst C (z := 0) dX10_toCommonDivisor_0 rfl ?_
  refine wa_istore_n C dX10_toCommonDivisor_1 rfl (by decide) rfl ?_
  obtain ⟨Inv_1, ⟨n_2, h0Inv_1⟩, hInv_1⟩ := h
  have k_5 : ∀ (n_3 : Nat) (x2_6 : Int) (Q_divisor_7 : Int → Int64) (Q_spare_8 : Int → Int64), inR x2_6 → Inv_1 n_3 x2_6 Q_divisor_7 Q_spare_8 → WA p l e ({ frames := 4, cells := 0, slots := 0, locals := 240 } : Room) s m args below meth c 0 0 Q K ad 4 A 2 [(0, .ref (ad 56)), (1, .ref (ad 57)), (2, .int (iI x2_6))] [] (dW D_hasBoard D_beganBlank F_mines F_moves F_changes G_width G_height G_size B_parts B_longest S_groups S_askedGroup S_taken R_waitingCount R_metCount A_grade A_cell A_mined A_withTotal A_numbers X_low X_high Y_low Y_high F_mined F_number F_state F_cellsIn F_unknownNear F_hitNear F_moveStart F_changed F_waiting F_seen G_near G_nearEnd B_chosen B_partOf B_rest B_unknowns B_partStart B_cells S_minedSet S_safeSet S_partSet S_tally S_askedTally S_groupOf S_groupSize S_links S_linkEnd S_pick S_groupMinedSet S_groupSafeSet O_sums O_nextSums R_found R_openEnds R_need R_waiting R_waits R_common R_met A_number Q_mined Q_all Q_choices Q_term Q_divisor_7 Q_spare_8 X_limbs X_sum Y_limbs Y_sum) := by
    intro n_3
    induction n_3 using Nat.strongRecOn with
    | ind n_3 ih_4 =>
      intro x2_6 Q_divisor_7 Q_spare_8 rx2_6 h
      replace h := hInv_1 n_3 x2_6 Q_divisor_7 Q_spare_8 rx2_6 h
      refine wa_iload_n C 2 rfl dX10_toCommonDivisor_2 rfl ?_
      refine wa_sipush C (z := 186) dX10_toCommonDivisor_3 (by decide) ?_
      obtain ⟨J_9, h, hJ_9⟩ := h
      have k_10 : J_9 → WA p l e ({ frames := 4, cells := 0, slots := 0, locals := 240 } : Room) s m args below meth c 0 0 Q K ad 4 A 39 [(0, .ref (ad 56)), (1, .ref (ad 57)), (2, .int (iI x2_6))] [] (dW D_hasBoard D_beganBlank F_mines F_moves F_changes G_width G_height G_size B_parts B_longest S_groups S_askedGroup S_taken R_waitingCount R_metCount A_grade A_cell A_mined A_withTotal A_numbers X_low X_high Y_low Y_high F_mined F_number F_state F_cellsIn F_unknownNear F_hitNear F_moveStart F_changed F_waiting F_seen G_near G_nearEnd B_chosen B_partOf B_rest B_unknowns B_partStart B_cells S_minedSet S_safeSet S_partSet S_tally S_askedTally S_groupOf S_groupSize S_links S_linkEnd S_pick S_groupMinedSet S_groupSafeSet O_sums O_nextSums R_found R_openEnds R_need R_waiting R_waits R_common R_met A_number Q_mined Q_all Q_choices Q_term Q_divisor_7 Q_spare_8 X_limbs X_sum Y_limbs Y_sum) := by
        intro h
        replace h := hJ_9 h
        refine wa_iconst C (z := 0) dX10_toCommonDivisor_39 rfl ?_
        refine wa_istore_n C dX10_toCommonDivisor_40 rfl (by decide) rfl ?_
        obtain ⟨Inv_11, ⟨n_12, h0Inv_11⟩, hInv_11⟩ := h
        have k_15 : ∀ (n_13 : Nat) (x3_16 : Int) (Q_divisor_17 : Int → Int64) (Q_spare_18 : Int → Int64), inR x3_16 → Inv_11 n_13 x3_16 Q_divisor_17 Q_spare_18 → WA p l e ({ frames := 4, cells := 0, slots := 0, locals := 240 } : Room) s m args below meth c 0 0 Q K ad 4 A 41 [(0, .ref (ad 56)), (1, .ref (ad 57)), (2, .int (iI x2_6)), (3, .int (iI x3_16))] [] (dW D_hasBoard D_beganBlank F_mines F_moves F_changes G_width G_height G_size B_parts B_longest S_groups S_askedGroup S_taken R_waitingCount R_metCount A_grade A_cell A_mined A_withTotal A_numbers X_low X_high Y_low Y_high F_mined F_number F_state F_cellsIn F_unknownNear F_hitNear F_moveStart F_changed F_waiting F_seen G_near G_nearEnd B_chosen B_partOf B_rest B_unknowns B_partStart B_cells S_minedSet S_safeSet S_partSet S_tally S_askedTally S_groupOf S_groupSize S_links S_linkEnd S_pick S_groupMinedSet S_groupSafeSet O_sums O_nextSums R_found R_openEnds R_need R_waiting R_waits R_common R_met A_number Q_mined Q_all Q_choices Q_term Q_divisor_17 Q_spare_18 X_limbs X_sum Y_limbs Y_sum) := by
          intro n_13
          induction n_13 using Nat.strongRecOn with
          | ind n_13 ih_14 =>
            intro x3_16 Q_divisor_17 Q_spare_18 rx3_16 h
            replace h := hInv_11 n_13 x3_16 Q_divisor_17 Q_spare_18 rx3_16 h
            refine wa_iload_n C 3 rfl dX10_toCommonDivisor_41 rfl ?_
            refine wa_sipush C (z := 744) dX10_toCommonDivisor_42 (by decide) ?_
            obtain ⟨J_19, h, hJ_19⟩ := h
            have k_20 : J_19 → WA p l e ({ frames := 4, cells := 0, slots := 0, locals := 240 } : Room) s m args below meth c 0 0 Q K ad 4 A 124 [(0, .ref (ad 56)), (2, .int (iI x2_6))] [] (dW D_hasBoard D_beganBlank F_mines F_moves F_changes G_width G_height G_size B_parts B_longest S_groups S_askedGroup S_taken R_waitingCount R_metCount A_grade A_cell A_mined A_withTotal A_numbers X_low X_high Y_low Y_high F_mined F_number F_state F_cellsIn F_unknownNear F_hitNear F_moveStart F_changed F_waiting F_seen G_near G_nearEnd B_chosen B_partOf B_rest B_unknowns B_partStart B_cells S_minedSet S_safeSet S_partSet S_tally S_askedTally S_groupOf S_groupSize S_links S_linkEnd S_pick S_groupMinedSet S_groupSafeSet O_sums O_nextSums R_found R_openEnds R_need R_waiting R_waits R_common R_met A_number Q_mined Q_all Q_choices Q_term Q_divisor_17 Q_spare_18 X_limbs X_sum Y_limbs Y_sum) := by
              intro h
              replace h := hJ_19 h
              refine wa_iconst C (z := 0) dX10_toCommonDivisor_124 rfl ?_
              refine wa_istore_n C dX10_toCommonDivisor_125 rfl (by decide) rfl ?_
              obtain ⟨Inv_21, ⟨n_22, h0Inv_21⟩, hInv_21⟩ := h
              have k_25 : ∀ (n_23 : Nat) (x3_26 : Int) (Q_divisor_27 : Int → Int64), inR x3_26 → Inv_21 n_23 x3_26 Q_divisor_27 → WA p l e ({ frames := 4, cells := 0, slots := 0, locals := 240 } : Room) s m args below meth c 0 0 Q K ad 4 A 126 [(0, .ref (ad 56)), (2, .int (iI x2_6)), (3, .int (iI x3_26))] [] (dW D_hasBoard D_beganBlank F_mines F_moves F_changes G_width G_height G_size B_parts B_longest S_groups S_askedGroup S_taken R_waitingCount R_metCount A_grade A_cell A_mined A_withTotal A_numbers X_low X_high Y_low Y_high F_mined F_number F_state F_cellsIn F_unknownNear F_hitNear F_moveStart F_changed F_waiting F_seen G_near G_nearEnd B_chosen B_partOf B_rest B_unknowns B_partStart B_cells S_minedSet S_safeSet S_partSet S_tally S_askedTally S_groupOf S_groupSize S_links S_linkEnd S_pick S_groupMinedSet S_groupSafeSet O_sums O_nextSums R_found R_openEnds R_need R_waiting R_waits R_common R_met A_number Q_mined Q_all Q_choices Q_term Q_divisor_27 Q_spare_18 X_limbs X_sum Y_limbs Y_sum) := by
                intro n_23
                induction n_23 using Nat.strongRecOn with
                | ind n_23 ih_24 =>
                  intro x3_26 Q_divisor_27 rx3_26 h
                  replace h := hInv_21 n_23 x3_26 Q_divisor_27 rx3_26 h
                  refine wa_iload_n C 2 rfl dX10_toCommonDivisor_126 rfl ?_
                  refine wa_iload_n C 1 rfl dX10_toCommonDivisor_127 rfl ?_
                  refine wa_icmp_ge C (tgt := 142) rx3_26 rx2_6 dX10_toCommonDivisor_128 (by decide) (fun c_28 => ?_) (fun c_28 => ?_)
                  · replace h := h.1 c_28
                    exact ret dX10_toCommonDivisor_142 ⟨_, _, rfl, h⟩
                  · replace h := h.2 c_28
                    refine wa_aload_n C 0 rfl dX10_toCommonDivisor_131 rfl ?_
                    refine wa_iconst C (z := 2) dX10_toCommonDivisor_132 rfl ?_
                    refine wa_callSv C (As := [.ref (ad 56), .int (iI 2)]) (rest := []) (c_X10_scale_56 l K ad 2 (inR_k 2 rfl) _ h) gw_1126 gw_1181 gw_1125 gw_23 q_X10_scale rfl rfl rfl ⟨by decide, by decide⟩ rfl (Nat.le_of_ble_eq_true rfl) dX10_toCommonDivisor_133 (fun u9 hp => ?_)
                    obtain ⟨Q_divisor_29, rfl, h⟩ := hp
                    obtain ⟨r_30, h⟩ := h
                    refine wa_iinc C (lv' := fun w9 => [(3, .int (iI w9)), (0, .ref (ad 56)), (2, .int (iI x2_6))]) 2 rfl dX10_toCommonDivisor_136 (by decide) (fun _ => rfl) (fun x3_31 ex3_31 => ?_)
                    replace h := h x3_31 ex3_31
                    have rx3_31 : inR x3_31 := by rw [ex3_31]; exact r_30
                    refine wa_goto C (tgt := 126) dX10_toCommonDivisor_139 (by decide) ?_
                    obtain ⟨n_32, ln_32, h⟩ := h
                    refine wa_sub C [1, 2, 0] rfl ?_
                    exact ih_24 n_32 ln_32 x3_31 Q_divisor_29 rx3_31 h
              refine wa_sub C [1, 2, 0] rfl ?_
              exact k_25 n_22 0 Q_divisor_17 (inR_k 0 rfl) h0Inv_21
            refine wa_icmp_ge C (tgt := 124) rx3_16 (inR_k 744 rfl) dX10_toCommonDivisor_45 (by decide) (fun c_33 => ?_) (fun c_33 => ?_)
            · replace h := h.1 c_33
              refine wa_sub C [0, 2] rfl ?_
              exact k_20 h
            · replace h := h.2 c_33
              refine wa_aload_n C 1 rfl dX10_toCommonDivisor_48 rfl ?_
              refine wa_callSi C (As := [.ref (ad 57)]) (rest := []) (c_X10_isZero_57 l K ad  _ h) gw_1151 gw_1164 gw_1150 gw_23 q_X10_isZero rfl rfl rfl ⟨by decide, by decide⟩ rfl (Nat.le_of_ble_eq_true rfl) dX10_toCommonDivisor_49 (fun c_34 u9 rc_34 hp => ?_)
              obtain ⟨bc_34, rfl, h⟩ := hp
              replace h := h bc_34
              refine wa_if_ne C (tgt := 124) (inR_b bc_34) dX10_toCommonDivisor_52 (by decide) (fun c_35 => ?_) (fun c_35 => ?_)
              · replace h := h.1 c_35
                refine wa_sub C [0, 2] rfl ?_
                exact k_20 h
              · replace h := h.2 c_35
                refine wa_aload_n C 0 rfl dX10_toCommonDivisor_55 rfl ?_
                refine wa_iconst C (z := 0) dX10_toCommonDivisor_56 rfl ?_
                refine wa_lald C 56 dW_56 dX10_toCommonDivisor_57 (by decide) (by decide) (fun v_36 ev_36 => ?_)
                replace h := h v_36 ev_36
                refine wa_lconst C (v := 1) dX10_toCommonDivisor_58 rfl ?_
                refine wa_land C dX10_toCommonDivisor_59 ?_
                refine wa_lconst C (v := 0) dX10_toCommonDivisor_60 rfl ?_
                refine wa_lcmp C dX10_toCommonDivisor_61 ?_
                obtain ⟨J_37, h, hJ_37⟩ := h
                have k_38 : ∀ (Q_divisor_39 : Int → Int64) (Q_spare_40 : Int → Int64), J_37 Q_divisor_39 Q_spare_40 → WA p l e ({ frames := 4, cells := 0, slots := 0, locals := 240 } : Room) s m args below meth c 0 0 Q K ad 4 A 118 [(0, .ref (ad 56)), (1, .ref (ad 57)), (2, .int (iI x2_6)), (3, .int (iI x3_16))] [] (dW D_hasBoard D_beganBlank F_mines F_moves F_changes G_width G_height G_size B_parts B_longest S_groups S_askedGroup S_taken R_waitingCount R_metCount A_grade A_cell A_mined A_withTotal A_numbers X_low X_high Y_low Y_high F_mined F_number F_state F_cellsIn F_unknownNear F_hitNear F_moveStart F_changed F_waiting F_seen G_near G_nearEnd B_chosen B_partOf B_rest B_unknowns B_partStart B_cells S_minedSet S_safeSet S_partSet S_tally S_askedTally S_groupOf S_groupSize S_links S_linkEnd S_pick S_groupMinedSet S_groupSafeSet O_sums O_nextSums R_found R_openEnds R_need R_waiting R_waits R_common R_met A_number Q_mined Q_all Q_choices Q_term Q_divisor_39 Q_spare_40 X_limbs X_sum Y_limbs Y_sum) := by
                  intro Q_divisor_39 Q_spare_40 h
                  replace h := hJ_37 Q_divisor_39 Q_spare_40 h
                  obtain ⟨r_41, h⟩ := h
                  refine wa_iinc C (lv' := fun w9 => [(3, .int (iI w9)), (0, .ref (ad 56)), (1, .ref (ad 57)), (2, .int (iI x2_6))]) 3 rfl dX10_toCommonDivisor_118 (by decide) (fun _ => rfl) (fun x3_42 ex3_42 => ?_)
                  replace h := h x3_42 ex3_42
                  have rx3_42 : inR x3_42 := by rw [ex3_42]; exact r_41
                  refine wa_goto C (tgt := 41) dX10_toCommonDivisor_121 (by decide) ?_
                  obtain ⟨n_43, ln_43, h⟩ := h
                  refine wa_sub C [1, 2, 3, 0] rfl ?_
                  exact ih_14 n_43 ln_43 x3_42 Q_divisor_39 Q_spare_40 rx3_42 h
                refine wa_if_ne C (tgt := 76) (lcI_r _ _) dX10_toCommonDivisor_62 (by decide) (fun c_44 => ?_) (fun c_44 => ?_)
                · replace h := h.1 c_44
                  refine wa_aload_n C 1 rfl dX10_toCommonDivisor_76 rfl ?_
                  refine wa_iconst C (z := 0) dX10_toCommonDivisor_77 rfl ?_
                  refine wa_lald C 57 dW_57 dX10_toCommonDivisor_78 (by decide) (by decide) (fun v_45 ev_45 => ?_)
                  replace h := h v_45 ev_45
                  refine wa_lconst C (v := 1) dX10_toCommonDivisor_79 rfl ?_
                  refine wa_land C dX10_toCommonDivisor_80 ?_
                  refine wa_lconst C (v := 0) dX10_toCommonDivisor_81 rfl ?_
                  refine wa_lcmp C dX10_toCommonDivisor_82 ?_
                  refine wa_if_ne C (tgt := 97) (lcI_r _ _) dX10_toCommonDivisor_83 (by decide) (fun c_46 => ?_) (fun c_46 => ?_)
                  · replace h := h.1 c_46
                    refine wa_aload_n C 1 rfl dX10_toCommonDivisor_97 rfl ?_
                    refine wa_aload_n C 0 rfl dX10_toCommonDivisor_98 rfl ?_
                    refine wa_callSi C (As := [.ref (ad 57), .ref (ad 56)]) (rest := []) (c_X10_isLess_57_56 l K ad  _ h) gw_1177 gw_1175 gw_1176 gw_23 q_X10_isLess rfl rfl rfl ⟨by decide, by decide⟩ rfl (Nat.le_of_ble_eq_true rfl) dX10_toCommonDivisor_99 (fun c_47 u9 rc_47 hp => ?_)
                    obtain ⟨bc_47, rfl, h⟩ := hp
                    replace h := h bc_47
                    refine wa_if_eq C (tgt := 113) (inR_b bc_47) dX10_toCommonDivisor_102 (by decide) (fun c_48 => ?_) (fun c_48 => ?_)
                    · replace h := h.1 c_48
                      refine wa_aload_n C 1 rfl dX10_toCommonDivisor_113 rfl ?_
                      refine wa_aload_n C 0 rfl dX10_toCommonDivisor_114 rfl ?_
                      refine wa_callSv C (As := [.ref (ad 57), .ref (ad 56)]) (rest := []) (c_X10_subtract_57_56 l K ad  _ h) gw_1180 gw_1178 gw_1179 gw_23 q_X10_subtract rfl rfl rfl ⟨by decide, by decide⟩ rfl (Nat.le_of_ble_eq_true rfl) dX10_toCommonDivisor_115 (fun u9 hp => ?_)
                      obtain ⟨Q_spare_49, rfl, h⟩ := hp
                      refine wa_sub C [0, 1, 2, 3] rfl ?_
                      exact k_38 Q_divisor_17 Q_spare_49 h
                    · replace h := h.2 c_48
                      refine wa_aload_n C 0 rfl dX10_toCommonDivisor_105 rfl ?_
                      refine wa_aload_n C 1 rfl dX10_toCommonDivisor_106 rfl ?_
                      refine wa_callSv C (As := [.ref (ad 56), .ref (ad 57)]) (rest := []) (c_X10_subtract_56_57 l K ad  _ h) gw_1180 gw_1178 gw_1179 gw_23 q_X10_subtract rfl rfl rfl ⟨by decide, by decide⟩ rfl (Nat.le_of_ble_eq_true rfl) dX10_toCommonDivisor_107 (fun u9 hp => ?_)
                      obtain ⟨Q_divisor_50, rfl, h⟩ := hp
                      refine wa_goto C (tgt := 118) dX10_toCommonDivisor_110 (by decide) ?_
                      refine wa_sub C [0, 1, 2, 3] rfl ?_
                      exact k_38 Q_divisor_50 Q_spare_18 h
                  · replace h := h.2 c_46
                    refine wa_aload_n C 1 rfl dX10_toCommonDivisor_86 rfl ?_
                    refine wa_aload_n C 1 rfl dX10_toCommonDivisor_87 rfl ?_
                    refine wa_callSi C (As := [.ref (ad 57)]) (rest := [.ref (ad 57)]) (c_X10_twosOf_57 l K ad  _ h) gw_1167 gw_1165 gw_1166 gw_23 q_X10_twosOf rfl rfl rfl ⟨by decide, by decide⟩ rfl (Nat.le_of_ble_eq_true rfl) dX10_toCommonDivisor_88 (fun c_51 u9 rc_51 hp => ?_)
                    obtain ⟨rfl, h⟩ := hp
                    replace h := h rc_51
                    refine wa_callSv C (As := [.ref (ad 57), .int (iI c_51)]) (rest := []) (c_X10_shiftDown_57 l K ad c_51 rc_51 _ h) gw_1163 gw_1161 gw_1162 gw_23 q_X10_shiftDown rfl rfl rfl ⟨by decide, by decide⟩ rfl (Nat.le_of_ble_eq_true rfl) dX10_toCommonDivisor_91 (fun u9 hp => ?_)
                    obtain ⟨Q_spare_52, rfl, h⟩ := hp
                    refine wa_goto C (tgt := 118) dX10_toCommonDivisor_94 (by decide) ?_
                    refine wa_sub C [0, 1, 2, 3] rfl ?_
                    exact k_38 Q_divisor_17 Q_spare_52 h
                · replace h := h.2 c_44
                  refine wa_aload_n C 0 rfl dX10_toCommonDivisor_65 rfl ?_
                  refine wa_aload_n C 0 rfl dX10_toCommonDivisor_66 rfl ?_
                  refine wa_callSi C (As := [.ref (ad 56)]) (rest := [.ref (ad 56)]) (c_X10_twosOf_56 l K ad  _ h) gw_1167 gw_1165 gw_1166 gw_23 q_X10_twosOf rfl rfl rfl ⟨by decide, by decide⟩ rfl (Nat.le_of_ble_eq_true rfl) dX10_toCommonDivisor_67 (fun c_53 u9 rc_53 hp => ?_)
                  obtain ⟨rfl, h⟩ := hp
                  replace h := h rc_53
                  refine wa_callSv C (As := [.ref (ad 56), .int (iI c_53)]) (rest := []) (c_X10_shiftDown_56 l K ad c_53 rc_53 _ h) gw_1163 gw_1161 gw_1162 gw_23 q_X10_shiftDown rfl rfl rfl ⟨by decide, by decide⟩ rfl (Nat.le_of_ble_eq_true rfl) dX10_toCommonDivisor_70 (fun u9 hp => ?_)
                  obtain ⟨Q_divisor_54, rfl, h⟩ := hp
                  refine wa_goto C (tgt := 118) dX10_toCommonDivisor_73 (by decide) ?_
                  refine wa_sub C [0, 1, 2, 3] rfl ?_
                  exact k_38 Q_divisor_54 Q_spare_18 h
        refine wa_sub C [1, 2, 3, 0] rfl ?_
        exact k_15 n_12 0 Q_divisor_7 Q_spare_8 (inR_k 0 rfl) h0Inv_11
      refine wa_icmp_ge C (tgt := 39) rx2_6 (inR_k 186 rfl) dX10_toCommonDivisor_6 (by decide) (fun c_55 => ?_) (fun c_55 => ?_)
      · replace h := h.1 c_55
        refine wa_sub C [0, 1, 2] rfl ?_
        exact k_10 h
      · replace h := h.2 c_55
        refine wa_aload_n C 0 rfl dX10_toCommonDivisor_9 rfl ?_
        refine wa_iconst C (z := 0) dX10_toCommonDivisor_10 rfl ?_
        refine wa_lald C 56 dW_56 dX10_toCommonDivisor_11 (by decide) (by decide) (fun v_56 ev_56 => ?_)
        replace h := h v_56 ev_56
        refine wa_aload_n C 1 rfl dX10_toCommonDivisor_12 rfl ?_
        refine wa_iconst C (z := 0) dX10_toCommonDivisor_13 rfl ?_
        refine wa_lald C 57 dW_57 dX10_toCommonDivisor_14 (by decide) (by decide) (fun v_57 ev_57 => ?_)
        replace h := h v_57 ev_57
        refine wa_lor C dX10_toCommonDivisor_15 ?_
        refine wa_lconst C (v := 1) dX10_toCommonDivisor_16 rfl ?_
        refine wa_land C dX10_toCommonDivisor_17 ?_
        refine wa_lconst C (v := 0) dX10_toCommonDivisor_18 rfl ?_
        refine wa_lcmp C dX10_toCommonDivisor_19 ?_
        refine wa_if_ne C (tgt := 39) (lcI_r _ _) dX10_toCommonDivisor_20 (by decide) (fun c_58 => ?_) (fun c_58 => ?_)
        · replace h := h.1 c_58
          refine wa_sub C [0, 1, 2] rfl ?_
          exact k_10 h
        · replace h := h.2 c_58
          refine wa_aload_n C 0 rfl dX10_toCommonDivisor_23 rfl ?_
          refine wa_iconst C (z := 1) dX10_toCommonDivisor_24 rfl ?_
          refine wa_callSv C (As := [.ref (ad 56), .int (iI 1)]) (rest := []) (c_X10_shiftDown_56 l K ad 1 (inR_k 1 rfl) _ h) gw_1163 gw_1161 gw_1162 gw_23 q_X10_shiftDown rfl rfl rfl ⟨by decide, by decide⟩ rfl (Nat.le_of_ble_eq_true rfl) dX10_toCommonDivisor_25 (fun u9 hp => ?_)
          obtain ⟨Q_divisor_59, rfl, h⟩ := hp
          refine wa_aload_n C 1 rfl dX10_toCommonDivisor_28 rfl ?_
          refine wa_iconst C (z := 1) dX10_toCommonDivisor_29 rfl ?_
          refine wa_callSv C (As := [.ref (ad 57), .int (iI 1)]) (rest := []) (c_X10_shiftDown_57 l K ad 1 (inR_k 1 rfl) _ h) gw_1163 gw_1161 gw_1162 gw_23 q_X10_shiftDown rfl rfl rfl ⟨by decide, by decide⟩ rfl (Nat.le_of_ble_eq_true rfl) dX10_toCommonDivisor_30 (fun u9 hp => ?_)
          obtain ⟨Q_spare_60, rfl, h⟩ := hp
          obtain ⟨r_61, h⟩ := h
          refine wa_iinc C (lv' := fun w9 => [(2, .int (iI w9)), (0, .ref (ad 56)), (1, .ref (ad 57))]) 2 rfl dX10_toCommonDivisor_33 (by decide) (fun _ => rfl) (fun x2_62 ex2_62 => ?_)
          replace h := h x2_62 ex2_62
          have rx2_62 : inR x2_62 := by rw [ex2_62]; exact r_61
          refine wa_goto C (tgt := 2) dX10_toCommonDivisor_36 (by decide) ?_
          obtain ⟨n_63, ln_63, h⟩ := h
          refine wa_sub C [1, 2, 0] rfl ?_
          exact ih_4 n_63 ln_63 x2_62 Q_divisor_59 Q_spare_60 rx2_62 h
  refine wa_sub C [1, 2, 0] rfl ?_
  exact k_5 n_2 0 Q_divisor Q_spare (inR_k 0 rfl) h0Inv_1
def P_J7_fill_d0a16_57 (post : (Int → Int64) → Prop) (Q_spare : Int → Int64) (x1 : Int64) : Prop :=
  ∃ Inv_1 : Nat → (Int) → (Int → Int64) → Prop, (∃ n_2 : Nat, Inv_1 n_2 0 Q_spare) ∧ ∀ (n_3 : Nat) (x3_6 : Int) (Q_spare_7 : Int → Int64), inR x3_6 → Inv_1 n_3 x3_6 Q_spare_7 → ((6 ≤ x3_6 → (post Q_spare_7)) ∧ (¬ 6 ≤ x3_6 → ((0 ≤ x3_6 ∧ x3_6 < 6) ∧ (∀ Q_spare_10 : Int → Int64, Q_spare_10 = upZ Q_spare_7 x3_6 x1 → (inR (x3_6 + 1) ∧ (∀ x3_12 : Int, x3_12 = (x3_6 + 1) → (∃ n_13 : Nat, n_13 < n_3 ∧ Inv_1 n_13 x3_12 Q_spare_10)))))))
set_option maxRecDepth 100000 in
set_option maxHeartbeats 4000000 in
theorem c_J7_fill_d0a16_57 (l : Launch) (K : wK) (ad : Nat → Nat) {D_hasBoard : Int} {D_beganBlank : Int} {F_mines : Int} {F_moves : Int} {F_changes : Int} {G_width : Int} {G_height : Int} {G_size : Int} {B_parts : Int} {B_longest : Int} {S_groups : Int} {S_askedGroup : Int} {S_taken : Int} {R_waitingCount : Int} {R_metCount : Int} {A_grade : Int} {A_cell : Int} {A_mined : Int} {A_withTotal : Int} {A_numbers : Int} {X_low : Int} {X_high : Int} {Y_low : Int} {Y_high : Int} {F_mined : Int → Int} {F_number : Int → Int} {F_state : Int → Int} {F_cellsIn : Int → Int} {F_unknownNear : Int → Int} {F_hitNear : Int → Int} {F_moveStart : Int → Int} {F_changed : Int → Int} {F_waiting : Int → Int} {F_seen : Int → Int} {G_near : Int → Int} {G_nearEnd : Int → Int} {B_chosen : Int → Int} {B_partOf : Int → Int} {B_rest : Int → Int} {B_unknowns : Int → Int} {B_partStart : Int → Int} {B_cells : Int → Int} {S_minedSet : Int → Int} {S_safeSet : Int → Int} {S_partSet : Int → Int} {S_tally : Int → Int} {S_askedTally : Int → Int} {S_groupOf : Int → Int} {S_groupSize : Int → Int} {S_links : Int → Int} {S_linkEnd : Int → Int} {S_pick : Int → Int} {S_groupMinedSet : Int → Int} {S_groupSafeSet : Int → Int} {O_sums : Int → Int64} {O_nextSums : Int → Int64} {R_found : Int → Int} {R_openEnds : Int → Int} {R_need : Int → Int} {R_waiting : Int → Int} {R_waits : Int → Int} {R_common : Int → Int} {R_met : Int → Int} {A_number : Int → Int} {Q_mined : Int → Int64} {Q_all : Int → Int64} {Q_choices : Int → Int64} {Q_term : Int → Int64} {Q_divisor : Int → Int64} {Q_spare : Int → Int64} {X_limbs : Int → Int64} {X_sum : Int → Int64} {Y_limbs : Int → Int64} {Y_sum : Int → Int64} (x1 : Int64)  (post : (Int → Int64) → Prop) (h : P_J7_fill_d0a16_57 post Q_spare x1) : mV l yJ7_fill_d0a16 (Cond.code yJ7_fill_d0a16 cJ7_fill_d0a16 5 none :: GT) ({ frames := 2, cells := 0, slots := 0, locals := 120 } : Room) [.ref (ad 57), .long x1] K ad (dW D_hasBoard D_beganBlank F_mines F_moves F_changes G_width G_height G_size B_parts B_longest S_groups S_askedGroup S_taken R_waitingCount R_metCount A_grade A_cell A_mined A_withTotal A_numbers X_low X_high Y_low Y_high F_mined F_number F_state F_cellsIn F_unknownNear F_hitNear F_moveStart F_changed F_waiting F_seen G_near G_nearEnd B_chosen B_partOf B_rest B_unknowns B_partStart B_cells S_minedSet S_safeSet S_partSet S_tally S_askedTally S_groupOf S_groupSize S_links S_linkEnd S_pick S_groupMinedSet S_groupSafeSet O_sums O_nextSums R_found R_openEnds R_need R_waiting R_waits R_common R_met A_number Q_mined Q_all Q_choices Q_term Q_divisor Q_spare X_limbs X_sum Y_limbs Y_sum) (fun u9 => ∃ Q_spare9, u9 = (dW D_hasBoard D_beganBlank F_mines F_moves F_changes G_width G_height G_size B_parts B_longest S_groups S_askedGroup S_taken R_waitingCount R_metCount A_grade A_cell A_mined A_withTotal A_numbers X_low X_high Y_low Y_high F_mined F_number F_state F_cellsIn F_unknownNear F_hitNear F_moveStart F_changed F_waiting F_seen G_near G_nearEnd B_chosen B_partOf B_rest B_unknowns B_partStart B_cells S_minedSet S_safeSet S_partSet S_tally S_askedTally S_groupOf S_groupSize S_links S_linkEnd S_pick S_groupMinedSet S_groupSafeSet O_sums O_nextSums R_found R_openEnds R_need R_waiting R_waits R_common R_met A_number Q_mined Q_all Q_choices Q_term Q_divisor Q_spare9 X_limbs X_sum Y_limbs Y_sum) ∧ post Q_spare9) := by
  refine mV_of (lv0 := [(0, .ref (ad 57)), (1, .long x1)]) (by decide) (Nat.le_of_ble_eq_true rfl) rfl ?_
  intro p e s m args below meth c Q A C ret
  replace C : Cx p ({ frames := 2, cells := 0, slots := 0, locals := 120 } : Room) m c 0 0 cJ7_fill_d0a16 5 s args RJ7 K A := C
  unfold P_J7_fill_d0a16_57 at h
  refine wa_iconst C (z := 0) dJ7_fill_d0a16_0 rfl ?_
  refine wa_istore_n C dJ7_fill_d0a16_1 rfl (by decide) rfl ?_
  refine wa_aload_n C 1 rfl dJ7_fill_d0a16_2 rfl ?_
  refine wa_alen C (z := 6) 57 dW_57 rfl dJ7_fill_d0a16_3 ?_
  refine wa_istore C dJ7_fill_d0a16_4 (by decide) rfl ?_
  obtain ⟨Inv_1, ⟨n_2, h0Inv_1⟩, hInv_1⟩ := h
  have k_5 : ∀ (n_3 : Nat) (x3_6 : Int) (Q_spare_7 : Int → Int64), inR x3_6 → Inv_1 n_3 x3_6 Q_spare_7 → WA p l e ({ frames := 2, cells := 0, slots := 0, locals := 120 } : Room) s m args below meth c 0 0 Q K ad 5 A 6 [(0, .ref (ad 57)), (1, .long x1), (3, .int (iI x3_6)), (4, .int (iI 6))] [] (dW D_hasBoard D_beganBlank F_mines F_moves F_changes G_width G_height G_size B_parts B_longest S_groups S_askedGroup S_taken R_waitingCount R_metCount A_grade A_cell A_mined A_withTotal A_numbers X_low X_high Y_low Y_high F_mined F_number F_state F_cellsIn F_unknownNear F_hitNear F_moveStart F_changed F_waiting F_seen G_near G_nearEnd B_chosen B_partOf B_rest B_unknowns B_partStart B_cells S_minedSet S_safeSet S_partSet S_tally S_askedTally S_groupOf S_groupSize S_links S_linkEnd S_pick S_groupMinedSet S_groupSafeSet O_sums O_nextSums R_found R_openEnds R_need R_waiting R_waits R_common R_met A_number Q_mined Q_all Q_choices Q_term Q_divisor Q_spare_7 X_limbs X_sum Y_limbs Y_sum) := by
    intro n_3
    induction n_3 using Nat.strongRecOn with
    | ind n_3 ih_4 =>
      intro x3_6 Q_spare_7 rx3_6 h
      replace h := hInv_1 n_3 x3_6 Q_spare_7 rx3_6 h
      refine wa_iload_n C 2 rfl dJ7_fill_d0a16_6 rfl ?_
      refine wa_iload C 3 rfl dJ7_fill_d0a16_7 ?_
      refine wa_icmp_ge C (tgt := 22) rx3_6 (inR_k 6 rfl) dJ7_fill_d0a16_9 (by decide) (fun c_8 => ?_) (fun c_8 => ?_)
      · replace h := h.1 c_8
        exact ret dJ7_fill_d0a16_22 ⟨_, rfl, h⟩
      · replace h := h.2 c_8
        refine wa_aload_n C 0 rfl dJ7_fill_d0a16_12 rfl ?_
        refine wa_iload_n C 2 rfl dJ7_fill_d0a16_13 rfl ?_
        refine wa_lload_n C 1 rfl dJ7_fill_d0a16_14 rfl ?_
        obtain ⟨t_9, h⟩ := h
        refine wa_last C (ws' := fun w9 => (dW D_hasBoard D_beganBlank F_mines F_moves F_changes G_width G_height G_size B_parts B_longest S_groups S_askedGroup S_taken R_waitingCount R_metCount A_grade A_cell A_mined A_withTotal A_numbers X_low X_high Y_low Y_high F_mined F_number F_state F_cellsIn F_unknownNear F_hitNear F_moveStart F_changed F_waiting F_seen G_near G_nearEnd B_chosen B_partOf B_rest B_unknowns B_partStart B_cells S_minedSet S_safeSet S_partSet S_tally S_askedTally S_groupOf S_groupSize S_links S_linkEnd S_pick S_groupMinedSet S_groupSafeSet O_sums O_nextSums R_found R_openEnds R_need R_waiting R_waits R_common R_met A_number Q_mined Q_all Q_choices Q_term Q_divisor w9 X_limbs X_sum Y_limbs Y_sum)) 57 dW_57 dJ7_fill_d0a16_15 t_9.1 t_9.2 dWs_57 (fun Q_spare_10 eQ_spare_10 => ?_)
        replace h := h Q_spare_10 eQ_spare_10
        obtain ⟨r_11, h⟩ := h
        refine wa_iinc C (lv' := fun w9 => [(3, .int (iI w9)), (0, .ref (ad 57)), (1, .long x1), (4, .int (iI 6))]) 2 rfl dJ7_fill_d0a16_16 (by decide) (fun _ => rfl) (fun x3_12 ex3_12 => ?_)
        replace h := h x3_12 ex3_12
        have rx3_12 : inR x3_12 := by rw [ex3_12]; exact r_11
        refine wa_goto C (tgt := 6) dJ7_fill_d0a16_19 (by decide) ?_
        obtain ⟨n_13, ln_13, h⟩ := h
        refine wa_sub C [1, 2, 0, 3] rfl ?_
        exact ih_4 n_13 ln_13 x3_12 Q_spare_10 rx3_12 h
  refine wa_sub C [2, 3, 1, 0] rfl ?_
  exact k_5 n_2 0 Q_spare (inR_k 0 rfl) h0Inv_1
def P_X10_scale_57 (post : (Int → Int64) → Prop) (Q_spare : Int → Int64) (x1 : Int) : Prop :=
  ∃ Inv_1 : Nat → (Int64) → (Int) → (Int → Int64) → Prop, (∃ n_2 : Nat, Inv_1 n_2 (0 : Int64) 0 Q_spare) ∧ ∀ (n_3 : Nat) (x2_6 : Int64) (x4_7 : Int) (Q_spare_8 : Int → Int64), inR x4_7 → Inv_1 n_3 x2_6 x4_7 Q_spare_8 → ((6 ≤ x4_7 → (post Q_spare_8)) ∧ (¬ 6 ≤ x4_7 → ((0 ≤ x4_7 ∧ x4_7 < 6) ∧ (∀ v_11 : Int64, v_11 = Q_spare_8 x4_7 → (∀ x2_12 : Int64, x2_12 = (x2_6 + (v_11 * (Int64.ofInt x1))) → ((0 ≤ x4_7 ∧ x4_7 < 6) ∧ (∀ Q_spare_14 : Int → Int64, Q_spare_14 = upZ Q_spare_8 x4_7 (x2_12 &&& (2147483647 : Int64)) → (∀ x2_15 : Int64, x2_15 = (ushrL x2_12 31) → (inR (x4_7 + 1) ∧ (∀ x4_17 : Int, x4_17 = (x4_7 + 1) → (∃ n_18 : Nat, n_18 < n_3 ∧ Inv_1 n_18 x2_15 x4_17 Q_spare_14)))))))))))
set_option maxRecDepth 100000 in
set_option maxHeartbeats 4000000 in
theorem c_X10_scale_57 (l : Launch) (K : wK) (ad : Nat → Nat) {D_hasBoard : Int} {D_beganBlank : Int} {F_mines : Int} {F_moves : Int} {F_changes : Int} {G_width : Int} {G_height : Int} {G_size : Int} {B_parts : Int} {B_longest : Int} {S_groups : Int} {S_askedGroup : Int} {S_taken : Int} {R_waitingCount : Int} {R_metCount : Int} {A_grade : Int} {A_cell : Int} {A_mined : Int} {A_withTotal : Int} {A_numbers : Int} {X_low : Int} {X_high : Int} {Y_low : Int} {Y_high : Int} {F_mined : Int → Int} {F_number : Int → Int} {F_state : Int → Int} {F_cellsIn : Int → Int} {F_unknownNear : Int → Int} {F_hitNear : Int → Int} {F_moveStart : Int → Int} {F_changed : Int → Int} {F_waiting : Int → Int} {F_seen : Int → Int} {G_near : Int → Int} {G_nearEnd : Int → Int} {B_chosen : Int → Int} {B_partOf : Int → Int} {B_rest : Int → Int} {B_unknowns : Int → Int} {B_partStart : Int → Int} {B_cells : Int → Int} {S_minedSet : Int → Int} {S_safeSet : Int → Int} {S_partSet : Int → Int} {S_tally : Int → Int} {S_askedTally : Int → Int} {S_groupOf : Int → Int} {S_groupSize : Int → Int} {S_links : Int → Int} {S_linkEnd : Int → Int} {S_pick : Int → Int} {S_groupMinedSet : Int → Int} {S_groupSafeSet : Int → Int} {O_sums : Int → Int64} {O_nextSums : Int → Int64} {R_found : Int → Int} {R_openEnds : Int → Int} {R_need : Int → Int} {R_waiting : Int → Int} {R_waits : Int → Int} {R_common : Int → Int} {R_met : Int → Int} {A_number : Int → Int} {Q_mined : Int → Int64} {Q_all : Int → Int64} {Q_choices : Int → Int64} {Q_term : Int → Int64} {Q_divisor : Int → Int64} {Q_spare : Int → Int64} {X_limbs : Int → Int64} {X_sum : Int → Int64} {Y_limbs : Int → Int64} {Y_sum : Int → Int64} (x1 : Int) (rx1 : inR x1) (post : (Int → Int64) → Prop) (h : P_X10_scale_57 post Q_spare x1) : mV l yX10_scale (Cond.code yX10_scale cX10_scale 5 none :: GT) ({ frames := 2, cells := 0, slots := 0, locals := 120 } : Room) [.ref (ad 57), .int (iI x1)] K ad (dW D_hasBoard D_beganBlank F_mines F_moves F_changes G_width G_height G_size B_parts B_longest S_groups S_askedGroup S_taken R_waitingCount R_metCount A_grade A_cell A_mined A_withTotal A_numbers X_low X_high Y_low Y_high F_mined F_number F_state F_cellsIn F_unknownNear F_hitNear F_moveStart F_changed F_waiting F_seen G_near G_nearEnd B_chosen B_partOf B_rest B_unknowns B_partStart B_cells S_minedSet S_safeSet S_partSet S_tally S_askedTally S_groupOf S_groupSize S_links S_linkEnd S_pick S_groupMinedSet S_groupSafeSet O_sums O_nextSums R_found R_openEnds R_need R_waiting R_waits R_common R_met A_number Q_mined Q_all Q_choices Q_term Q_divisor Q_spare X_limbs X_sum Y_limbs Y_sum) (fun u9 => ∃ Q_spare9, u9 = (dW D_hasBoard D_beganBlank F_mines F_moves F_changes G_width G_height G_size B_parts B_longest S_groups S_askedGroup S_taken R_waitingCount R_metCount A_grade A_cell A_mined A_withTotal A_numbers X_low X_high Y_low Y_high F_mined F_number F_state F_cellsIn F_unknownNear F_hitNear F_moveStart F_changed F_waiting F_seen G_near G_nearEnd B_chosen B_partOf B_rest B_unknowns B_partStart B_cells S_minedSet S_safeSet S_partSet S_tally S_askedTally S_groupOf S_groupSize S_links S_linkEnd S_pick S_groupMinedSet S_groupSafeSet O_sums O_nextSums R_found R_openEnds R_need R_waiting R_waits R_common R_met A_number Q_mined Q_all Q_choices Q_term Q_divisor Q_spare9 X_limbs X_sum Y_limbs Y_sum) ∧ post Q_spare9) := by
  refine mV_of (lv0 := [(0, .ref (ad 57)), (1, .int (iI x1))]) (by decide) (Nat.le_of_ble_eq_true rfl) rfl ?_
  intro p e s m args below meth c Q A C ret
  replace C : Cx p ({ frames := 2, cells := 0, slots := 0, locals := 120 } : Room) m c 0 0 cX10_scale 5 s args RX10 K A := C
  unfold P_X10_scale_57 at h
  refine wa_lconst C (v := 0) dX10_scale_0 rfl ?_
  refine wa_lstore_n C dX10_scale_1 rfl (by decide) rfl ?_
  refine wa_iconst C (z := 0) dX10_scale_2 rfl ?_
  refine wa_istore C dX10_scale_3 (by decide) rfl ?_
  obtain ⟨Inv_1, ⟨n_2, h0Inv_1⟩, hInv_1⟩ := h
  have k_5 : ∀ (n_3 : Nat) (x2_6 : Int64) (x4_7 : Int) (Q_spare_8 : Int → Int64), inR x4_7 → Inv_1 n_3 x2_6 x4_7 Q_spare_8 → WA p l e ({ frames := 2, cells := 0, slots := 0, locals := 120 } : Room) s m args below meth c 0 0 Q K ad 5 A 5 [(0, .ref (ad 57)), (1, .int (iI x1)), (2, .long x2_6), (4, .int (iI x4_7))] [] (dW D_hasBoard D_beganBlank F_mines F_moves F_changes G_width G_height G_size B_parts B_longest S_groups S_askedGroup S_taken R_waitingCount R_metCount A_grade A_cell A_mined A_withTotal A_numbers X_low X_high Y_low Y_high F_mined F_number F_state F_cellsIn F_unknownNear F_hitNear F_moveStart F_changed F_waiting F_seen G_near G_nearEnd B_chosen B_partOf B_rest B_unknowns B_partStart B_cells S_minedSet S_safeSet S_partSet S_tally S_askedTally S_groupOf S_groupSize S_links S_linkEnd S_pick S_groupMinedSet S_groupSafeSet O_sums O_nextSums R_found R_openEnds R_need R_waiting R_waits R_common R_met A_number Q_mined Q_all Q_choices Q_term Q_divisor Q_spare_8 X_limbs X_sum Y_limbs Y_sum) := by
    intro n_3
    induction n_3 using Nat.strongRecOn with
    | ind n_3 ih_4 =>
      intro x2_6 x4_7 Q_spare_8 rx4_7 h
      replace h := hInv_1 n_3 x2_6 x4_7 Q_spare_8 rx4_7 h
      refine wa_iload C 3 rfl dX10_scale_5 ?_
      refine wa_bipush C (z := 6) dX10_scale_7 (by decide) ?_
      refine wa_icmp_ge C (tgt := 42) rx4_7 (inR_k 6 rfl) dX10_scale_9 (by decide) (fun c_9 => ?_) (fun c_9 => ?_)
      · replace h := h.1 c_9
        exact ret dX10_scale_42 ⟨_, rfl, h⟩
      · replace h := h.2 c_9
        refine wa_lload_n C 2 rfl dX10_scale_12 rfl ?_
        refine wa_aload_n C 0 rfl dX10_scale_13 rfl ?_
        refine wa_iload C 3 rfl dX10_scale_14 ?_
        obtain ⟨t_10, h⟩ := h
        refine wa_lald C 57 dW_57 dX10_scale_16 t_10.1 t_10.2 (fun v_11 ev_11 => ?_)
        replace h := h v_11 ev_11
        refine wa_iload_n C 1 rfl dX10_scale_17 rfl ?_
        refine wa_i2l C rx1 dX10_scale_18 ?_
        refine wa_lmul C dX10_scale_19 ?_
        refine wa_ladd C dX10_scale_20 ?_
        refine wa_nml (fun x2_12 ex2_12 => ?_)
        replace h := h x2_12 ex2_12
        refine wa_lstore_n C dX10_scale_21 rfl (by decide) rfl ?_
        refine wa_aload_n C 1 rfl dX10_scale_22 rfl ?_
        refine wa_iload C 3 rfl dX10_scale_23 ?_
        refine wa_lload_n C 0 rfl dX10_scale_25 rfl ?_
        refine wa_ldc2 C gw_1108 dX10_scale_26 ?_
        refine wa_land C dX10_scale_29 ?_
        obtain ⟨t_13, h⟩ := h
        refine wa_last C (ws' := fun w9 => (dW D_hasBoard D_beganBlank F_mines F_moves F_changes G_width G_height G_size B_parts B_longest S_groups S_askedGroup S_taken R_waitingCount R_metCount A_grade A_cell A_mined A_withTotal A_numbers X_low X_high Y_low Y_high F_mined F_number F_state F_cellsIn F_unknownNear F_hitNear F_moveStart F_changed F_waiting F_seen G_near G_nearEnd B_chosen B_partOf B_rest B_unknowns B_partStart B_cells S_minedSet S_safeSet S_partSet S_tally S_askedTally S_groupOf S_groupSize S_links S_linkEnd S_pick S_groupMinedSet S_groupSafeSet O_sums O_nextSums R_found R_openEnds R_need R_waiting R_waits R_common R_met A_number Q_mined Q_all Q_choices Q_term Q_divisor w9 X_limbs X_sum Y_limbs Y_sum)) 57 dW_57 dX10_scale_30 t_13.1 t_13.2 dWs_57 (fun Q_spare_14 eQ_spare_14 => ?_)
        replace h := h Q_spare_14 eQ_spare_14
        refine wa_lload_n C 0 rfl dX10_scale_31 rfl ?_
        refine wa_bipush C (z := 31) dX10_scale_32 (by decide) ?_
        refine wa_lushr C dX10_scale_34 ?_
        refine wa_nml (fun x2_15 ex2_15 => ?_)
        replace h := h x2_15 ex2_15
        refine wa_lstore_n C dX10_scale_35 rfl (by decide) rfl ?_
        obtain ⟨r_16, h⟩ := h
        refine wa_iinc C (lv' := fun w9 => [(4, .int (iI w9)), (2, .long x2_15), (0, .ref (ad 57)), (1, .int (iI x1))]) 3 rfl dX10_scale_36 (by decide) (fun _ => rfl) (fun x4_17 ex4_17 => ?_)
        replace h := h x4_17 ex4_17
        have rx4_17 : inR x4_17 := by rw [ex4_17]; exact r_16
        refine wa_goto C (tgt := 5) dX10_scale_39 (by decide) ?_
        obtain ⟨n_18, ln_18, h⟩ := h
        refine wa_sub C [2, 3, 1, 0] rfl ?_
        exact ih_4 n_18 ln_18 x2_15 x4_17 Q_spare_14 rx4_17 h
  refine wa_sub C [2, 3, 1, 0] rfl ?_
  exact k_5 n_2 (0 : Int64) 0 Q_spare (inR_k 0 rfl) h0Inv_1
def P_X10_divide_52_56_55_57 (post : (Int → Int64) → (Int → Int64) → Prop) (Q_mined : Int → Int64) (Q_term : Int → Int64) (Q_divisor : Int → Int64) (Q_spare : Int → Int64) : Prop :=
  P_J7_fill_d0a16_55 (fun (Q_term_1 : Int → Int64) => (P_J7_fill_d0a16_57 (fun (Q_spare_2 : Int → Int64) => (∃ Inv_3 : Nat → (Int) → (Int → Int64) → (Int → Int64) → Prop, (∃ n_4 : Nat, Inv_3 n_4 185 Q_term_1 Q_spare_2) ∧ ∀ (n_5 : Nat) (x4_8 : Int) (Q_term_9 : Int → Int64) (Q_spare_10 : Int → Int64), inR x4_8 → Inv_3 n_5 x4_8 Q_term_9 Q_spare_10 → ((x4_8 < 0 → (post Q_term_9 Q_spare_10)) ∧ (¬ x4_8 < 0 → (inR (x4_8.tdiv 31) ∧ (∀ x5_13 : Int, x5_13 = (x4_8.tdiv 31) → (P_X10_scale_57 (fun (Q_spare_14 : Int → Int64) => (∀ v_15 : Int64, v_15 = Q_spare_14 0 → ((0 ≤ x5_13 ∧ x5_13 < 6) ∧ (∀ v_17 : Int64, v_17 = Q_mined x5_13 → (∀ Q_spare_18 : Int → Int64, Q_spare_18 = upZ Q_spare_14 0 (v_15 ||| ((shrL v_17 (x4_8.tmod 31)) &&& (1 : Int64))) → (P_X10_isLess_57_56 (fun (c_19 : Int) => (c_19 = 0 ∨ c_19 = 1) → (∃ J_20 : (Int → Int64) → (Int → Int64) → Prop, ((¬ c_19 = 0 → (J_20 Q_term_9 Q_spare_18)) ∧ (c_19 = 0 → (P_X10_subtract_57_56 (fun (Q_spare_28 : Int → Int64) => ((0 ≤ x5_13 ∧ x5_13 < 6) ∧ (∀ v_30 : Int64, v_30 = Q_term_9 x5_13 → ((0 ≤ x5_13 ∧ x5_13 < 6) ∧ (∀ Q_term_32 : Int → Int64, Q_term_32 = upZ Q_term_9 x5_13 (v_30 ||| (shlL (1 : Int64) (x4_8.tmod 31))) → (J_20 Q_term_32 Q_spare_28)))))) Q_divisor Q_spare_18 ))) ∧ (∀ (Q_term_22 : Int → Int64) (Q_spare_23 : Int → Int64), J_20 Q_term_22 Q_spare_23 → (inR (x4_8 + (-1)) ∧ (∀ x4_25 : Int, x4_25 = (x4_8 + (-1)) → (∃ n_26 : Nat, n_26 < n_5 ∧ Inv_3 n_26 x4_25 Q_term_22 Q_spare_23)))))) Q_divisor Q_spare_18 )))))) Q_spare_10 2))))))) Q_spare (0 : Int64))) Q_term (0 : Int64)
set_option maxRecDepth 100000 in
set_option maxHeartbeats 4000000 in
theorem c_X10_divide_52_56_55_57 (l : Launch) (K : wK) (ad : Nat → Nat) {D_hasBoard : Int} {D_beganBlank : Int} {F_mines : Int} {F_moves : Int} {F_changes : Int} {G_width : Int} {G_height : Int} {G_size : Int} {B_parts : Int} {B_longest : Int} {S_groups : Int} {S_askedGroup : Int} {S_taken : Int} {R_waitingCount : Int} {R_metCount : Int} {A_grade : Int} {A_cell : Int} {A_mined : Int} {A_withTotal : Int} {A_numbers : Int} {X_low : Int} {X_high : Int} {Y_low : Int} {Y_high : Int} {F_mined : Int → Int} {F_number : Int → Int} {F_state : Int → Int} {F_cellsIn : Int → Int} {F_unknownNear : Int → Int} {F_hitNear : Int → Int} {F_moveStart : Int → Int} {F_changed : Int → Int} {F_waiting : Int → Int} {F_seen : Int → Int} {G_near : Int → Int} {G_nearEnd : Int → Int} {B_chosen : Int → Int} {B_partOf : Int → Int} {B_rest : Int → Int} {B_unknowns : Int → Int} {B_partStart : Int → Int} {B_cells : Int → Int} {S_minedSet : Int → Int} {S_safeSet : Int → Int} {S_partSet : Int → Int} {S_tally : Int → Int} {S_askedTally : Int → Int} {S_groupOf : Int → Int} {S_groupSize : Int → Int} {S_links : Int → Int} {S_linkEnd : Int → Int} {S_pick : Int → Int} {S_groupMinedSet : Int → Int} {S_groupSafeSet : Int → Int} {O_sums : Int → Int64} {O_nextSums : Int → Int64} {R_found : Int → Int} {R_openEnds : Int → Int} {R_need : Int → Int} {R_waiting : Int → Int} {R_waits : Int → Int} {R_common : Int → Int} {R_met : Int → Int} {A_number : Int → Int} {Q_mined : Int → Int64} {Q_all : Int → Int64} {Q_choices : Int → Int64} {Q_term : Int → Int64} {Q_divisor : Int → Int64} {Q_spare : Int → Int64} {X_limbs : Int → Int64} {X_sum : Int → Int64} {Y_limbs : Int → Int64} {Y_sum : Int → Int64}   (post : (Int → Int64) → (Int → Int64) → Prop) (h : P_X10_divide_52_56_55_57 post Q_mined Q_term Q_divisor Q_spare) : mV l yX10_divide (Cond.code yX10_divide cX10_divide 6 none :: GT) ({ frames := 3, cells := 0, slots := 0, locals := 180 } : Room) [.ref (ad 52), .ref (ad 56), .ref (ad 55), .ref (ad 57)] K ad (dW D_hasBoard D_beganBlank F_mines F_moves F_changes G_width G_height G_size B_parts B_longest S_groups S_askedGroup S_taken R_waitingCount R_metCount A_grade A_cell A_mined A_withTotal A_numbers X_low X_high Y_low Y_high F_mined F_number F_state F_cellsIn F_unknownNear F_hitNear F_moveStart F_changed F_waiting F_seen G_near G_nearEnd B_chosen B_partOf B_rest B_unknowns B_partStart B_cells S_minedSet S_safeSet S_partSet S_tally S_askedTally S_groupOf S_groupSize S_links S_linkEnd S_pick S_groupMinedSet S_groupSafeSet O_sums O_nextSums R_found R_openEnds R_need R_waiting R_waits R_common R_met A_number Q_mined Q_all Q_choices Q_term Q_divisor Q_spare X_limbs X_sum Y_limbs Y_sum) (fun u9 => ∃ Q_term9 Q_spare9, u9 = (dW D_hasBoard D_beganBlank F_mines F_moves F_changes G_width G_height G_size B_parts B_longest S_groups S_askedGroup S_taken R_waitingCount R_metCount A_grade A_cell A_mined A_withTotal A_numbers X_low X_high Y_low Y_high F_mined F_number F_state F_cellsIn F_unknownNear F_hitNear F_moveStart F_changed F_waiting F_seen G_near G_nearEnd B_chosen B_partOf B_rest B_unknowns B_partStart B_cells S_minedSet S_safeSet S_partSet S_tally S_askedTally S_groupOf S_groupSize S_links S_linkEnd S_pick S_groupMinedSet S_groupSafeSet O_sums O_nextSums R_found R_openEnds R_need R_waiting R_waits R_common R_met A_number Q_mined Q_all Q_choices Q_term9 Q_divisor Q_spare9 X_limbs X_sum Y_limbs Y_sum) ∧ post Q_term9 Q_spare9) := by
  refine mV_of (lv0 := [(0, .ref (ad 52)), (1, .ref (ad 56)), (2, .ref (ad 55)), (3, .ref (ad 57))]) (by decide) (Nat.le_of_ble_eq_true rfl) rfl ?_
  intro p e s m args below meth c Q A C ret
  replace C : Cx p ({ frames := 3, cells := 0, slots := 0, locals := 180 } : Room) m c 0 0 cX10_divide 6 s args RX10 K A := C
  unfold P_X10_divide_52_56_55_57 at h
  refine wa_aload_n C 2 rfl dX10_divide_0 rfl ?_
  refine wa_lconst C (v := 0) dX10_divide_1 rfl ?_
  refine wa_callSv C (As := [.ref (ad 55), .long (0 : Int64)]) (rest := []) (c_J7_fill_d0a16_55 l K ad (0 : Int64) _ h) gw_822 gw_1094 gw_821 gw_17 q_J7_fill_d0a16 rfl rfl rfl ⟨by decide, by decide⟩ rfl (Nat.le_of_ble_eq_true rfl) dX10_divide_2 (fun u9 hp => ?_)
  obtain ⟨Q_term_1, rfl, h⟩ := hp
  refine wa_aload_n C 3 rfl dX10_divide_5 rfl ?_
  refine wa_lconst C (v := 0) dX10_divide_6 rfl ?_
  refine wa_callSv C (As := [.ref (ad 57), .long (0 : Int64)]) (rest := []) (c_J7_fill_d0a16_57 l K ad (0 : Int64) _ h) gw_822 gw_1094 gw_821 gw_17 q_J7_fill_d0a16 rfl rfl rfl ⟨by decide, by decide⟩ rfl (Nat.le_of_ble_eq_true rfl) dX10_divide_7 (fun u9 hp => ?_)
  obtain ⟨Q_spare_2, rfl, h⟩ := hp
  refine wa_sipush C (z := 185) dX10_divide_10 (by decide) ?_
  refine wa_istore C dX10_divide_13 (by decide) rfl ?_
  obtain ⟨Inv_3, ⟨n_4, h0Inv_3⟩, hInv_3⟩ := h
  have k_7 : ∀ (n_5 : Nat) (x4_8 : Int) (Q_term_9 : Int → Int64) (Q_spare_10 : Int → Int64), inR x4_8 → Inv_3 n_5 x4_8 Q_term_9 Q_spare_10 → WA p l e ({ frames := 3, cells := 0, slots := 0, locals := 180 } : Room) s m args below meth c 0 0 Q K ad 6 A 15 [(0, .ref (ad 52)), (1, .ref (ad 56)), (2, .ref (ad 55)), (3, .ref (ad 57)), (4, .int (iI x4_8))] [] (dW D_hasBoard D_beganBlank F_mines F_moves F_changes G_width G_height G_size B_parts B_longest S_groups S_askedGroup S_taken R_waitingCount R_metCount A_grade A_cell A_mined A_withTotal A_numbers X_low X_high Y_low Y_high F_mined F_number F_state F_cellsIn F_unknownNear F_hitNear F_moveStart F_changed F_waiting F_seen G_near G_nearEnd B_chosen B_partOf B_rest B_unknowns B_partStart B_cells S_minedSet S_safeSet S_partSet S_tally S_askedTally S_groupOf S_groupSize S_links S_linkEnd S_pick S_groupMinedSet S_groupSafeSet O_sums O_nextSums R_found R_openEnds R_need R_waiting R_waits R_common R_met A_number Q_mined Q_all Q_choices Q_term_9 Q_divisor Q_spare_10 X_limbs X_sum Y_limbs Y_sum) := by
    intro n_5
    induction n_5 using Nat.strongRecOn with
    | ind n_5 ih_6 =>
      intro x4_8 Q_term_9 Q_spare_10 rx4_8 h
      replace h := hInv_3 n_5 x4_8 Q_term_9 Q_spare_10 rx4_8 h
      refine wa_iload C 4 rfl dX10_divide_15 ?_
      refine wa_if_lt C (tgt := 83) rx4_8 dX10_divide_17 (by decide) (fun c_11 => ?_) (fun c_11 => ?_)
      · replace h := h.1 c_11
        exact ret dX10_divide_83 ⟨_, _, rfl, h⟩
      · replace h := h.2 c_11
        refine wa_iload C 4 rfl dX10_divide_20 ?_
        refine wa_bipush C (z := 31) dX10_divide_22 (by decide) ?_
        refine wa_idiv C dX10_divide_24 rx4_8 (inR_k 31 rfl) (by decide) ?_
        obtain ⟨r_12, h⟩ := h
        refine wa_nmi (fun x5_13 ex5_13 => ?_)
        replace h := h x5_13 ex5_13
        have rx5_13 : inR x5_13 := by rw [ex5_13]; exact r_12
        refine wa_istore C dX10_divide_25 (by decide) rfl ?_
        refine wa_aload_n C 4 rfl dX10_divide_27 rfl ?_
        refine wa_iconst C (z := 2) dX10_divide_28 rfl ?_
        refine wa_callSv C (As := [.ref (ad 57), .int (iI 2)]) (rest := []) (c_X10_scale_57 l K ad 2 (inR_k 2 rfl) _ h) gw_1126 gw_1181 gw_1125 gw_23 q_X10_scale rfl rfl rfl ⟨by decide, by decide⟩ rfl (Nat.le_of_ble_eq_true rfl) dX10_divide_29 (fun u9 hp => ?_)
        obtain ⟨Q_spare_14, rfl, h⟩ := hp
        refine wa_aload_n C 4 rfl dX10_divide_32 rfl ?_
        refine wa_iconst C (z := 0) dX10_divide_33 rfl ?_
        refine wa_dup2 C dX10_divide_34 rfl rfl ?_
        refine wa_lald C 57 dW_57 dX10_divide_35 (by decide) (by decide) (fun v_15 ev_15 => ?_)
        replace h := h v_15 ev_15
        refine wa_aload_n C 1 rfl dX10_divide_36 rfl ?_
        refine wa_iload C 0 rfl dX10_divide_37 ?_
        obtain ⟨t_16, h⟩ := h
        refine wa_lald C 52 dW_52 dX10_divide_39 t_16.1 t_16.2 (fun v_17 ev_17 => ?_)
        replace h := h v_17 ev_17
        refine wa_iload C 5 rfl dX10_divide_40 ?_
        refine wa_bipush C (z := 31) dX10_divide_42 (by decide) ?_
        refine wa_irem C dX10_divide_44 rx4_8 (inR_k 31 rfl) (by decide) ?_
        refine wa_lshr C dX10_divide_45 ?_
        refine wa_lconst C (v := 1) dX10_divide_46 rfl ?_
        refine wa_land C dX10_divide_47 ?_
        refine wa_lor C dX10_divide_48 ?_
        refine wa_last C (ws' := fun w9 => (dW D_hasBoard D_beganBlank F_mines F_moves F_changes G_width G_height G_size B_parts B_longest S_groups S_askedGroup S_taken R_waitingCount R_metCount A_grade A_cell A_mined A_withTotal A_numbers X_low X_high Y_low Y_high F_mined F_number F_state F_cellsIn F_unknownNear F_hitNear F_moveStart F_changed F_waiting F_seen G_near G_nearEnd B_chosen B_partOf B_rest B_unknowns B_partStart B_cells S_minedSet S_safeSet S_partSet S_tally S_askedTally S_groupOf S_groupSize S_links S_linkEnd S_pick S_groupMinedSet S_groupSafeSet O_sums O_nextSums R_found R_openEnds R_need R_waiting R_waits R_common R_met A_number Q_mined Q_all Q_choices Q_term_9 Q_divisor w9 X_limbs X_sum Y_limbs Y_sum)) 57 dW_57 dX10_divide_49 (by decide) (by decide) dWs_57 (fun Q_spare_18 eQ_spare_18 => ?_)
        replace h := h Q_spare_18 eQ_spare_18
        refine wa_aload_n C 4 rfl dX10_divide_50 rfl ?_
        refine wa_aload_n C 2 rfl dX10_divide_51 rfl ?_
        refine wa_callSi C (As := [.ref (ad 57), .ref (ad 56)]) (rest := []) (c_X10_isLess_57_56 l K ad  _ h) gw_1177 gw_1175 gw_1176 gw_23 q_X10_isLess rfl rfl rfl ⟨by decide, by decide⟩ rfl (Nat.le_of_ble_eq_true rfl) dX10_divide_52 (fun c_19 u9 rc_19 hp => ?_)
        obtain ⟨bc_19, rfl, h⟩ := hp
        replace h := h bc_19
        obtain ⟨J_20, h, hJ_20⟩ := h
        have k_21 : ∀ (Q_term_22 : Int → Int64) (Q_spare_23 : Int → Int64), J_20 Q_term_22 Q_spare_23 → WA p l e ({ frames := 3, cells := 0, slots := 0, locals := 180 } : Room) s m args below meth c 0 0 Q K ad 6 A 77 [(0, .ref (ad 52)), (1, .ref (ad 56)), (2, .ref (ad 55)), (3, .ref (ad 57)), (4, .int (iI x4_8))] [] (dW D_hasBoard D_beganBlank F_mines F_moves F_changes G_width G_height G_size B_parts B_longest S_groups S_askedGroup S_taken R_waitingCount R_metCount A_grade A_cell A_mined A_withTotal A_numbers X_low X_high Y_low Y_high F_mined F_number F_state F_cellsIn F_unknownNear F_hitNear F_moveStart F_changed F_waiting F_seen G_near G_nearEnd B_chosen B_partOf B_rest B_unknowns B_partStart B_cells S_minedSet S_safeSet S_partSet S_tally S_askedTally S_groupOf S_groupSize S_links S_linkEnd S_pick S_groupMinedSet S_groupSafeSet O_sums O_nextSums R_found R_openEnds R_need R_waiting R_waits R_common R_met A_number Q_mined Q_all Q_choices Q_term_22 Q_divisor Q_spare_23 X_limbs X_sum Y_limbs Y_sum) := by
          intro Q_term_22 Q_spare_23 h
          replace h := hJ_20 Q_term_22 Q_spare_23 h
          obtain ⟨r_24, h⟩ := h
          refine wa_iinc C (lv' := fun w9 => [(4, .int (iI w9)), (0, .ref (ad 52)), (1, .ref (ad 56)), (2, .ref (ad 55)), (3, .ref (ad 57))]) 4 rfl dX10_divide_77 (by decide) (fun _ => rfl) (fun x4_25 ex4_25 => ?_)
          replace h := h x4_25 ex4_25
          have rx4_25 : inR x4_25 := by rw [ex4_25]; exact r_24
          refine wa_goto C (tgt := 15) dX10_divide_80 (by decide) ?_
          obtain ⟨n_26, ln_26, h⟩ := h
          refine wa_sub C [1, 2, 3, 4, 0] rfl ?_
          exact ih_6 n_26 ln_26 x4_25 Q_term_22 Q_spare_23 rx4_25 h
        refine wa_if_ne C (tgt := 77) (inR_b bc_19) dX10_divide_55 (by decide) (fun c_27 => ?_) (fun c_27 => ?_)
        · replace h := h.1 c_27
          refine wa_sub C [1, 2, 3, 4, 5] rfl ?_
          exact k_21 Q_term_9 Q_spare_18 h
        · replace h := h.2 c_27
          refine wa_aload_n C 4 rfl dX10_divide_58 rfl ?_
          refine wa_aload_n C 2 rfl dX10_divide_59 rfl ?_
          refine wa_callSv C (As := [.ref (ad 57), .ref (ad 56)]) (rest := []) (c_X10_subtract_57_56 l K ad  _ h) gw_1180 gw_1178 gw_1179 gw_23 q_X10_subtract rfl rfl rfl ⟨by decide, by decide⟩ rfl (Nat.le_of_ble_eq_true rfl) dX10_divide_60 (fun u9 hp => ?_)
          obtain ⟨Q_spare_28, rfl, h⟩ := hp
          refine wa_aload_n C 3 rfl dX10_divide_63 rfl ?_
          refine wa_iload C 0 rfl dX10_divide_64 ?_
          refine wa_dup2 C dX10_divide_66 rfl rfl ?_
          obtain ⟨t_29, h⟩ := h
          refine wa_lald C 55 dW_55 dX10_divide_67 t_29.1 t_29.2 (fun v_30 ev_30 => ?_)
          replace h := h v_30 ev_30
          refine wa_lconst C (v := 1) dX10_divide_68 rfl ?_
          refine wa_iload C 5 rfl dX10_divide_69 ?_
          refine wa_bipush C (z := 31) dX10_divide_71 (by decide) ?_
          refine wa_irem C dX10_divide_73 rx4_8 (inR_k 31 rfl) (by decide) ?_
          refine wa_lshl C dX10_divide_74 ?_
          refine wa_lor C dX10_divide_75 ?_
          obtain ⟨t_31, h⟩ := h
          refine wa_last C (ws' := fun w9 => (dW D_hasBoard D_beganBlank F_mines F_moves F_changes G_width G_height G_size B_parts B_longest S_groups S_askedGroup S_taken R_waitingCount R_metCount A_grade A_cell A_mined A_withTotal A_numbers X_low X_high Y_low Y_high F_mined F_number F_state F_cellsIn F_unknownNear F_hitNear F_moveStart F_changed F_waiting F_seen G_near G_nearEnd B_chosen B_partOf B_rest B_unknowns B_partStart B_cells S_minedSet S_safeSet S_partSet S_tally S_askedTally S_groupOf S_groupSize S_links S_linkEnd S_pick S_groupMinedSet S_groupSafeSet O_sums O_nextSums R_found R_openEnds R_need R_waiting R_waits R_common R_met A_number Q_mined Q_all Q_choices w9 Q_divisor Q_spare_28 X_limbs X_sum Y_limbs Y_sum)) 55 dW_55 dX10_divide_76 t_31.1 t_31.2 dWs_55 (fun Q_term_32 eQ_term_32 => ?_)
          replace h := h Q_term_32 eQ_term_32
          refine wa_sub C [1, 2, 3, 4, 5] rfl ?_
          exact k_21 Q_term_32 Q_spare_28 h
  refine wa_sub C [1, 2, 3, 4, 0] rfl ?_
  exact k_7 n_4 185 Q_term_1 Q_spare_2 (inR_k 185 rfl) h0Inv_3
def P_X5_divideExactly_52 (post : (Int → Int64) → (Int → Int64) → (Int → Int64) → Prop) (Q_mined : Int → Int64) (Q_term : Int → Int64) (Q_divisor : Int → Int64) (Q_spare : Int → Int64) : Prop :=
  P_X10_divide_52_56_55_57 (fun (Q_term_1 : Int → Int64) (Q_spare_2 : Int → Int64) => (((0 : Int) ≤ 0 ∧ (0 : Int) ≤ 0 ∧ (0 : Int) ≤ 6 ∧ (0 : Int) + 6 ≤ 6 ∧ (0 : Int) + 6 ≤ 6) ∧ (∀ Q_mined_4 : Int → Int64, Q_mined_4 = cpZ Q_term_1 Q_mined 0 0 6 → (post Q_mined_4 Q_term_1 Q_spare_2)))) Q_mined Q_term Q_divisor Q_spare 
set_option maxRecDepth 100000 in
set_option maxHeartbeats 4000000 in
theorem c_X5_divideExactly_52 (l : Launch) (K : wK) (ad : Nat → Nat) {D_hasBoard : Int} {D_beganBlank : Int} {F_mines : Int} {F_moves : Int} {F_changes : Int} {G_width : Int} {G_height : Int} {G_size : Int} {B_parts : Int} {B_longest : Int} {S_groups : Int} {S_askedGroup : Int} {S_taken : Int} {R_waitingCount : Int} {R_metCount : Int} {A_grade : Int} {A_cell : Int} {A_mined : Int} {A_withTotal : Int} {A_numbers : Int} {X_low : Int} {X_high : Int} {Y_low : Int} {Y_high : Int} {F_mined : Int → Int} {F_number : Int → Int} {F_state : Int → Int} {F_cellsIn : Int → Int} {F_unknownNear : Int → Int} {F_hitNear : Int → Int} {F_moveStart : Int → Int} {F_changed : Int → Int} {F_waiting : Int → Int} {F_seen : Int → Int} {G_near : Int → Int} {G_nearEnd : Int → Int} {B_chosen : Int → Int} {B_partOf : Int → Int} {B_rest : Int → Int} {B_unknowns : Int → Int} {B_partStart : Int → Int} {B_cells : Int → Int} {S_minedSet : Int → Int} {S_safeSet : Int → Int} {S_partSet : Int → Int} {S_tally : Int → Int} {S_askedTally : Int → Int} {S_groupOf : Int → Int} {S_groupSize : Int → Int} {S_links : Int → Int} {S_linkEnd : Int → Int} {S_pick : Int → Int} {S_groupMinedSet : Int → Int} {S_groupSafeSet : Int → Int} {O_sums : Int → Int64} {O_nextSums : Int → Int64} {R_found : Int → Int} {R_openEnds : Int → Int} {R_need : Int → Int} {R_waiting : Int → Int} {R_waits : Int → Int} {R_common : Int → Int} {R_met : Int → Int} {A_number : Int → Int} {Q_mined : Int → Int64} {Q_all : Int → Int64} {Q_choices : Int → Int64} {Q_term : Int → Int64} {Q_divisor : Int → Int64} {Q_spare : Int → Int64} {X_limbs : Int → Int64} {X_sum : Int → Int64} {Y_limbs : Int → Int64} {Y_sum : Int → Int64}   (post : (Int → Int64) → (Int → Int64) → (Int → Int64) → Prop) (h : P_X5_divideExactly_52 post Q_mined Q_term Q_divisor Q_spare) : mV l yX5_divideExactly (Cond.code yX5_divideExactly cX5_divideExactly 2 none :: GT) ({ frames := 4, cells := 0, slots := 0, locals := 240 } : Room) [.ref (ad 8), .ref (ad 52)] K ad (dW D_hasBoard D_beganBlank F_mines F_moves F_changes G_width G_height G_size B_parts B_longest S_groups S_askedGroup S_taken R_waitingCount R_metCount A_grade A_cell A_mined A_withTotal A_numbers X_low X_high Y_low Y_high F_mined F_number F_state F_cellsIn F_unknownNear F_hitNear F_moveStart F_changed F_waiting F_seen G_near G_nearEnd B_chosen B_partOf B_rest B_unknowns B_partStart B_cells S_minedSet S_safeSet S_partSet S_tally S_askedTally S_groupOf S_groupSize S_links S_linkEnd S_pick S_groupMinedSet S_groupSafeSet O_sums O_nextSums R_found R_openEnds R_need R_waiting R_waits R_common R_met A_number Q_mined Q_all Q_choices Q_term Q_divisor Q_spare X_limbs X_sum Y_limbs Y_sum) (fun u9 => ∃ Q_mined9 Q_term9 Q_spare9, u9 = (dW D_hasBoard D_beganBlank F_mines F_moves F_changes G_width G_height G_size B_parts B_longest S_groups S_askedGroup S_taken R_waitingCount R_metCount A_grade A_cell A_mined A_withTotal A_numbers X_low X_high Y_low Y_high F_mined F_number F_state F_cellsIn F_unknownNear F_hitNear F_moveStart F_changed F_waiting F_seen G_near G_nearEnd B_chosen B_partOf B_rest B_unknowns B_partStart B_cells S_minedSet S_safeSet S_partSet S_tally S_askedTally S_groupOf S_groupSize S_links S_linkEnd S_pick S_groupMinedSet S_groupSafeSet O_sums O_nextSums R_found R_openEnds R_need R_waiting R_waits R_common R_met A_number Q_mined9 Q_all Q_choices Q_term9 Q_divisor Q_spare9 X_limbs X_sum Y_limbs Y_sum) ∧ post Q_mined9 Q_term9 Q_spare9) := by
  refine mV_of (lv0 := [(0, .ref (ad 8)), (1, .ref (ad 52))]) (by decide) (Nat.le_of_ble_eq_true rfl) rfl ?_
  intro p e s m args below meth c Q A C ret
  replace C : Cx p ({ frames := 4, cells := 0, slots := 0, locals := 240 } : Room) m c 0 0 cX5_divideExactly 2 s args RX5 K A := C
  unfold P_X5_divideExactly_52 at h
  refine wa_aload_n C 1 rfl dX5_divideExactly_0 rfl ?_
  refine wa_aload_n C 0 rfl dX5_divideExactly_1 rfl ?_
  refine wa_getR C 8 9 dW_8 rfl rfl (by decide) okX5 gw_417 dX5_divideExactly_2 ?_
  refine wa_aload_n C 0 rfl dX5_divideExactly_5 rfl ?_
  refine wa_getR C 8 8 dW_8 rfl rfl (by decide) okX5 gw_416 dX5_divideExactly_6 ?_
  refine wa_aload_n C 0 rfl dX5_divideExactly_9 rfl ?_
  refine wa_getR C 8 10 dW_8 rfl rfl (by decide) okX5 gw_418 dX5_divideExactly_10 ?_
  refine wa_callSv C (As := [.ref (ad 52), .ref (ad 56), .ref (ad 55), .ref (ad 57)]) (rest := []) (c_X10_divide_52_56_55_57 l K ad  _ h) gw_1188 gw_1186 gw_1187 gw_23 q_X10_divide rfl rfl rfl ⟨by decide, by decide⟩ rfl (Nat.le_of_ble_eq_true rfl) dX5_divideExactly_13 (fun u9 hp => ?_)
  obtain ⟨Q_term_1, Q_spare_2, rfl, h⟩ := hp
  refine wa_aload_n C 0 rfl dX5_divideExactly_16 rfl ?_
  refine wa_getR C 8 8 dW_8 rfl rfl (by decide) okX5 gw_416 dX5_divideExactly_17 ?_
  refine wa_iconst C (z := 0) dX5_divideExactly_20 rfl ?_
  refine wa_aload_n C 1 rfl dX5_divideExactly_21 rfl ?_
  refine wa_iconst C (z := 0) dX5_divideExactly_22 rfl ?_
  refine wa_bipush C (z := 6) dX5_divideExactly_23 (by decide) ?_
  obtain ⟨t_3, h⟩ := h
  refine wa_copyl C (ws' := fun w9 => (dW D_hasBoard D_beganBlank F_mines F_moves F_changes G_width G_height G_size B_parts B_longest S_groups S_askedGroup S_taken R_waitingCount R_metCount A_grade A_cell A_mined A_withTotal A_numbers X_low X_high Y_low Y_high F_mined F_number F_state F_cellsIn F_unknownNear F_hitNear F_moveStart F_changed F_waiting F_seen G_near G_nearEnd B_chosen B_partOf B_rest B_unknowns B_partStart B_cells S_minedSet S_safeSet S_partSet S_tally S_askedTally S_groupOf S_groupSize S_links S_linkEnd S_pick S_groupMinedSet S_groupSafeSet O_sums O_nextSums R_found R_openEnds R_need R_waiting R_waits R_common R_met A_number w9 Q_all Q_choices Q_term_1 Q_divisor Q_spare_2 X_limbs X_sum Y_limbs Y_sum)) 55 52 dW_55 dW_52 (by decide) gw_1157 (inR_k 0 rfl) (inR_k 0 rfl) (inR_k 6 rfl) t_3 (by decide) (by decide) dX5_divideExactly_25 dWs_52 (fun Q_mined_4 eQ_mined_4 => ?_)
  replace h := h Q_mined_4 eQ_mined_4
  exact ret dX5_divideExactly_28 ⟨_, _, _, rfl, h⟩
def P_X10_divide_53_56_55_57 (post : (Int → Int64) → (Int → Int64) → Prop) (Q_all : Int → Int64) (Q_term : Int → Int64) (Q_divisor : Int → Int64) (Q_spare : Int → Int64) : Prop :=
  P_J7_fill_d0a16_55 (fun (Q_term_1 : Int → Int64) => (P_J7_fill_d0a16_57 (fun (Q_spare_2 : Int → Int64) => (∃ Inv_3 : Nat → (Int) → (Int → Int64) → (Int → Int64) → Prop, (∃ n_4 : Nat, Inv_3 n_4 185 Q_term_1 Q_spare_2) ∧ ∀ (n_5 : Nat) (x4_8 : Int) (Q_term_9 : Int → Int64) (Q_spare_10 : Int → Int64), inR x4_8 → Inv_3 n_5 x4_8 Q_term_9 Q_spare_10 → ((x4_8 < 0 → (post Q_term_9 Q_spare_10)) ∧ (¬ x4_8 < 0 → (inR (x4_8.tdiv 31) ∧ (∀ x5_13 : Int, x5_13 = (x4_8.tdiv 31) → (P_X10_scale_57 (fun (Q_spare_14 : Int → Int64) => (∀ v_15 : Int64, v_15 = Q_spare_14 0 → ((0 ≤ x5_13 ∧ x5_13 < 6) ∧ (∀ v_17 : Int64, v_17 = Q_all x5_13 → (∀ Q_spare_18 : Int → Int64, Q_spare_18 = upZ Q_spare_14 0 (v_15 ||| ((shrL v_17 (x4_8.tmod 31)) &&& (1 : Int64))) → (P_X10_isLess_57_56 (fun (c_19 : Int) => (c_19 = 0 ∨ c_19 = 1) → (∃ J_20 : (Int → Int64) → (Int → Int64) → Prop, ((¬ c_19 = 0 → (J_20 Q_term_9 Q_spare_18)) ∧ (c_19 = 0 → (P_X10_subtract_57_56 (fun (Q_spare_28 : Int → Int64) => ((0 ≤ x5_13 ∧ x5_13 < 6) ∧ (∀ v_30 : Int64, v_30 = Q_term_9 x5_13 → ((0 ≤ x5_13 ∧ x5_13 < 6) ∧ (∀ Q_term_32 : Int → Int64, Q_term_32 = upZ Q_term_9 x5_13 (v_30 ||| (shlL (1 : Int64) (x4_8.tmod 31))) → (J_20 Q_term_32 Q_spare_28)))))) Q_divisor Q_spare_18 ))) ∧ (∀ (Q_term_22 : Int → Int64) (Q_spare_23 : Int → Int64), J_20 Q_term_22 Q_spare_23 → (inR (x4_8 + (-1)) ∧ (∀ x4_25 : Int, x4_25 = (x4_8 + (-1)) → (∃ n_26 : Nat, n_26 < n_5 ∧ Inv_3 n_26 x4_25 Q_term_22 Q_spare_23)))))) Q_divisor Q_spare_18 )))))) Q_spare_10 2))))))) Q_spare (0 : Int64))) Q_term (0 : Int64)
set_option maxRecDepth 100000 in
set_option maxHeartbeats 4000000 in
theorem c_X10_divide_53_56_55_57 (l : Launch) (K : wK) (ad : Nat → Nat) {D_hasBoard : Int} {D_beganBlank : Int} {F_mines : Int} {F_moves : Int} {F_changes : Int} {G_width : Int} {G_height : Int} {G_size : Int} {B_parts : Int} {B_longest : Int} {S_groups : Int} {S_askedGroup : Int} {S_taken : Int} {R_waitingCount : Int} {R_metCount : Int} {A_grade : Int} {A_cell : Int} {A_mined : Int} {A_withTotal : Int} {A_numbers : Int} {X_low : Int} {X_high : Int} {Y_low : Int} {Y_high : Int} {F_mined : Int → Int} {F_number : Int → Int} {F_state : Int → Int} {F_cellsIn : Int → Int} {F_unknownNear : Int → Int} {F_hitNear : Int → Int} {F_moveStart : Int → Int} {F_changed : Int → Int} {F_waiting : Int → Int} {F_seen : Int → Int} {G_near : Int → Int} {G_nearEnd : Int → Int} {B_chosen : Int → Int} {B_partOf : Int → Int} {B_rest : Int → Int} {B_unknowns : Int → Int} {B_partStart : Int → Int} {B_cells : Int → Int} {S_minedSet : Int → Int} {S_safeSet : Int → Int} {S_partSet : Int → Int} {S_tally : Int → Int} {S_askedTally : Int → Int} {S_groupOf : Int → Int} {S_groupSize : Int → Int} {S_links : Int → Int} {S_linkEnd : Int → Int} {S_pick : Int → Int} {S_groupMinedSet : Int → Int} {S_groupSafeSet : Int → Int} {O_sums : Int → Int64} {O_nextSums : Int → Int64} {R_found : Int → Int} {R_openEnds : Int → Int} {R_need : Int → Int} {R_waiting : Int → Int} {R_waits : Int → Int} {R_common : Int → Int} {R_met : Int → Int} {A_number : Int → Int} {Q_mined : Int → Int64} {Q_all : Int → Int64} {Q_choices : Int → Int64} {Q_term : Int → Int64} {Q_divisor : Int → Int64} {Q_spare : Int → Int64} {X_limbs : Int → Int64} {X_sum : Int → Int64} {Y_limbs : Int → Int64} {Y_sum : Int → Int64}   (post : (Int → Int64) → (Int → Int64) → Prop) (h : P_X10_divide_53_56_55_57 post Q_all Q_term Q_divisor Q_spare) : mV l yX10_divide (Cond.code yX10_divide cX10_divide 6 none :: GT) ({ frames := 3, cells := 0, slots := 0, locals := 180 } : Room) [.ref (ad 53), .ref (ad 56), .ref (ad 55), .ref (ad 57)] K ad (dW D_hasBoard D_beganBlank F_mines F_moves F_changes G_width G_height G_size B_parts B_longest S_groups S_askedGroup S_taken R_waitingCount R_metCount A_grade A_cell A_mined A_withTotal A_numbers X_low X_high Y_low Y_high F_mined F_number F_state F_cellsIn F_unknownNear F_hitNear F_moveStart F_changed F_waiting F_seen G_near G_nearEnd B_chosen B_partOf B_rest B_unknowns B_partStart B_cells S_minedSet S_safeSet S_partSet S_tally S_askedTally S_groupOf S_groupSize S_links S_linkEnd S_pick S_groupMinedSet S_groupSafeSet O_sums O_nextSums R_found R_openEnds R_need R_waiting R_waits R_common R_met A_number Q_mined Q_all Q_choices Q_term Q_divisor Q_spare X_limbs X_sum Y_limbs Y_sum) (fun u9 => ∃ Q_term9 Q_spare9, u9 = (dW D_hasBoard D_beganBlank F_mines F_moves F_changes G_width G_height G_size B_parts B_longest S_groups S_askedGroup S_taken R_waitingCount R_metCount A_grade A_cell A_mined A_withTotal A_numbers X_low X_high Y_low Y_high F_mined F_number F_state F_cellsIn F_unknownNear F_hitNear F_moveStart F_changed F_waiting F_seen G_near G_nearEnd B_chosen B_partOf B_rest B_unknowns B_partStart B_cells S_minedSet S_safeSet S_partSet S_tally S_askedTally S_groupOf S_groupSize S_links S_linkEnd S_pick S_groupMinedSet S_groupSafeSet O_sums O_nextSums R_found R_openEnds R_need R_waiting R_waits R_common R_met A_number Q_mined Q_all Q_choices Q_term9 Q_divisor Q_spare9 X_limbs X_sum Y_limbs Y_sum) ∧ post Q_term9 Q_spare9) := by
  refine mV_of (lv0 := [(0, .ref (ad 53)), (1, .ref (ad 56)), (2, .ref (ad 55)), (3, .ref (ad 57))]) (by decide) (Nat.le_of_ble_eq_true rfl) rfl ?_
  intro p e s m args below meth c Q A C ret
  replace C : Cx p ({ frames := 3, cells := 0, slots := 0, locals := 180 } : Room) m c 0 0 cX10_divide 6 s args RX10 K A := C
  unfold P_X10_divide_53_56_55_57 at h
  refine wa_aload_n C 2 rfl dX10_divide_0 rfl ?_
  refine wa_lconst C (v := 0) dX10_divide_1 rfl ?_
  refine wa_callSv C (As := [.ref (ad 55), .long (0 : Int64)]) (rest := []) (c_J7_fill_d0a16_55 l K ad (0 : Int64) _ h) gw_822 gw_1094 gw_821 gw_17 q_J7_fill_d0a16 rfl rfl rfl ⟨by decide, by decide⟩ rfl (Nat.le_of_ble_eq_true rfl) dX10_divide_2 (fun u9 hp => ?_)
  obtain ⟨Q_term_1, rfl, h⟩ := hp
  refine wa_aload_n C 3 rfl dX10_divide_5 rfl ?_
  refine wa_lconst C (v := 0) dX10_divide_6 rfl ?_
  refine wa_callSv C (As := [.ref (ad 57), .long (0 : Int64)]) (rest := []) (c_J7_fill_d0a16_57 l K ad (0 : Int64) _ h) gw_822 gw_1094 gw_821 gw_17 q_J7_fill_d0a16 rfl rfl rfl ⟨by decide, by decide⟩ rfl (Nat.le_of_ble_eq_true rfl) dX10_divide_7 (fun u9 hp => ?_)
  obtain ⟨Q_spare_2, rfl, h⟩ := hp
  refine wa_sipush C (z := 185) dX10_divide_10 (by decide) ?_
  refine wa_istore C dX10_divide_13 (by decide) rfl ?_
  obtain ⟨Inv_3, ⟨n_4, h0Inv_3⟩, hInv_3⟩ := h
  have k_7 : ∀ (n_5 : Nat) (x4_8 : Int) (Q_term_9 : Int → Int64) (Q_spare_10 : Int → Int64), inR x4_8 → Inv_3 n_5 x4_8 Q_term_9 Q_spare_10 → WA p l e ({ frames := 3, cells := 0, slots := 0, locals := 180 } : Room) s m args below meth c 0 0 Q K ad 6 A 15 [(0, .ref (ad 53)), (1, .ref (ad 56)), (2, .ref (ad 55)), (3, .ref (ad 57)), (4, .int (iI x4_8))] [] (dW D_hasBoard D_beganBlank F_mines F_moves F_changes G_width G_height G_size B_parts B_longest S_groups S_askedGroup S_taken R_waitingCount R_metCount A_grade A_cell A_mined A_withTotal A_numbers X_low X_high Y_low Y_high F_mined F_number F_state F_cellsIn F_unknownNear F_hitNear F_moveStart F_changed F_waiting F_seen G_near G_nearEnd B_chosen B_partOf B_rest B_unknowns B_partStart B_cells S_minedSet S_safeSet S_partSet S_tally S_askedTally S_groupOf S_groupSize S_links S_linkEnd S_pick S_groupMinedSet S_groupSafeSet O_sums O_nextSums R_found R_openEnds R_need R_waiting R_waits R_common R_met A_number Q_mined Q_all Q_choices Q_term_9 Q_divisor Q_spare_10 X_limbs X_sum Y_limbs Y_sum) := by
    intro n_5
    induction n_5 using Nat.strongRecOn with
    | ind n_5 ih_6 =>
      intro x4_8 Q_term_9 Q_spare_10 rx4_8 h
      replace h := hInv_3 n_5 x4_8 Q_term_9 Q_spare_10 rx4_8 h
      refine wa_iload C 4 rfl dX10_divide_15 ?_
      refine wa_if_lt C (tgt := 83) rx4_8 dX10_divide_17 (by decide) (fun c_11 => ?_) (fun c_11 => ?_)
      · replace h := h.1 c_11
        exact ret dX10_divide_83 ⟨_, _, rfl, h⟩
      · replace h := h.2 c_11
        refine wa_iload C 4 rfl dX10_divide_20 ?_
        refine wa_bipush C (z := 31) dX10_divide_22 (by decide) ?_
        refine wa_idiv C dX10_divide_24 rx4_8 (inR_k 31 rfl) (by decide) ?_
        obtain ⟨r_12, h⟩ := h
        refine wa_nmi (fun x5_13 ex5_13 => ?_)
        replace h := h x5_13 ex5_13
        have rx5_13 : inR x5_13 := by rw [ex5_13]; exact r_12
        refine wa_istore C dX10_divide_25 (by decide) rfl ?_
        refine wa_aload_n C 4 rfl dX10_divide_27 rfl ?_
        refine wa_iconst C (z := 2) dX10_divide_28 rfl ?_
        refine wa_callSv C (As := [.ref (ad 57), .int (iI 2)]) (rest := []) (c_X10_scale_57 l K ad 2 (inR_k 2 rfl) _ h) gw_1126 gw_1181 gw_1125 gw_23 q_X10_scale rfl rfl rfl ⟨by decide, by decide⟩ rfl (Nat.le_of_ble_eq_true rfl) dX10_divide_29 (fun u9 hp => ?_)
        obtain ⟨Q_spare_14, rfl, h⟩ := hp
        refine wa_aload_n C 4 rfl dX10_divide_32 rfl ?_
        refine wa_iconst C (z := 0) dX10_divide_33 rfl ?_
        refine wa_dup2 C dX10_divide_34 rfl rfl ?_
        refine wa_lald C 57 dW_57 dX10_divide_35 (by decide) (by decide) (fun v_15 ev_15 => ?_)
        replace h := h v_15 ev_15
        refine wa_aload_n C 1 rfl dX10_divide_36 rfl ?_
        refine wa_iload C 0 rfl dX10_divide_37 ?_
        obtain ⟨t_16, h⟩ := h
        refine wa_lald C 53 dW_53 dX10_divide_39 t_16.1 t_16.2 (fun v_17 ev_17 => ?_)
        replace h := h v_17 ev_17
        refine wa_iload C 5 rfl dX10_divide_40 ?_
        refine wa_bipush C (z := 31) dX10_divide_42 (by decide) ?_
        refine wa_irem C dX10_divide_44 rx4_8 (inR_k 31 rfl) (by decide) ?_
        refine wa_lshr C dX10_divide_45 ?_
        refine wa_lconst C (v := 1) dX10_divide_46 rfl ?_
        refine wa_land C dX10_divide_47 ?_
        refine wa_lor C dX10_divide_48 ?_
        refine wa_last C (ws' := fun w9 => (dW D_hasBoard D_beganBlank F_mines F_moves F_changes G_width G_height G_size B_parts B_longest S_groups S_askedGroup S_taken R_waitingCount R_metCount A_grade A_cell A_mined A_withTotal A_numbers X_low X_high Y_low Y_high F_mined F_number F_state F_cellsIn F_unknownNear F_hitNear F_moveStart F_changed F_waiting F_seen G_near G_nearEnd B_chosen B_partOf B_rest B_unknowns B_partStart B_cells S_minedSet S_safeSet S_partSet S_tally S_askedTally S_groupOf S_groupSize S_links S_linkEnd S_pick S_groupMinedSet S_groupSafeSet O_sums O_nextSums R_found R_openEnds R_need R_waiting R_waits R_common R_met A_number Q_mined Q_all Q_choices Q_term_9 Q_divisor w9 X_limbs X_sum Y_limbs Y_sum)) 57 dW_57 dX10_divide_49 (by decide) (by decide) dWs_57 (fun Q_spare_18 eQ_spare_18 => ?_)
        replace h := h Q_spare_18 eQ_spare_18
        refine wa_aload_n C 4 rfl dX10_divide_50 rfl ?_
        refine wa_aload_n C 2 rfl dX10_divide_51 rfl ?_
        refine wa_callSi C (As := [.ref (ad 57), .ref (ad 56)]) (rest := []) (c_X10_isLess_57_56 l K ad  _ h) gw_1177 gw_1175 gw_1176 gw_23 q_X10_isLess rfl rfl rfl ⟨by decide, by decide⟩ rfl (Nat.le_of_ble_eq_true rfl) dX10_divide_52 (fun c_19 u9 rc_19 hp => ?_)
        obtain ⟨bc_19, rfl, h⟩ := hp
        replace h := h bc_19
        obtain ⟨J_20, h, hJ_20⟩ := h
        have k_21 : ∀ (Q_term_22 : Int → Int64) (Q_spare_23 : Int → Int64), J_20 Q_term_22 Q_spare_23 → WA p l e ({ frames := 3, cells := 0, slots := 0, locals := 180 } : Room) s m args below meth c 0 0 Q K ad 6 A 77 [(0, .ref (ad 53)), (1, .ref (ad 56)), (2, .ref (ad 55)), (3, .ref (ad 57)), (4, .int (iI x4_8))] [] (dW D_hasBoard D_beganBlank F_mines F_moves F_changes G_width G_height G_size B_parts B_longest S_groups S_askedGroup S_taken R_waitingCount R_metCount A_grade A_cell A_mined A_withTotal A_numbers X_low X_high Y_low Y_high F_mined F_number F_state F_cellsIn F_unknownNear F_hitNear F_moveStart F_changed F_waiting F_seen G_near G_nearEnd B_chosen B_partOf B_rest B_unknowns B_partStart B_cells S_minedSet S_safeSet S_partSet S_tally S_askedTally S_groupOf S_groupSize S_links S_linkEnd S_pick S_groupMinedSet S_groupSafeSet O_sums O_nextSums R_found R_openEnds R_need R_waiting R_waits R_common R_met A_number Q_mined Q_all Q_choices Q_term_22 Q_divisor Q_spare_23 X_limbs X_sum Y_limbs Y_sum) := by
          intro Q_term_22 Q_spare_23 h
          replace h := hJ_20 Q_term_22 Q_spare_23 h
          obtain ⟨r_24, h⟩ := h
          refine wa_iinc C (lv' := fun w9 => [(4, .int (iI w9)), (0, .ref (ad 53)), (1, .ref (ad 56)), (2, .ref (ad 55)), (3, .ref (ad 57))]) 4 rfl dX10_divide_77 (by decide) (fun _ => rfl) (fun x4_25 ex4_25 => ?_)
          replace h := h x4_25 ex4_25
          have rx4_25 : inR x4_25 := by rw [ex4_25]; exact r_24
          refine wa_goto C (tgt := 15) dX10_divide_80 (by decide) ?_
          obtain ⟨n_26, ln_26, h⟩ := h
          refine wa_sub C [1, 2, 3, 4, 0] rfl ?_
          exact ih_6 n_26 ln_26 x4_25 Q_term_22 Q_spare_23 rx4_25 h
        refine wa_if_ne C (tgt := 77) (inR_b bc_19) dX10_divide_55 (by decide) (fun c_27 => ?_) (fun c_27 => ?_)
        · replace h := h.1 c_27
          refine wa_sub C [1, 2, 3, 4, 5] rfl ?_
          exact k_21 Q_term_9 Q_spare_18 h
        · replace h := h.2 c_27
          refine wa_aload_n C 4 rfl dX10_divide_58 rfl ?_
          refine wa_aload_n C 2 rfl dX10_divide_59 rfl ?_
          refine wa_callSv C (As := [.ref (ad 57), .ref (ad 56)]) (rest := []) (c_X10_subtract_57_56 l K ad  _ h) gw_1180 gw_1178 gw_1179 gw_23 q_X10_subtract rfl rfl rfl ⟨by decide, by decide⟩ rfl (Nat.le_of_ble_eq_true rfl) dX10_divide_60 (fun u9 hp => ?_)
          obtain ⟨Q_spare_28, rfl, h⟩ := hp
          refine wa_aload_n C 3 rfl dX10_divide_63 rfl ?_
          refine wa_iload C 0 rfl dX10_divide_64 ?_
          refine wa_dup2 C dX10_divide_66 rfl rfl ?_
          obtain ⟨t_29, h⟩ := h
          refine wa_lald C 55 dW_55 dX10_divide_67 t_29.1 t_29.2 (fun v_30 ev_30 => ?_)
          replace h := h v_30 ev_30
          refine wa_lconst C (v := 1) dX10_divide_68 rfl ?_
          refine wa_iload C 5 rfl dX10_divide_69 ?_
          refine wa_bipush C (z := 31) dX10_divide_71 (by decide) ?_
          refine wa_irem C dX10_divide_73 rx4_8 (inR_k 31 rfl) (by decide) ?_
          refine wa_lshl C dX10_divide_74 ?_
          refine wa_lor C dX10_divide_75 ?_
          obtain ⟨t_31, h⟩ := h
          refine wa_last C (ws' := fun w9 => (dW D_hasBoard D_beganBlank F_mines F_moves F_changes G_width G_height G_size B_parts B_longest S_groups S_askedGroup S_taken R_waitingCount R_metCount A_grade A_cell A_mined A_withTotal A_numbers X_low X_high Y_low Y_high F_mined F_number F_state F_cellsIn F_unknownNear F_hitNear F_moveStart F_changed F_waiting F_seen G_near G_nearEnd B_chosen B_partOf B_rest B_unknowns B_partStart B_cells S_minedSet S_safeSet S_partSet S_tally S_askedTally S_groupOf S_groupSize S_links S_linkEnd S_pick S_groupMinedSet S_groupSafeSet O_sums O_nextSums R_found R_openEnds R_need R_waiting R_waits R_common R_met A_number Q_mined Q_all Q_choices w9 Q_divisor Q_spare_28 X_limbs X_sum Y_limbs Y_sum)) 55 dW_55 dX10_divide_76 t_31.1 t_31.2 dWs_55 (fun Q_term_32 eQ_term_32 => ?_)
          replace h := h Q_term_32 eQ_term_32
          refine wa_sub C [1, 2, 3, 4, 5] rfl ?_
          exact k_21 Q_term_32 Q_spare_28 h
  refine wa_sub C [1, 2, 3, 4, 0] rfl ?_
  exact k_7 n_4 185 Q_term_1 Q_spare_2 (inR_k 185 rfl) h0Inv_3
def P_X5_divideExactly_53 (post : (Int → Int64) → (Int → Int64) → (Int → Int64) → Prop) (Q_all : Int → Int64) (Q_term : Int → Int64) (Q_divisor : Int → Int64) (Q_spare : Int → Int64) : Prop :=
  P_X10_divide_53_56_55_57 (fun (Q_term_1 : Int → Int64) (Q_spare_2 : Int → Int64) => (((0 : Int) ≤ 0 ∧ (0 : Int) ≤ 0 ∧ (0 : Int) ≤ 6 ∧ (0 : Int) + 6 ≤ 6 ∧ (0 : Int) + 6 ≤ 6) ∧ (∀ Q_all_4 : Int → Int64, Q_all_4 = cpZ Q_term_1 Q_all 0 0 6 → (post Q_all_4 Q_term_1 Q_spare_2)))) Q_all Q_term Q_divisor Q_spare 
set_option maxRecDepth 100000 in
set_option maxHeartbeats 4000000 in
theorem c_X5_divideExactly_53 (l : Launch) (K : wK) (ad : Nat → Nat) {D_hasBoard : Int} {D_beganBlank : Int} {F_mines : Int} {F_moves : Int} {F_changes : Int} {G_width : Int} {G_height : Int} {G_size : Int} {B_parts : Int} {B_longest : Int} {S_groups : Int} {S_askedGroup : Int} {S_taken : Int} {R_waitingCount : Int} {R_metCount : Int} {A_grade : Int} {A_cell : Int} {A_mined : Int} {A_withTotal : Int} {A_numbers : Int} {X_low : Int} {X_high : Int} {Y_low : Int} {Y_high : Int} {F_mined : Int → Int} {F_number : Int → Int} {F_state : Int → Int} {F_cellsIn : Int → Int} {F_unknownNear : Int → Int} {F_hitNear : Int → Int} {F_moveStart : Int → Int} {F_changed : Int → Int} {F_waiting : Int → Int} {F_seen : Int → Int} {G_near : Int → Int} {G_nearEnd : Int → Int} {B_chosen : Int → Int} {B_partOf : Int → Int} {B_rest : Int → Int} {B_unknowns : Int → Int} {B_partStart : Int → Int} {B_cells : Int → Int} {S_minedSet : Int → Int} {S_safeSet : Int → Int} {S_partSet : Int → Int} {S_tally : Int → Int} {S_askedTally : Int → Int} {S_groupOf : Int → Int} {S_groupSize : Int → Int} {S_links : Int → Int} {S_linkEnd : Int → Int} {S_pick : Int → Int} {S_groupMinedSet : Int → Int} {S_groupSafeSet : Int → Int} {O_sums : Int → Int64} {O_nextSums : Int → Int64} {R_found : Int → Int} {R_openEnds : Int → Int} {R_need : Int → Int} {R_waiting : Int → Int} {R_waits : Int → Int} {R_common : Int → Int} {R_met : Int → Int} {A_number : Int → Int} {Q_mined : Int → Int64} {Q_all : Int → Int64} {Q_choices : Int → Int64} {Q_term : Int → Int64} {Q_divisor : Int → Int64} {Q_spare : Int → Int64} {X_limbs : Int → Int64} {X_sum : Int → Int64} {Y_limbs : Int → Int64} {Y_sum : Int → Int64}   (post : (Int → Int64) → (Int → Int64) → (Int → Int64) → Prop) (h : P_X5_divideExactly_53 post Q_all Q_term Q_divisor Q_spare) : mV l yX5_divideExactly (Cond.code yX5_divideExactly cX5_divideExactly 2 none :: GT) ({ frames := 4, cells := 0, slots := 0, locals := 240 } : Room) [.ref (ad 8), .ref (ad 53)] K ad (dW D_hasBoard D_beganBlank F_mines F_moves F_changes G_width G_height G_size B_parts B_longest S_groups S_askedGroup S_taken R_waitingCount R_metCount A_grade A_cell A_mined A_withTotal A_numbers X_low X_high Y_low Y_high F_mined F_number F_state F_cellsIn F_unknownNear F_hitNear F_moveStart F_changed F_waiting F_seen G_near G_nearEnd B_chosen B_partOf B_rest B_unknowns B_partStart B_cells S_minedSet S_safeSet S_partSet S_tally S_askedTally S_groupOf S_groupSize S_links S_linkEnd S_pick S_groupMinedSet S_groupSafeSet O_sums O_nextSums R_found R_openEnds R_need R_waiting R_waits R_common R_met A_number Q_mined Q_all Q_choices Q_term Q_divisor Q_spare X_limbs X_sum Y_limbs Y_sum) (fun u9 => ∃ Q_all9 Q_term9 Q_spare9, u9 = (dW D_hasBoard D_beganBlank F_mines F_moves F_changes G_width G_height G_size B_parts B_longest S_groups S_askedGroup S_taken R_waitingCount R_metCount A_grade A_cell A_mined A_withTotal A_numbers X_low X_high Y_low Y_high F_mined F_number F_state F_cellsIn F_unknownNear F_hitNear F_moveStart F_changed F_waiting F_seen G_near G_nearEnd B_chosen B_partOf B_rest B_unknowns B_partStart B_cells S_minedSet S_safeSet S_partSet S_tally S_askedTally S_groupOf S_groupSize S_links S_linkEnd S_pick S_groupMinedSet S_groupSafeSet O_sums O_nextSums R_found R_openEnds R_need R_waiting R_waits R_common R_met A_number Q_mined Q_all9 Q_choices Q_term9 Q_divisor Q_spare9 X_limbs X_sum Y_limbs Y_sum) ∧ post Q_all9 Q_term9 Q_spare9) := by
  refine mV_of (lv0 := [(0, .ref (ad 8)), (1, .ref (ad 53))]) (by decide) (Nat.le_of_ble_eq_true rfl) rfl ?_
  intro p e s m args below meth c Q A C ret
  replace C : Cx p ({ frames := 4, cells := 0, slots := 0, locals := 240 } : Room) m c 0 0 cX5_divideExactly 2 s args RX5 K A := C
  unfold P_X5_divideExactly_53 at h
  refine wa_aload_n C 1 rfl dX5_divideExactly_0 rfl ?_
  refine wa_aload_n C 0 rfl dX5_divideExactly_1 rfl ?_
  refine wa_getR C 8 9 dW_8 rfl rfl (by decide) okX5 gw_417 dX5_divideExactly_2 ?_
  refine wa_aload_n C 0 rfl dX5_divideExactly_5 rfl ?_
  refine wa_getR C 8 8 dW_8 rfl rfl (by decide) okX5 gw_416 dX5_divideExactly_6 ?_
  refine wa_aload_n C 0 rfl dX5_divideExactly_9 rfl ?_
  refine wa_getR C 8 10 dW_8 rfl rfl (by decide) okX5 gw_418 dX5_divideExactly_10 ?_
  refine wa_callSv C (As := [.ref (ad 53), .ref (ad 56), .ref (ad 55), .ref (ad 57)]) (rest := []) (c_X10_divide_53_56_55_57 l K ad  _ h) gw_1188 gw_1186 gw_1187 gw_23 q_X10_divide rfl rfl rfl ⟨by decide, by decide⟩ rfl (Nat.le_of_ble_eq_true rfl) dX5_divideExactly_13 (fun u9 hp => ?_)
  obtain ⟨Q_term_1, Q_spare_2, rfl, h⟩ := hp
  refine wa_aload_n C 0 rfl dX5_divideExactly_16 rfl ?_
  refine wa_getR C 8 8 dW_8 rfl rfl (by decide) okX5 gw_416 dX5_divideExactly_17 ?_
  refine wa_iconst C (z := 0) dX5_divideExactly_20 rfl ?_
  refine wa_aload_n C 1 rfl dX5_divideExactly_21 rfl ?_
  refine wa_iconst C (z := 0) dX5_divideExactly_22 rfl ?_
  refine wa_bipush C (z := 6) dX5_divideExactly_23 (by decide) ?_
  obtain ⟨t_3, h⟩ := h
  refine wa_copyl C (ws' := fun w9 => (dW D_hasBoard D_beganBlank F_mines F_moves F_changes G_width G_height G_size B_parts B_longest S_groups S_askedGroup S_taken R_waitingCount R_metCount A_grade A_cell A_mined A_withTotal A_numbers X_low X_high Y_low Y_high F_mined F_number F_state F_cellsIn F_unknownNear F_hitNear F_moveStart F_changed F_waiting F_seen G_near G_nearEnd B_chosen B_partOf B_rest B_unknowns B_partStart B_cells S_minedSet S_safeSet S_partSet S_tally S_askedTally S_groupOf S_groupSize S_links S_linkEnd S_pick S_groupMinedSet S_groupSafeSet O_sums O_nextSums R_found R_openEnds R_need R_waiting R_waits R_common R_met A_number Q_mined w9 Q_choices Q_term_1 Q_divisor Q_spare_2 X_limbs X_sum Y_limbs Y_sum)) 55 53 dW_55 dW_53 (by decide) gw_1157 (inR_k 0 rfl) (inR_k 0 rfl) (inR_k 6 rfl) t_3 (by decide) (by decide) dX5_divideExactly_25 dWs_53 (fun Q_all_4 eQ_all_4 => ?_)
  replace h := h Q_all_4 eQ_all_4
  exact ret dX5_divideExactly_28 ⟨_, _, _, rfl, h⟩
def P_X10_set_53 (post : (Int → Int64) → Prop) (Q_all : Int → Int64) (x1 : Int) : Prop :=
  P_J7_fill_d0a16_53 (fun (Q_all_1 : Int → Int64) => (∀ Q_all_2 : Int → Int64, Q_all_2 = upZ Q_all_1 0 (Int64.ofInt x1) → (post Q_all_2))) Q_all (0 : Int64)
set_option maxRecDepth 100000 in
set_option maxHeartbeats 4000000 in
theorem c_X10_set_53 (l : Launch) (K : wK) (ad : Nat → Nat) {D_hasBoard : Int} {D_beganBlank : Int} {F_mines : Int} {F_moves : Int} {F_changes : Int} {G_width : Int} {G_height : Int} {G_size : Int} {B_parts : Int} {B_longest : Int} {S_groups : Int} {S_askedGroup : Int} {S_taken : Int} {R_waitingCount : Int} {R_metCount : Int} {A_grade : Int} {A_cell : Int} {A_mined : Int} {A_withTotal : Int} {A_numbers : Int} {X_low : Int} {X_high : Int} {Y_low : Int} {Y_high : Int} {F_mined : Int → Int} {F_number : Int → Int} {F_state : Int → Int} {F_cellsIn : Int → Int} {F_unknownNear : Int → Int} {F_hitNear : Int → Int} {F_moveStart : Int → Int} {F_changed : Int → Int} {F_waiting : Int → Int} {F_seen : Int → Int} {G_near : Int → Int} {G_nearEnd : Int → Int} {B_chosen : Int → Int} {B_partOf : Int → Int} {B_rest : Int → Int} {B_unknowns : Int → Int} {B_partStart : Int → Int} {B_cells : Int → Int} {S_minedSet : Int → Int} {S_safeSet : Int → Int} {S_partSet : Int → Int} {S_tally : Int → Int} {S_askedTally : Int → Int} {S_groupOf : Int → Int} {S_groupSize : Int → Int} {S_links : Int → Int} {S_linkEnd : Int → Int} {S_pick : Int → Int} {S_groupMinedSet : Int → Int} {S_groupSafeSet : Int → Int} {O_sums : Int → Int64} {O_nextSums : Int → Int64} {R_found : Int → Int} {R_openEnds : Int → Int} {R_need : Int → Int} {R_waiting : Int → Int} {R_waits : Int → Int} {R_common : Int → Int} {R_met : Int → Int} {A_number : Int → Int} {Q_mined : Int → Int64} {Q_all : Int → Int64} {Q_choices : Int → Int64} {Q_term : Int → Int64} {Q_divisor : Int → Int64} {Q_spare : Int → Int64} {X_limbs : Int → Int64} {X_sum : Int → Int64} {Y_limbs : Int → Int64} {Y_sum : Int → Int64} (x1 : Int) (rx1 : inR x1) (post : (Int → Int64) → Prop) (h : P_X10_set_53 post Q_all x1) : mV l yX10_set (Cond.code yX10_set cX10_set 2 none :: GT) ({ frames := 3, cells := 0, slots := 0, locals := 180 } : Room) [.ref (ad 53), .int (iI x1)] K ad (dW D_hasBoard D_beganBlank F_mines F_moves F_changes G_width G_height G_size B_parts B_longest S_groups S_askedGroup S_taken R_waitingCount R_metCount A_grade A_cell A_mined A_withTotal A_numbers X_low X_high Y_low Y_high F_mined F_number F_state F_cellsIn F_unknownNear F_hitNear F_moveStart F_changed F_waiting F_seen G_near G_nearEnd B_chosen B_partOf B_rest B_unknowns B_partStart B_cells S_minedSet S_safeSet S_partSet S_tally S_askedTally S_groupOf S_groupSize S_links S_linkEnd S_pick S_groupMinedSet S_groupSafeSet O_sums O_nextSums R_found R_openEnds R_need R_waiting R_waits R_common R_met A_number Q_mined Q_all Q_choices Q_term Q_divisor Q_spare X_limbs X_sum Y_limbs Y_sum) (fun u9 => ∃ Q_all9, u9 = (dW D_hasBoard D_beganBlank F_mines F_moves F_changes G_width G_height G_size B_parts B_longest S_groups S_askedGroup S_taken R_waitingCount R_metCount A_grade A_cell A_mined A_withTotal A_numbers X_low X_high Y_low Y_high F_mined F_number F_state F_cellsIn F_unknownNear F_hitNear F_moveStart F_changed F_waiting F_seen G_near G_nearEnd B_chosen B_partOf B_rest B_unknowns B_partStart B_cells S_minedSet S_safeSet S_partSet S_tally S_askedTally S_groupOf S_groupSize S_links S_linkEnd S_pick S_groupMinedSet S_groupSafeSet O_sums O_nextSums R_found R_openEnds R_need R_waiting R_waits R_common R_met A_number Q_mined Q_all9 Q_choices Q_term Q_divisor Q_spare X_limbs X_sum Y_limbs Y_sum) ∧ post Q_all9) := by
  refine mV_of (lv0 := [(0, .ref (ad 53)), (1, .int (iI x1))]) (by decide) (Nat.le_of_ble_eq_true rfl) rfl ?_
  intro p e s m args below meth c Q A C ret
  replace C : Cx p ({ frames := 3, cells := 0, slots := 0, locals := 180 } : Room) m c 0 0 cX10_set 2 s args RX10 K A := C
  unfold P_X10_set_53 at h
  refine wa_aload_n C 0 rfl dX10_set_0 rfl ?_
  refine wa_lconst C (v := 0) dX10_set_1 rfl ?_
  refine wa_callSv C (As := [.ref (ad 53), .long (0 : Int64)]) (rest := []) (c_J7_fill_d0a16_53 l K ad (0 : Int64) _ h) gw_822 gw_1094 gw_821 gw_17 q_J7_fill_d0a16 rfl rfl rfl ⟨by decide, by decide⟩ rfl (Nat.le_of_ble_eq_true rfl) dX10_set_2 (fun u9 hp => ?_)
  obtain ⟨Q_all_1, rfl, h⟩ := hp
  refine wa_aload_n C 0 rfl dX10_set_5 rfl ?_
  refine wa_iconst C (z := 0) dX10_set_6 rfl ?_
  refine wa_iload_n C 1 rfl dX10_set_7 rfl ?_
  refine wa_i2l C rx1 dX10_set_8 ?_
  refine wa_last C (ws' := fun w9 => (dW D_hasBoard D_beganBlank F_mines F_moves F_changes G_width G_height G_size B_parts B_longest S_groups S_askedGroup S_taken R_waitingCount R_metCount A_grade A_cell A_mined A_withTotal A_numbers X_low X_high Y_low Y_high F_mined F_number F_state F_cellsIn F_unknownNear F_hitNear F_moveStart F_changed F_waiting F_seen G_near G_nearEnd B_chosen B_partOf B_rest B_unknowns B_partStart B_cells S_minedSet S_safeSet S_partSet S_tally S_askedTally S_groupOf S_groupSize S_links S_linkEnd S_pick S_groupMinedSet S_groupSafeSet O_sums O_nextSums R_found R_openEnds R_need R_waiting R_waits R_common R_met A_number Q_mined w9 Q_choices Q_term Q_divisor Q_spare X_limbs X_sum Y_limbs Y_sum)) 53 dW_53 dX10_set_9 (by decide) (by decide) dWs_53 (fun Q_all_2 eQ_all_2 => ?_)
  replace h := h Q_all_2 eQ_all_2
  exact ret dX10_set_10 ⟨_, rfl, h⟩
def P_X5_reduce (post : (Int → Int64) → (Int → Int64) → (Int → Int64) → (Int → Int64) → (Int → Int64) → Prop) (Q_mined : Int → Int64) (Q_all : Int → Int64) (Q_term : Int → Int64) (Q_divisor : Int → Int64) (Q_spare : Int → Int64) : Prop :=
  P_X10_isZero_52 (fun (c_1 : Int) => (c_1 = 0 ∨ c_1 = 1) → ((c_1 = 0 → (((0 : Int) ≤ 0 ∧ (0 : Int) ≤ 0 ∧ (0 : Int) ≤ 6 ∧ (0 : Int) + 6 ≤ 6 ∧ (0 : Int) + 6 ≤ 6) ∧ (∀ Q_divisor_4 : Int → Int64, Q_divisor_4 = cpZ Q_mined Q_divisor 0 0 6 → (((0 : Int) ≤ 0 ∧ (0 : Int) ≤ 0 ∧ (0 : Int) ≤ 6 ∧ (0 : Int) + 6 ≤ 6 ∧ (0 : Int) + 6 ≤ 6) ∧ (∀ Q_spare_6 : Int → Int64, Q_spare_6 = cpZ Q_all Q_spare 0 0 6 → (P_X10_toCommonDivisor_56_57 (fun (Q_divisor_7 : Int → Int64) (Q_spare_8 : Int → Int64) => (P_X5_divideExactly_52 (fun (Q_mined_9 : Int → Int64) (Q_term_10 : Int → Int64) (Q_spare_11 : Int → Int64) => (P_X5_divideExactly_53 (fun (Q_all_12 : Int → Int64) (Q_term_13 : Int → Int64) (Q_spare_14 : Int → Int64) => (post Q_mined_9 Q_all_12 Q_term_13 Q_divisor_7 Q_spare_14)) Q_all Q_term_10 Q_divisor_7 Q_spare_11 )) Q_mined Q_term Q_divisor_7 Q_spare_8 )) Q_divisor_4 Q_spare_6 )))))) ∧ (¬ c_1 = 0 → (P_X10_set_53 (fun (Q_all_15 : Int → Int64) => (post Q_mined Q_all_15 Q_term Q_divisor Q_spare)) Q_all 1)))) Q_mined 
set_option maxRecDepth 100000 in
set_option maxHeartbeats 4000000 in
theorem c_X5_reduce (l : Launch) (K : wK) (ad : Nat → Nat) {D_hasBoard : Int} {D_beganBlank : Int} {F_mines : Int} {F_moves : Int} {F_changes : Int} {G_width : Int} {G_height : Int} {G_size : Int} {B_parts : Int} {B_longest : Int} {S_groups : Int} {S_askedGroup : Int} {S_taken : Int} {R_waitingCount : Int} {R_metCount : Int} {A_grade : Int} {A_cell : Int} {A_mined : Int} {A_withTotal : Int} {A_numbers : Int} {X_low : Int} {X_high : Int} {Y_low : Int} {Y_high : Int} {F_mined : Int → Int} {F_number : Int → Int} {F_state : Int → Int} {F_cellsIn : Int → Int} {F_unknownNear : Int → Int} {F_hitNear : Int → Int} {F_moveStart : Int → Int} {F_changed : Int → Int} {F_waiting : Int → Int} {F_seen : Int → Int} {G_near : Int → Int} {G_nearEnd : Int → Int} {B_chosen : Int → Int} {B_partOf : Int → Int} {B_rest : Int → Int} {B_unknowns : Int → Int} {B_partStart : Int → Int} {B_cells : Int → Int} {S_minedSet : Int → Int} {S_safeSet : Int → Int} {S_partSet : Int → Int} {S_tally : Int → Int} {S_askedTally : Int → Int} {S_groupOf : Int → Int} {S_groupSize : Int → Int} {S_links : Int → Int} {S_linkEnd : Int → Int} {S_pick : Int → Int} {S_groupMinedSet : Int → Int} {S_groupSafeSet : Int → Int} {O_sums : Int → Int64} {O_nextSums : Int → Int64} {R_found : Int → Int} {R_openEnds : Int → Int} {R_need : Int → Int} {R_waiting : Int → Int} {R_waits : Int → Int} {R_common : Int → Int} {R_met : Int → Int} {A_number : Int → Int} {Q_mined : Int → Int64} {Q_all : Int → Int64} {Q_choices : Int → Int64} {Q_term : Int → Int64} {Q_divisor : Int → Int64} {Q_spare : Int → Int64} {X_limbs : Int → Int64} {X_sum : Int → Int64} {Y_limbs : Int → Int64} {Y_sum : Int → Int64}   (post : (Int → Int64) → (Int → Int64) → (Int → Int64) → (Int → Int64) → (Int → Int64) → Prop) (h : P_X5_reduce post Q_mined Q_all Q_term Q_divisor Q_spare) : mV l yX5_reduce (Cond.code yX5_reduce cX5_reduce 1 none :: GT) ({ frames := 5, cells := 0, slots := 0, locals := 300 } : Room) [.ref (ad 8)] K ad (dW D_hasBoard D_beganBlank F_mines F_moves F_changes G_width G_height G_size B_parts B_longest S_groups S_askedGroup S_taken R_waitingCount R_metCount A_grade A_cell A_mined A_withTotal A_numbers X_low X_high Y_low Y_high F_mined F_number F_state F_cellsIn F_unknownNear F_hitNear F_moveStart F_changed F_waiting F_seen G_near G_nearEnd B_chosen B_partOf B_rest B_unknowns B_partStart B_cells S_minedSet S_safeSet S_partSet S_tally S_askedTally S_groupOf S_groupSize S_links S_linkEnd S_pick S_groupMinedSet S_groupSafeSet O_sums O_nextSums R_found R_openEnds R_need R_waiting R_waits R_common R_met A_number Q_mined Q_all Q_choices Q_term Q_divisor Q_spare X_limbs X_sum Y_limbs Y_sum) (fun u9 => ∃ Q_mined9 Q_all9 Q_term9 Q_divisor9 Q_spare9, u9 = (dW D_hasBoard D_beganBlank F_mines F_moves F_changes G_width G_height G_size B_parts B_longest S_groups S_askedGroup S_taken R_waitingCount R_metCount A_grade A_cell A_mined A_withTotal A_numbers X_low X_high Y_low Y_high F_mined F_number F_state F_cellsIn F_unknownNear F_hitNear F_moveStart F_changed F_waiting F_seen G_near G_nearEnd B_chosen B_partOf B_rest B_unknowns B_partStart B_cells S_minedSet S_safeSet S_partSet S_tally S_askedTally S_groupOf S_groupSize S_links S_linkEnd S_pick S_groupMinedSet S_groupSafeSet O_sums O_nextSums R_found R_openEnds R_need R_waiting R_waits R_common R_met A_number Q_mined9 Q_all9 Q_choices Q_term9 Q_divisor9 Q_spare9 X_limbs X_sum Y_limbs Y_sum) ∧ post Q_mined9 Q_all9 Q_term9 Q_divisor9 Q_spare9) := by
  refine mV_of (lv0 := [(0, .ref (ad 8))]) (by decide) (Nat.le_of_ble_eq_true rfl) rfl ?_
  intro p e s m args below meth c Q A C ret
  replace C : Cx p ({ frames := 5, cells := 0, slots := 0, locals := 300 } : Room) m c 0 0 cX5_reduce 1 s args RX5 K A := C
  unfold P_X5_reduce at h
  refine wa_aload_n C 0 rfl dX5_reduce_0 rfl ?_
  refine wa_getR C 8 0 dW_8 rfl rfl (by decide) okX5 gw_406 dX5_reduce_1 ?_
  refine wa_callSi C (As := [.ref (ad 52)]) (rest := []) (c_X10_isZero_52 l K ad  _ h) gw_1151 gw_1156 gw_1150 gw_23 q_X10_isZero rfl rfl rfl ⟨by decide, by decide⟩ rfl (Nat.le_of_ble_eq_true rfl) dX5_reduce_4 (fun c_1 u9 rc_1 hp => ?_)
  obtain ⟨bc_1, rfl, h⟩ := hp
  replace h := h bc_1
  refine wa_if_eq C (tgt := 19) (inR_b bc_1) dX5_reduce_7 (by decide) (fun c_2 => ?_) (fun c_2 => ?_)
  · replace h := h.1 c_2
    refine wa_aload_n C 0 rfl dX5_reduce_19 rfl ?_
    refine wa_getR C 8 0 dW_8 rfl rfl (by decide) okX5 gw_406 dX5_reduce_20 ?_
    refine wa_iconst C (z := 0) dX5_reduce_23 rfl ?_
    refine wa_aload_n C 0 rfl dX5_reduce_24 rfl ?_
    refine wa_getR C 8 9 dW_8 rfl rfl (by decide) okX5 gw_417 dX5_reduce_25 ?_
    refine wa_iconst C (z := 0) dX5_reduce_28 rfl ?_
    refine wa_bipush C (z := 6) dX5_reduce_29 (by decide) ?_
    obtain ⟨t_3, h⟩ := h
    refine wa_copyl C (ws' := fun w9 => (dW D_hasBoard D_beganBlank F_mines F_moves F_changes G_width G_height G_size B_parts B_longest S_groups S_askedGroup S_taken R_waitingCount R_metCount A_grade A_cell A_mined A_withTotal A_numbers X_low X_high Y_low Y_high F_mined F_number F_state F_cellsIn F_unknownNear F_hitNear F_moveStart F_changed F_waiting F_seen G_near G_nearEnd B_chosen B_partOf B_rest B_unknowns B_partStart B_cells S_minedSet S_safeSet S_partSet S_tally S_askedTally S_groupOf S_groupSize S_links S_linkEnd S_pick S_groupMinedSet S_groupSafeSet O_sums O_nextSums R_found R_openEnds R_need R_waiting R_waits R_common R_met A_number Q_mined Q_all Q_choices Q_term w9 Q_spare X_limbs X_sum Y_limbs Y_sum)) 52 56 dW_52 dW_56 (by decide) gw_1157 (inR_k 0 rfl) (inR_k 0 rfl) (inR_k 6 rfl) t_3 (by decide) (by decide) dX5_reduce_31 dWs_56 (fun Q_divisor_4 eQ_divisor_4 => ?_)
    replace h := h Q_divisor_4 eQ_divisor_4
    refine wa_aload_n C 0 rfl dX5_reduce_34 rfl ?_
    refine wa_getR C 8 1 dW_8 rfl rfl (by decide) okX5 gw_408 dX5_reduce_35 ?_
    refine wa_iconst C (z := 0) dX5_reduce_38 rfl ?_
    refine wa_aload_n C 0 rfl dX5_reduce_39 rfl ?_
    refine wa_getR C 8 10 dW_8 rfl rfl (by decide) okX5 gw_418 dX5_reduce_40 ?_
    refine wa_iconst C (z := 0) dX5_reduce_43 rfl ?_
    refine wa_bipush C (z := 6) dX5_reduce_44 (by decide) ?_
    obtain ⟨t_5, h⟩ := h
    refine wa_copyl C (ws' := fun w9 => (dW D_hasBoard D_beganBlank F_mines F_moves F_changes G_width G_height G_size B_parts B_longest S_groups S_askedGroup S_taken R_waitingCount R_metCount A_grade A_cell A_mined A_withTotal A_numbers X_low X_high Y_low Y_high F_mined F_number F_state F_cellsIn F_unknownNear F_hitNear F_moveStart F_changed F_waiting F_seen G_near G_nearEnd B_chosen B_partOf B_rest B_unknowns B_partStart B_cells S_minedSet S_safeSet S_partSet S_tally S_askedTally S_groupOf S_groupSize S_links S_linkEnd S_pick S_groupMinedSet S_groupSafeSet O_sums O_nextSums R_found R_openEnds R_need R_waiting R_waits R_common R_met A_number Q_mined Q_all Q_choices Q_term Q_divisor_4 w9 X_limbs X_sum Y_limbs Y_sum)) 53 57 dW_53 dW_57 (by decide) gw_1157 (inR_k 0 rfl) (inR_k 0 rfl) (inR_k 6 rfl) t_5 (by decide) (by decide) dX5_reduce_46 dWs_57 (fun Q_spare_6 eQ_spare_6 => ?_)
    replace h := h Q_spare_6 eQ_spare_6
    refine wa_aload_n C 0 rfl dX5_reduce_49 rfl ?_
    refine wa_getR C 8 9 dW_8 rfl rfl (by decide) okX5 gw_417 dX5_reduce_50 ?_
    refine wa_aload_n C 0 rfl dX5_reduce_53 rfl ?_
    refine wa_getR C 8 10 dW_8 rfl rfl (by decide) okX5 gw_418 dX5_reduce_54 ?_
    refine wa_callSv C (As := [.ref (ad 56), .ref (ad 57)]) (rest := []) (c_X10_toCommonDivisor_56_57 l K ad  _ h) gw_1160 gw_1158 gw_1159 gw_23 q_X10_toCommonDivisor rfl rfl rfl ⟨by decide, by decide⟩ rfl (Nat.le_of_ble_eq_true rfl) dX5_reduce_57 (fun u9 hp => ?_)
    obtain ⟨Q_divisor_7, Q_spare_8, rfl, h⟩ := hp
    refine wa_aload_n C 0 rfl dX5_reduce_60 rfl ?_
    refine wa_aload_n C 0 rfl dX5_reduce_61 rfl ?_
    refine wa_getR C 8 0 dW_8 rfl rfl (by decide) okX5 gw_406 dX5_reduce_62 ?_
    refine wa_callVv C (k := 8) (As := [.ref (ad 52)]) (rest := []) (c_X5_divideExactly_52 l K ad  _ h) gw_1185 gw_1182 dW_8 rfl gw_1184 gs_47 gw_9 q_X5_divideExactly rfl rfl rfl ⟨by decide, by decide⟩ rfl (Nat.le_of_ble_eq_true rfl) dX5_reduce_65 (fun u9 hp => ?_)
    obtain ⟨Q_mined_9, Q_term_10, Q_spare_11, rfl, h⟩ := hp
    refine wa_aload_n C 0 rfl dX5_reduce_68 rfl ?_
    refine wa_aload_n C 0 rfl dX5_reduce_69 rfl ?_
    refine wa_getR C 8 1 dW_8 rfl rfl (by decide) okX5 gw_408 dX5_reduce_70 ?_
    refine wa_callVv C (k := 8) (As := [.ref (ad 53)]) (rest := []) (c_X5_divideExactly_53 l K ad  _ h) gw_1185 gw_1182 dW_8 rfl gw_1184 gs_47 gw_9 q_X5_divideExactly rfl rfl rfl ⟨by decide, by decide⟩ rfl (Nat.le_of_ble_eq_true rfl) dX5_reduce_73 (fun u9 hp => ?_)
    obtain ⟨Q_all_12, Q_term_13, Q_spare_14, rfl, h⟩ := hp
    exact ret dX5_reduce_76 ⟨_, _, _, _, _, rfl, h⟩
  · replace h := h.2 c_2
    refine wa_aload_n C 0 rfl dX5_reduce_10 rfl ?_
    refine wa_getR C 8 1 dW_8 rfl rfl (by decide) okX5 gw_408 dX5_reduce_11 ?_
    refine wa_iconst C (z := 1) dX5_reduce_14 rfl ?_
    refine wa_callSv C (As := [.ref (ad 53), .int (iI 1)]) (rest := []) (c_X10_set_53 l K ad 1 (inR_k 1 rfl) _ h) gw_1093 gw_1119 gw_1092 gw_23 q_X10_set rfl rfl rfl ⟨by decide, by decide⟩ rfl (Nat.le_of_ble_eq_true rfl) dX5_reduce_15 (fun u9 hp => ?_)
    obtain ⟨Q_all_15, rfl, h⟩ := hp
    exact ret dX5_reduce_18 ⟨_, _, _, _, _, rfl, h⟩
def P_X10_scale_52 (post : (Int → Int64) → Prop) (Q_mined : Int → Int64) (x1 : Int) : Prop :=
  ∃ Inv_1 : Nat → (Int64) → (Int) → (Int → Int64) → Prop, (∃ n_2 : Nat, Inv_1 n_2 (0 : Int64) 0 Q_mined) ∧ ∀ (n_3 : Nat) (x2_6 : Int64) (x4_7 : Int) (Q_mined_8 : Int → Int64), inR x4_7 → Inv_1 n_3 x2_6 x4_7 Q_mined_8 → ((6 ≤ x4_7 → (post Q_mined_8)) ∧ (¬ 6 ≤ x4_7 → ((0 ≤ x4_7 ∧ x4_7 < 6) ∧ (∀ v_11 : Int64, v_11 = Q_mined_8 x4_7 → (∀ x2_12 : Int64, x2_12 = (x2_6 + (v_11 * (Int64.ofInt x1))) → ((0 ≤ x4_7 ∧ x4_7 < 6) ∧ (∀ Q_mined_14 : Int → Int64, Q_mined_14 = upZ Q_mined_8 x4_7 (x2_12 &&& (2147483647 : Int64)) → (∀ x2_15 : Int64, x2_15 = (ushrL x2_12 31) → (inR (x4_7 + 1) ∧ (∀ x4_17 : Int, x4_17 = (x4_7 + 1) → (∃ n_18 : Nat, n_18 < n_3 ∧ Inv_1 n_18 x2_15 x4_17 Q_mined_14)))))))))))
set_option maxRecDepth 100000 in
set_option maxHeartbeats 4000000 in
theorem c_X10_scale_52 (l : Launch) (K : wK) (ad : Nat → Nat) {D_hasBoard : Int} {D_beganBlank : Int} {F_mines : Int} {F_moves : Int} {F_changes : Int} {G_width : Int} {G_height : Int} {G_size : Int} {B_parts : Int} {B_longest : Int} {S_groups : Int} {S_askedGroup : Int} {S_taken : Int} {R_waitingCount : Int} {R_metCount : Int} {A_grade : Int} {A_cell : Int} {A_mined : Int} {A_withTotal : Int} {A_numbers : Int} {X_low : Int} {X_high : Int} {Y_low : Int} {Y_high : Int} {F_mined : Int → Int} {F_number : Int → Int} {F_state : Int → Int} {F_cellsIn : Int → Int} {F_unknownNear : Int → Int} {F_hitNear : Int → Int} {F_moveStart : Int → Int} {F_changed : Int → Int} {F_waiting : Int → Int} {F_seen : Int → Int} {G_near : Int → Int} {G_nearEnd : Int → Int} {B_chosen : Int → Int} {B_partOf : Int → Int} {B_rest : Int → Int} {B_unknowns : Int → Int} {B_partStart : Int → Int} {B_cells : Int → Int} {S_minedSet : Int → Int} {S_safeSet : Int → Int} {S_partSet : Int → Int} {S_tally : Int → Int} {S_askedTally : Int → Int} {S_groupOf : Int → Int} {S_groupSize : Int → Int} {S_links : Int → Int} {S_linkEnd : Int → Int} {S_pick : Int → Int} {S_groupMinedSet : Int → Int} {S_groupSafeSet : Int → Int} {O_sums : Int → Int64} {O_nextSums : Int → Int64} {R_found : Int → Int} {R_openEnds : Int → Int} {R_need : Int → Int} {R_waiting : Int → Int} {R_waits : Int → Int} {R_common : Int → Int} {R_met : Int → Int} {A_number : Int → Int} {Q_mined : Int → Int64} {Q_all : Int → Int64} {Q_choices : Int → Int64} {Q_term : Int → Int64} {Q_divisor : Int → Int64} {Q_spare : Int → Int64} {X_limbs : Int → Int64} {X_sum : Int → Int64} {Y_limbs : Int → Int64} {Y_sum : Int → Int64} (x1 : Int) (rx1 : inR x1) (post : (Int → Int64) → Prop) (h : P_X10_scale_52 post Q_mined x1) : mV l yX10_scale (Cond.code yX10_scale cX10_scale 5 none :: GT) ({ frames := 2, cells := 0, slots := 0, locals := 120 } : Room) [.ref (ad 52), .int (iI x1)] K ad (dW D_hasBoard D_beganBlank F_mines F_moves F_changes G_width G_height G_size B_parts B_longest S_groups S_askedGroup S_taken R_waitingCount R_metCount A_grade A_cell A_mined A_withTotal A_numbers X_low X_high Y_low Y_high F_mined F_number F_state F_cellsIn F_unknownNear F_hitNear F_moveStart F_changed F_waiting F_seen G_near G_nearEnd B_chosen B_partOf B_rest B_unknowns B_partStart B_cells S_minedSet S_safeSet S_partSet S_tally S_askedTally S_groupOf S_groupSize S_links S_linkEnd S_pick S_groupMinedSet S_groupSafeSet O_sums O_nextSums R_found R_openEnds R_need R_waiting R_waits R_common R_met A_number Q_mined Q_all Q_choices Q_term Q_divisor Q_spare X_limbs X_sum Y_limbs Y_sum) (fun u9 => ∃ Q_mined9, u9 = (dW D_hasBoard D_beganBlank F_mines F_moves F_changes G_width G_height G_size B_parts B_longest S_groups S_askedGroup S_taken R_waitingCount R_metCount A_grade A_cell A_mined A_withTotal A_numbers X_low X_high Y_low Y_high F_mined F_number F_state F_cellsIn F_unknownNear F_hitNear F_moveStart F_changed F_waiting F_seen G_near G_nearEnd B_chosen B_partOf B_rest B_unknowns B_partStart B_cells S_minedSet S_safeSet S_partSet S_tally S_askedTally S_groupOf S_groupSize S_links S_linkEnd S_pick S_groupMinedSet S_groupSafeSet O_sums O_nextSums R_found R_openEnds R_need R_waiting R_waits R_common R_met A_number Q_mined9 Q_all Q_choices Q_term Q_divisor Q_spare X_limbs X_sum Y_limbs Y_sum) ∧ post Q_mined9) := by
  refine mV_of (lv0 := [(0, .ref (ad 52)), (1, .int (iI x1))]) (by decide) (Nat.le_of_ble_eq_true rfl) rfl ?_
  intro p e s m args below meth c Q A C ret
  replace C : Cx p ({ frames := 2, cells := 0, slots := 0, locals := 120 } : Room) m c 0 0 cX10_scale 5 s args RX10 K A := C
  unfold P_X10_scale_52 at h
  refine wa_lconst C (v := 0) dX10_scale_0 rfl ?_
  refine wa_lstore_n C dX10_scale_1 rfl (by decide) rfl ?_
  refine wa_iconst C (z := 0) dX10_scale_2 rfl ?_
  refine wa_istore C dX10_scale_3 (by decide) rfl ?_
  obtain ⟨Inv_1, ⟨n_2, h0Inv_1⟩, hInv_1⟩ := h
  have k_5 : ∀ (n_3 : Nat) (x2_6 : Int64) (x4_7 : Int) (Q_mined_8 : Int → Int64), inR x4_7 → Inv_1 n_3 x2_6 x4_7 Q_mined_8 → WA p l e ({ frames := 2, cells := 0, slots := 0, locals := 120 } : Room) s m args below meth c 0 0 Q K ad 5 A 5 [(0, .ref (ad 52)), (1, .int (iI x1)), (2, .long x2_6), (4, .int (iI x4_7))] [] (dW D_hasBoard D_beganBlank F_mines F_moves F_changes G_width G_height G_size B_parts B_longest S_groups S_askedGroup S_taken R_waitingCount R_metCount A_grade A_cell A_mined A_withTotal A_numbers X_low X_high Y_low Y_high F_mined F_number F_state F_cellsIn F_unknownNear F_hitNear F_moveStart F_changed F_waiting F_seen G_near G_nearEnd B_chosen B_partOf B_rest B_unknowns B_partStart B_cells S_minedSet S_safeSet S_partSet S_tally S_askedTally S_groupOf S_groupSize S_links S_linkEnd S_pick S_groupMinedSet S_groupSafeSet O_sums O_nextSums R_found R_openEnds R_need R_waiting R_waits R_common R_met A_number Q_mined_8 Q_all Q_choices Q_term Q_divisor Q_spare X_limbs X_sum Y_limbs Y_sum) := by
    intro n_3
    induction n_3 using Nat.strongRecOn with
    | ind n_3 ih_4 =>
      intro x2_6 x4_7 Q_mined_8 rx4_7 h
      replace h := hInv_1 n_3 x2_6 x4_7 Q_mined_8 rx4_7 h
      refine wa_iload C 3 rfl dX10_scale_5 ?_
      refine wa_bipush C (z := 6) dX10_scale_7 (by decide) ?_
      refine wa_icmp_ge C (tgt := 42) rx4_7 (inR_k 6 rfl) dX10_scale_9 (by decide) (fun c_9 => ?_) (fun c_9 => ?_)
      · replace h := h.1 c_9
        exact ret dX10_scale_42 ⟨_, rfl, h⟩
      · replace h := h.2 c_9
        refine wa_lload_n C 2 rfl dX10_scale_12 rfl ?_
        refine wa_aload_n C 0 rfl dX10_scale_13 rfl ?_
        refine wa_iload C 3 rfl dX10_scale_14 ?_
        obtain ⟨t_10, h⟩ := h
        refine wa_lald C 52 dW_52 dX10_scale_16 t_10.1 t_10.2 (fun v_11 ev_11 => ?_)
        replace h := h v_11 ev_11
        refine wa_iload_n C 1 rfl dX10_scale_17 rfl ?_
        refine wa_i2l C rx1 dX10_scale_18 ?_
        refine wa_lmul C dX10_scale_19 ?_
        refine wa_ladd C dX10_scale_20 ?_
        refine wa_nml (fun x2_12 ex2_12 => ?_)
        replace h := h x2_12 ex2_12
        refine wa_lstore_n C dX10_scale_21 rfl (by decide) rfl ?_
        refine wa_aload_n C 1 rfl dX10_scale_22 rfl ?_
        refine wa_iload C 3 rfl dX10_scale_23 ?_
        refine wa_lload_n C 0 rfl dX10_scale_25 rfl ?_
        refine wa_ldc2 C gw_1108 dX10_scale_26 ?_
        refine wa_land C dX10_scale_29 ?_
        obtain ⟨t_13, h⟩ := h
        refine wa_last C (ws' := fun w9 => (dW D_hasBoard D_beganBlank F_mines F_moves F_changes G_width G_height G_size B_parts B_longest S_groups S_askedGroup S_taken R_waitingCount R_metCount A_grade A_cell A_mined A_withTotal A_numbers X_low X_high Y_low Y_high F_mined F_number F_state F_cellsIn F_unknownNear F_hitNear F_moveStart F_changed F_waiting F_seen G_near G_nearEnd B_chosen B_partOf B_rest B_unknowns B_partStart B_cells S_minedSet S_safeSet S_partSet S_tally S_askedTally S_groupOf S_groupSize S_links S_linkEnd S_pick S_groupMinedSet S_groupSafeSet O_sums O_nextSums R_found R_openEnds R_need R_waiting R_waits R_common R_met A_number w9 Q_all Q_choices Q_term Q_divisor Q_spare X_limbs X_sum Y_limbs Y_sum)) 52 dW_52 dX10_scale_30 t_13.1 t_13.2 dWs_52 (fun Q_mined_14 eQ_mined_14 => ?_)
        replace h := h Q_mined_14 eQ_mined_14
        refine wa_lload_n C 0 rfl dX10_scale_31 rfl ?_
        refine wa_bipush C (z := 31) dX10_scale_32 (by decide) ?_
        refine wa_lushr C dX10_scale_34 ?_
        refine wa_nml (fun x2_15 ex2_15 => ?_)
        replace h := h x2_15 ex2_15
        refine wa_lstore_n C dX10_scale_35 rfl (by decide) rfl ?_
        obtain ⟨r_16, h⟩ := h
        refine wa_iinc C (lv' := fun w9 => [(4, .int (iI w9)), (2, .long x2_15), (0, .ref (ad 52)), (1, .int (iI x1))]) 3 rfl dX10_scale_36 (by decide) (fun _ => rfl) (fun x4_17 ex4_17 => ?_)
        replace h := h x4_17 ex4_17
        have rx4_17 : inR x4_17 := by rw [ex4_17]; exact r_16
        refine wa_goto C (tgt := 5) dX10_scale_39 (by decide) ?_
        obtain ⟨n_18, ln_18, h⟩ := h
        refine wa_sub C [2, 3, 1, 0] rfl ?_
        exact ih_4 n_18 ln_18 x2_15 x4_17 Q_mined_14 rx4_17 h
  refine wa_sub C [2, 3, 1, 0] rfl ?_
  exact k_5 n_2 (0 : Int64) 0 Q_mined (inR_k 0 rfl) h0Inv_1
def P_X10_isLess_57_53 (post : Int → Prop) (Q_all : Int → Int64) (Q_spare : Int → Int64) : Prop :=
  ∃ Inv_1 : Nat → (Int) → Prop, (∃ n_2 : Nat, Inv_1 n_2 5) ∧ ∀ (n_3 : Nat) (x2_6 : Int), inR x2_6 → Inv_1 n_3 x2_6 → ((x2_6 < 0 → (post 0)) ∧ (¬ x2_6 < 0 → ((0 ≤ x2_6 ∧ x2_6 < 6) ∧ (∀ v_9 : Int64, v_9 = Q_spare x2_6 → ((0 ≤ x2_6 ∧ x2_6 < 6) ∧ (∀ v_11 : Int64, v_11 = Q_all x2_6 → (((lcI v_9 v_11) = 0 → (inR (x2_6 + (-1)) ∧ (∀ x2_14 : Int, x2_14 = (x2_6 + (-1)) → (∃ n_15 : Nat, n_15 < n_3 ∧ Inv_1 n_15 x2_14)))) ∧ (¬ (lcI v_9 v_11) = 0 → ((0 ≤ x2_6 ∧ x2_6 < 6) ∧ (∀ v_17 : Int64, v_17 = Q_spare x2_6 → ((0 ≤ x2_6 ∧ x2_6 < 6) ∧ (∀ v_19 : Int64, v_19 = Q_all x2_6 → (∃ J_20 : (Int) → Prop, ((0 ≤ (lcI v_17 v_19) → (J_20 0)) ∧ (¬ 0 ≤ (lcI v_17 v_19) → (J_20 1))) ∧ (∀ (z_22 : Int), inR z_22 → J_20 z_22 → ((z_22 = 0 ∨ z_22 = 1) ∧ (post z_22))))))))))))))))
set_option maxRecDepth 100000 in
set_option maxHeartbeats 4000000 in
theorem c_X10_isLess_57_53 (l : Launch) (K : wK) (ad : Nat → Nat) {D_hasBoard : Int} {D_beganBlank : Int} {F_mines : Int} {F_moves : Int} {F_changes : Int} {G_width : Int} {G_height : Int} {G_size : Int} {B_parts : Int} {B_longest : Int} {S_groups : Int} {S_askedGroup : Int} {S_taken : Int} {R_waitingCount : Int} {R_metCount : Int} {A_grade : Int} {A_cell : Int} {A_mined : Int} {A_withTotal : Int} {A_numbers : Int} {X_low : Int} {X_high : Int} {Y_low : Int} {Y_high : Int} {F_mined : Int → Int} {F_number : Int → Int} {F_state : Int → Int} {F_cellsIn : Int → Int} {F_unknownNear : Int → Int} {F_hitNear : Int → Int} {F_moveStart : Int → Int} {F_changed : Int → Int} {F_waiting : Int → Int} {F_seen : Int → Int} {G_near : Int → Int} {G_nearEnd : Int → Int} {B_chosen : Int → Int} {B_partOf : Int → Int} {B_rest : Int → Int} {B_unknowns : Int → Int} {B_partStart : Int → Int} {B_cells : Int → Int} {S_minedSet : Int → Int} {S_safeSet : Int → Int} {S_partSet : Int → Int} {S_tally : Int → Int} {S_askedTally : Int → Int} {S_groupOf : Int → Int} {S_groupSize : Int → Int} {S_links : Int → Int} {S_linkEnd : Int → Int} {S_pick : Int → Int} {S_groupMinedSet : Int → Int} {S_groupSafeSet : Int → Int} {O_sums : Int → Int64} {O_nextSums : Int → Int64} {R_found : Int → Int} {R_openEnds : Int → Int} {R_need : Int → Int} {R_waiting : Int → Int} {R_waits : Int → Int} {R_common : Int → Int} {R_met : Int → Int} {A_number : Int → Int} {Q_mined : Int → Int64} {Q_all : Int → Int64} {Q_choices : Int → Int64} {Q_term : Int → Int64} {Q_divisor : Int → Int64} {Q_spare : Int → Int64} {X_limbs : Int → Int64} {X_sum : Int → Int64} {Y_limbs : Int → Int64} {Y_sum : Int → Int64}   (post : Int → Prop) (h : P_X10_isLess_57_53 post Q_all Q_spare) : mI l yX10_isLess (Cond.code yX10_isLess cX10_isLess 3 (some .boolean) :: GT) ({ frames := 2, cells := 0, slots := 0, locals := 120 } : Room) [.ref (ad 57), .ref (ad 53)] K ad (dW D_hasBoard D_beganBlank F_mines F_moves F_changes G_width G_height G_size B_parts B_longest S_groups S_askedGroup S_taken R_waitingCount R_metCount A_grade A_cell A_mined A_withTotal A_numbers X_low X_high Y_low Y_high F_mined F_number F_state F_cellsIn F_unknownNear F_hitNear F_moveStart F_changed F_waiting F_seen G_near G_nearEnd B_chosen B_partOf B_rest B_unknowns B_partStart B_cells S_minedSet S_safeSet S_partSet S_tally S_askedTally S_groupOf S_groupSize S_links S_linkEnd S_pick S_groupMinedSet S_groupSafeSet O_sums O_nextSums R_found R_openEnds R_need R_waiting R_waits R_common R_met A_number Q_mined Q_all Q_choices Q_term Q_divisor Q_spare X_limbs X_sum Y_limbs Y_sum) (fun z9 u9 => (z9 = 0 ∨ z9 = 1) ∧ u9 = (dW D_hasBoard D_beganBlank F_mines F_moves F_changes G_width G_height G_size B_parts B_longest S_groups S_askedGroup S_taken R_waitingCount R_metCount A_grade A_cell A_mined A_withTotal A_numbers X_low X_high Y_low Y_high F_mined F_number F_state F_cellsIn F_unknownNear F_hitNear F_moveStart F_changed F_waiting F_seen G_near G_nearEnd B_chosen B_partOf B_rest B_unknowns B_partStart B_cells S_minedSet S_safeSet S_partSet S_tally S_askedTally S_groupOf S_groupSize S_links S_linkEnd S_pick S_groupMinedSet S_groupSafeSet O_sums O_nextSums R_found R_openEnds R_need R_waiting R_waits R_common R_met A_number Q_mined Q_all Q_choices Q_term Q_divisor Q_spare X_limbs X_sum Y_limbs Y_sum) ∧ post z9) := by
  refine mZ_of (lv0 := [(0, .ref (ad 57)), (1, .ref (ad 53))]) (by decide) (Nat.le_of_ble_eq_true rfl) rfl ?_
  intro p e s m args below meth c Q A C ret
  replace C : Cx p ({ frames := 2, cells := 0, slots := 0, locals := 120 } : Room) m c 0 0 cX10_isLess 3 s args RX10 K A := C
  unfold P_X10_isLess_57_53 at h
  refine wa_iconst C (z := 5) dX10_isLess_0 rfl ?_
  refine wa_istore_n C dX10_isLess_1 rfl (by decide) rfl ?_
  obtain ⟨Inv_1, ⟨n_2, h0Inv_1⟩, hInv_1⟩ := h
  have k_5 : ∀ (n_3 : Nat) (x2_6 : Int), inR x2_6 → Inv_1 n_3 x2_6 → WA p l e ({ frames := 2, cells := 0, slots := 0, locals := 120 } : Room) s m args below meth c 0 0 Q K ad 3 A 2 [(0, .ref (ad 57)), (1, .ref (ad 53)), (2, .int (iI x2_6))] [] (dW D_hasBoard D_beganBlank F_mines F_moves F_changes G_width G_height G_size B_parts B_longest S_groups S_askedGroup S_taken R_waitingCount R_metCount A_grade A_cell A_mined A_withTotal A_numbers X_low X_high Y_low Y_high F_mined F_number F_state F_cellsIn F_unknownNear F_hitNear F_moveStart F_changed F_waiting F_seen G_near G_nearEnd B_chosen B_partOf B_rest B_unknowns B_partStart B_cells S_minedSet S_safeSet S_partSet S_tally S_askedTally S_groupOf S_groupSize S_links S_linkEnd S_pick S_groupMinedSet S_groupSafeSet O_sums O_nextSums R_found R_openEnds R_need R_waiting R_waits R_common R_met A_number Q_mined Q_all Q_choices Q_term Q_divisor Q_spare X_limbs X_sum Y_limbs Y_sum) := by
    intro n_3
    induction n_3 using Nat.strongRecOn with
    | ind n_3 ih_4 =>
      intro x2_6 rx2_6 h
      replace h := hInv_1 n_3 x2_6 rx2_6 h
      refine wa_iload_n C 2 rfl dX10_isLess_2 rfl ?_
      refine wa_if_lt C (tgt := 38) rx2_6 dX10_isLess_3 (by decide) (fun c_7 => ?_) (fun c_7 => ?_)
      · replace h := h.1 c_7
        refine wa_iconst C (z := 0) dX10_isLess_38 rfl ?_
        exact ret dX10_isLess_39 (Or.inl rfl) ⟨(Or.inl rfl), rfl, h⟩
      · replace h := h.2 c_7
        refine wa_aload_n C 0 rfl dX10_isLess_6 rfl ?_
        refine wa_iload_n C 2 rfl dX10_isLess_7 rfl ?_
        obtain ⟨t_8, h⟩ := h
        refine wa_lald C 57 dW_57 dX10_isLess_8 t_8.1 t_8.2 (fun v_9 ev_9 => ?_)
        replace h := h v_9 ev_9
        refine wa_aload_n C 1 rfl dX10_isLess_9 rfl ?_
        refine wa_iload_n C 2 rfl dX10_isLess_10 rfl ?_
        obtain ⟨t_10, h⟩ := h
        refine wa_lald C 53 dW_53 dX10_isLess_11 t_10.1 t_10.2 (fun v_11 ev_11 => ?_)
        replace h := h v_11 ev_11
        refine wa_lcmp C dX10_isLess_12 ?_
        refine wa_if_eq C (tgt := 32) (lcI_r _ _) dX10_isLess_13 (by decide) (fun c_12 => ?_) (fun c_12 => ?_)
        · replace h := h.1 c_12
          obtain ⟨r_13, h⟩ := h
          refine wa_iinc C (lv' := fun w9 => [(2, .int (iI w9)), (0, .ref (ad 57)), (1, .ref (ad 53))]) 2 rfl dX10_isLess_32 (by decide) (fun _ => rfl) (fun x2_14 ex2_14 => ?_)
          replace h := h x2_14 ex2_14
          have rx2_14 : inR x2_14 := by rw [ex2_14]; exact r_13
          refine wa_goto C (tgt := 2) dX10_isLess_35 (by decide) ?_
          obtain ⟨n_15, ln_15, h⟩ := h
          refine wa_sub C [1, 2, 0] rfl ?_
          exact ih_4 n_15 ln_15 x2_14 rx2_14 h
        · replace h := h.2 c_12
          refine wa_aload_n C 0 rfl dX10_isLess_16 rfl ?_
          refine wa_iload_n C 2 rfl dX10_isLess_17 rfl ?_
          obtain ⟨t_16, h⟩ := h
          refine wa_lald C 57 dW_57 dX10_isLess_18 t_16.1 t_16.2 (fun v_17 ev_17 => ?_)
          replace h := h v_17 ev_17
          refine wa_aload_n C 1 rfl dX10_isLess_19 rfl ?_
          refine wa_iload_n C 2 rfl dX10_isLess_20 rfl ?_
          obtain ⟨t_18, h⟩ := h
          refine wa_lald C 53 dW_53 dX10_isLess_21 t_18.1 t_18.2 (fun v_19 ev_19 => ?_)
          replace h := h v_19 ev_19
          refine wa_lcmp C dX10_isLess_22 ?_
          obtain ⟨J_20, h, hJ_20⟩ := h
          have k_21 : ∀ (z_22 : Int), inR z_22 → J_20 z_22 → WA p l e ({ frames := 2, cells := 0, slots := 0, locals := 120 } : Room) s m args below meth c 0 0 Q K ad 3 A 31 [] [.int (iI z_22)] (dW D_hasBoard D_beganBlank F_mines F_moves F_changes G_width G_height G_size B_parts B_longest S_groups S_askedGroup S_taken R_waitingCount R_metCount A_grade A_cell A_mined A_withTotal A_numbers X_low X_high Y_low Y_high F_mined F_number F_state F_cellsIn F_unknownNear F_hitNear F_moveStart F_changed F_waiting F_seen G_near G_nearEnd B_chosen B_partOf B_rest B_unknowns B_partStart B_cells S_minedSet S_safeSet S_partSet S_tally S_askedTally S_groupOf S_groupSize S_links S_linkEnd S_pick S_groupMinedSet S_groupSafeSet O_sums O_nextSums R_found R_openEnds R_need R_waiting R_waits R_common R_met A_number Q_mined Q_all Q_choices Q_term Q_divisor Q_spare X_limbs X_sum Y_limbs Y_sum) := by
            intro z_22 rz_22 h
            replace h := hJ_20 z_22 rz_22 h
            obtain ⟨b_23, h⟩ := h
            exact ret dX10_isLess_31 b_23 ⟨b_23, rfl, h⟩
          refine wa_if_ge C (tgt := 30) (lcI_r _ _) dX10_isLess_23 (by decide) (fun c_24 => ?_) (fun c_24 => ?_)
          · replace h := h.1 c_24
            refine wa_iconst C (z := 0) dX10_isLess_30 rfl ?_
            refine wa_sub C [] rfl ?_
            exact k_21 0 (inR_k 0 rfl) h
          · replace h := h.2 c_24
            refine wa_iconst C (z := 1) dX10_isLess_26 rfl ?_
            refine wa_goto C (tgt := 31) dX10_isLess_27 (by decide) ?_
            refine wa_sub C [] rfl ?_
            exact k_21 1 (inR_k 1 rfl) h
  refine wa_sub C [1, 2, 0] rfl ?_
  exact k_5 n_2 5 (inR_k 5 rfl) h0Inv_1
def P_X10_subtract_57_53 (post : (Int → Int64) → Prop) (Q_all : Int → Int64) (Q_spare : Int → Int64) : Prop :=
  ∃ Inv_1 : Nat → (Int64) → (Int) → (Int → Int64) → Prop, (∃ n_2 : Nat, Inv_1 n_2 (0 : Int64) 0 Q_spare) ∧ ∀ (n_3 : Nat) (x2_6 : Int64) (x4_7 : Int) (Q_spare_8 : Int → Int64), inR x4_7 → Inv_1 n_3 x2_6 x4_7 Q_spare_8 → ((6 ≤ x4_7 → (post Q_spare_8)) ∧ (¬ 6 ≤ x4_7 → ((0 ≤ x4_7 ∧ x4_7 < 6) ∧ (∀ v_11 : Int64, v_11 = Q_spare_8 x4_7 → ((0 ≤ x4_7 ∧ x4_7 < 6) ∧ (∀ v_13 : Int64, v_13 = Q_all x4_7 → (∀ x2_14 : Int64, x2_14 = (x2_6 + (v_11 - v_13)) → ((0 ≤ x4_7 ∧ x4_7 < 6) ∧ (∀ Q_spare_16 : Int → Int64, Q_spare_16 = upZ Q_spare_8 x4_7 (x2_14 &&& (2147483647 : Int64)) → (∀ x2_17 : Int64, x2_17 = (shrL x2_14 31) → (inR (x4_7 + 1) ∧ (∀ x4_19 : Int, x4_19 = (x4_7 + 1) → (∃ n_20 : Nat, n_20 < n_3 ∧ Inv_1 n_20 x2_17 x4_19 Q_spare_16)))))))))))))
set_option maxRecDepth 100000 in
set_option maxHeartbeats 4000000 in
theorem c_X10_subtract_57_53 (l : Launch) (K : wK) (ad : Nat → Nat) {D_hasBoard : Int} {D_beganBlank : Int} {F_mines : Int} {F_moves : Int} {F_changes : Int} {G_width : Int} {G_height : Int} {G_size : Int} {B_parts : Int} {B_longest : Int} {S_groups : Int} {S_askedGroup : Int} {S_taken : Int} {R_waitingCount : Int} {R_metCount : Int} {A_grade : Int} {A_cell : Int} {A_mined : Int} {A_withTotal : Int} {A_numbers : Int} {X_low : Int} {X_high : Int} {Y_low : Int} {Y_high : Int} {F_mined : Int → Int} {F_number : Int → Int} {F_state : Int → Int} {F_cellsIn : Int → Int} {F_unknownNear : Int → Int} {F_hitNear : Int → Int} {F_moveStart : Int → Int} {F_changed : Int → Int} {F_waiting : Int → Int} {F_seen : Int → Int} {G_near : Int → Int} {G_nearEnd : Int → Int} {B_chosen : Int → Int} {B_partOf : Int → Int} {B_rest : Int → Int} {B_unknowns : Int → Int} {B_partStart : Int → Int} {B_cells : Int → Int} {S_minedSet : Int → Int} {S_safeSet : Int → Int} {S_partSet : Int → Int} {S_tally : Int → Int} {S_askedTally : Int → Int} {S_groupOf : Int → Int} {S_groupSize : Int → Int} {S_links : Int → Int} {S_linkEnd : Int → Int} {S_pick : Int → Int} {S_groupMinedSet : Int → Int} {S_groupSafeSet : Int → Int} {O_sums : Int → Int64} {O_nextSums : Int → Int64} {R_found : Int → Int} {R_openEnds : Int → Int} {R_need : Int → Int} {R_waiting : Int → Int} {R_waits : Int → Int} {R_common : Int → Int} {R_met : Int → Int} {A_number : Int → Int} {Q_mined : Int → Int64} {Q_all : Int → Int64} {Q_choices : Int → Int64} {Q_term : Int → Int64} {Q_divisor : Int → Int64} {Q_spare : Int → Int64} {X_limbs : Int → Int64} {X_sum : Int → Int64} {Y_limbs : Int → Int64} {Y_sum : Int → Int64}   (post : (Int → Int64) → Prop) (h : P_X10_subtract_57_53 post Q_all Q_spare) : mV l yX10_subtract (Cond.code yX10_subtract cX10_subtract 5 none :: GT) ({ frames := 2, cells := 0, slots := 0, locals := 120 } : Room) [.ref (ad 57), .ref (ad 53)] K ad (dW D_hasBoard D_beganBlank F_mines F_moves F_changes G_width G_height G_size B_parts B_longest S_groups S_askedGroup S_taken R_waitingCount R_metCount A_grade A_cell A_mined A_withTotal A_numbers X_low X_high Y_low Y_high F_mined F_number F_state F_cellsIn F_unknownNear F_hitNear F_moveStart F_changed F_waiting F_seen G_near G_nearEnd B_chosen B_partOf B_rest B_unknowns B_partStart B_cells S_minedSet S_safeSet S_partSet S_tally S_askedTally S_groupOf S_groupSize S_links S_linkEnd S_pick S_groupMinedSet S_groupSafeSet O_sums O_nextSums R_found R_openEnds R_need R_waiting R_waits R_common R_met A_number Q_mined Q_all Q_choices Q_term Q_divisor Q_spare X_limbs X_sum Y_limbs Y_sum) (fun u9 => ∃ Q_spare9, u9 = (dW D_hasBoard D_beganBlank F_mines F_moves F_changes G_width G_height G_size B_parts B_longest S_groups S_askedGroup S_taken R_waitingCount R_metCount A_grade A_cell A_mined A_withTotal A_numbers X_low X_high Y_low Y_high F_mined F_number F_state F_cellsIn F_unknownNear F_hitNear F_moveStart F_changed F_waiting F_seen G_near G_nearEnd B_chosen B_partOf B_rest B_unknowns B_partStart B_cells S_minedSet S_safeSet S_partSet S_tally S_askedTally S_groupOf S_groupSize S_links S_linkEnd S_pick S_groupMinedSet S_groupSafeSet O_sums O_nextSums R_found R_openEnds R_need R_waiting R_waits R_common R_met A_number Q_mined Q_all Q_choices Q_term Q_divisor Q_spare9 X_limbs X_sum Y_limbs Y_sum) ∧ post Q_spare9) := by
  refine mV_of (lv0 := [(0, .ref (ad 57)), (1, .ref (ad 53))]) (by decide) (Nat.le_of_ble_eq_true rfl) rfl ?_
  intro p e s m args below meth c Q A C ret
  replace C : Cx p ({ frames := 2, cells := 0, slots := 0, locals := 120 } : Room) m c 0 0 cX10_subtract 5 s args RX10 K A := C
  unfold P_X10_subtract_57_53 at h
  refine wa_lconst C (v := 0) dX10_subtract_0 rfl ?_
  refine wa_lstore_n C dX10_subtract_1 rfl (by decide) rfl ?_
  refine wa_iconst C (z := 0) dX10_subtract_2 rfl ?_
  refine wa_istore C dX10_subtract_3 (by decide) rfl ?_
  obtain ⟨Inv_1, ⟨n_2, h0Inv_1⟩, hInv_1⟩ := h
  have k_5 : ∀ (n_3 : Nat) (x2_6 : Int64) (x4_7 : Int) (Q_spare_8 : Int → Int64), inR x4_7 → Inv_1 n_3 x2_6 x4_7 Q_spare_8 → WA p l e ({ frames := 2, cells := 0, slots := 0, locals := 120 } : Room) s m args below meth c 0 0 Q K ad 5 A 5 [(0, .ref (ad 57)), (1, .ref (ad 53)), (2, .long x2_6), (4, .int (iI x4_7))] [] (dW D_hasBoard D_beganBlank F_mines F_moves F_changes G_width G_height G_size B_parts B_longest S_groups S_askedGroup S_taken R_waitingCount R_metCount A_grade A_cell A_mined A_withTotal A_numbers X_low X_high Y_low Y_high F_mined F_number F_state F_cellsIn F_unknownNear F_hitNear F_moveStart F_changed F_waiting F_seen G_near G_nearEnd B_chosen B_partOf B_rest B_unknowns B_partStart B_cells S_minedSet S_safeSet S_partSet S_tally S_askedTally S_groupOf S_groupSize S_links S_linkEnd S_pick S_groupMinedSet S_groupSafeSet O_sums O_nextSums R_found R_openEnds R_need R_waiting R_waits R_common R_met A_number Q_mined Q_all Q_choices Q_term Q_divisor Q_spare_8 X_limbs X_sum Y_limbs Y_sum) := by
    intro n_3
    induction n_3 using Nat.strongRecOn with
    | ind n_3 ih_4 =>
      intro x2_6 x4_7 Q_spare_8 rx4_7 h
      replace h := hInv_1 n_3 x2_6 x4_7 Q_spare_8 rx4_7 h
      refine wa_iload C 3 rfl dX10_subtract_5 ?_
      refine wa_bipush C (z := 6) dX10_subtract_7 (by decide) ?_
      refine wa_icmp_ge C (tgt := 44) rx4_7 (inR_k 6 rfl) dX10_subtract_9 (by decide) (fun c_9 => ?_) (fun c_9 => ?_)
      · replace h := h.1 c_9
        exact ret dX10_subtract_44 ⟨_, rfl, h⟩
      · replace h := h.2 c_9
        refine wa_lload_n C 2 rfl dX10_subtract_12 rfl ?_
        refine wa_aload_n C 0 rfl dX10_subtract_13 rfl ?_
        refine wa_iload C 3 rfl dX10_subtract_14 ?_
        obtain ⟨t_10, h⟩ := h
        refine wa_lald C 57 dW_57 dX10_subtract_16 t_10.1 t_10.2 (fun v_11 ev_11 => ?_)
        replace h := h v_11 ev_11
        refine wa_aload_n C 1 rfl dX10_subtract_17 rfl ?_
        refine wa_iload C 3 rfl dX10_subtract_18 ?_
        obtain ⟨t_12, h⟩ := h
        refine wa_lald C 53 dW_53 dX10_subtract_20 t_12.1 t_12.2 (fun v_13 ev_13 => ?_)
        replace h := h v_13 ev_13
        refine wa_lsub C dX10_subtract_21 ?_
        refine wa_ladd C dX10_subtract_22 ?_
        refine wa_nml (fun x2_14 ex2_14 => ?_)
        replace h := h x2_14 ex2_14
        refine wa_lstore_n C dX10_subtract_23 rfl (by decide) rfl ?_
        refine wa_aload_n C 1 rfl dX10_subtract_24 rfl ?_
        refine wa_iload C 3 rfl dX10_subtract_25 ?_
        refine wa_lload_n C 0 rfl dX10_subtract_27 rfl ?_
        refine wa_ldc2 C gw_1108 dX10_subtract_28 ?_
        refine wa_land C dX10_subtract_31 ?_
        obtain ⟨t_15, h⟩ := h
        refine wa_last C (ws' := fun w9 => (dW D_hasBoard D_beganBlank F_mines F_moves F_changes G_width G_height G_size B_parts B_longest S_groups S_askedGroup S_taken R_waitingCount R_metCount A_grade A_cell A_mined A_withTotal A_numbers X_low X_high Y_low Y_high F_mined F_number F_state F_cellsIn F_unknownNear F_hitNear F_moveStart F_changed F_waiting F_seen G_near G_nearEnd B_chosen B_partOf B_rest B_unknowns B_partStart B_cells S_minedSet S_safeSet S_partSet S_tally S_askedTally S_groupOf S_groupSize S_links S_linkEnd S_pick S_groupMinedSet S_groupSafeSet O_sums O_nextSums R_found R_openEnds R_need R_waiting R_waits R_common R_met A_number Q_mined Q_all Q_choices Q_term Q_divisor w9 X_limbs X_sum Y_limbs Y_sum)) 57 dW_57 dX10_subtract_32 t_15.1 t_15.2 dWs_57 (fun Q_spare_16 eQ_spare_16 => ?_)
        replace h := h Q_spare_16 eQ_spare_16
        refine wa_lload_n C 0 rfl dX10_subtract_33 rfl ?_
        refine wa_bipush C (z := 31) dX10_subtract_34 (by decide) ?_
        refine wa_lshr C dX10_subtract_36 ?_
        refine wa_nml (fun x2_17 ex2_17 => ?_)
        replace h := h x2_17 ex2_17
        refine wa_lstore_n C dX10_subtract_37 rfl (by decide) rfl ?_
        obtain ⟨r_18, h⟩ := h
        refine wa_iinc C (lv' := fun w9 => [(4, .int (iI w9)), (2, .long x2_17), (0, .ref (ad 57)), (1, .ref (ad 53))]) 3 rfl dX10_subtract_38 (by decide) (fun _ => rfl) (fun x4_19 ex4_19 => ?_)
        replace h := h x4_19 ex4_19
        have rx4_19 : inR x4_19 := by rw [ex4_19]; exact r_18
        refine wa_goto C (tgt := 5) dX10_subtract_41 (by decide) ?_
        obtain ⟨n_20, ln_20, h⟩ := h
        refine wa_sub C [2, 3, 1, 0] rfl ?_
        exact ih_4 n_20 ln_20 x2_17 x4_19 Q_spare_16 rx4_19 h
  refine wa_sub C [2, 3, 1, 0] rfl ?_
  exact k_5 n_2 (0 : Int64) 0 Q_spare (inR_k 0 rfl) h0Inv_1
def P_X10_divide_52_53_55_57 (post : (Int → Int64) → (Int → Int64) → Prop) (Q_mined : Int → Int64) (Q_all : Int → Int64) (Q_term : Int → Int64) (Q_spare : Int → Int64) : Prop :=
  P_J7_fill_d0a16_55 (fun (Q_term_1 : Int → Int64) => (P_J7_fill_d0a16_57 (fun (Q_spare_2 : Int → Int64) => (∃ Inv_3 : Nat → (Int) → (Int → Int64) → (Int → Int64) → Prop, (∃ n_4 : Nat, Inv_3 n_4 185 Q_term_1 Q_spare_2) ∧ ∀ (n_5 : Nat) (x4_8 : Int) (Q_term_9 : Int → Int64) (Q_spare_10 : Int → Int64), inR x4_8 → Inv_3 n_5 x4_8 Q_term_9 Q_spare_10 → ((x4_8 < 0 → (post Q_term_9 Q_spare_10)) ∧ (¬ x4_8 < 0 → (inR (x4_8.tdiv 31) ∧ (∀ x5_13 : Int, x5_13 = (x4_8.tdiv 31) → (P_X10_scale_57 (fun (Q_spare_14 : Int → Int64) => (∀ v_15 : Int64, v_15 = Q_spare_14 0 → ((0 ≤ x5_13 ∧ x5_13 < 6) ∧ (∀ v_17 : Int64, v_17 = Q_mined x5_13 → (∀ Q_spare_18 : Int → Int64, Q_spare_18 = upZ Q_spare_14 0 (v_15 ||| ((shrL v_17 (x4_8.tmod 31)) &&& (1 : Int64))) → (P_X10_isLess_57_53 (fun (c_19 : Int) => (c_19 = 0 ∨ c_19 = 1) → (∃ J_20 : (Int → Int64) → (Int → Int64) → Prop, ((¬ c_19 = 0 → (J_20 Q_term_9 Q_spare_18)) ∧ (c_19 = 0 → (P_X10_subtract_57_53 (fun (Q_spare_28 : Int → Int64) => ((0 ≤ x5_13 ∧ x5_13 < 6) ∧ (∀ v_30 : Int64, v_30 = Q_term_9 x5_13 → ((0 ≤ x5_13 ∧ x5_13 < 6) ∧ (∀ Q_term_32 : Int → Int64, Q_term_32 = upZ Q_term_9 x5_13 (v_30 ||| (shlL (1 : Int64) (x4_8.tmod 31))) → (J_20 Q_term_32 Q_spare_28)))))) Q_all Q_spare_18 ))) ∧ (∀ (Q_term_22 : Int → Int64) (Q_spare_23 : Int → Int64), J_20 Q_term_22 Q_spare_23 → (inR (x4_8 + (-1)) ∧ (∀ x4_25 : Int, x4_25 = (x4_8 + (-1)) → (∃ n_26 : Nat, n_26 < n_5 ∧ Inv_3 n_26 x4_25 Q_term_22 Q_spare_23)))))) Q_all Q_spare_18 )))))) Q_spare_10 2))))))) Q_spare (0 : Int64))) Q_term (0 : Int64)
set_option maxRecDepth 100000 in
set_option maxHeartbeats 4000000 in
theorem c_X10_divide_52_53_55_57 (l : Launch) (K : wK) (ad : Nat → Nat) {D_hasBoard : Int} {D_beganBlank : Int} {F_mines : Int} {F_moves : Int} {F_changes : Int} {G_width : Int} {G_height : Int} {G_size : Int} {B_parts : Int} {B_longest : Int} {S_groups : Int} {S_askedGroup : Int} {S_taken : Int} {R_waitingCount : Int} {R_metCount : Int} {A_grade : Int} {A_cell : Int} {A_mined : Int} {A_withTotal : Int} {A_numbers : Int} {X_low : Int} {X_high : Int} {Y_low : Int} {Y_high : Int} {F_mined : Int → Int} {F_number : Int → Int} {F_state : Int → Int} {F_cellsIn : Int → Int} {F_unknownNear : Int → Int} {F_hitNear : Int → Int} {F_moveStart : Int → Int} {F_changed : Int → Int} {F_waiting : Int → Int} {F_seen : Int → Int} {G_near : Int → Int} {G_nearEnd : Int → Int} {B_chosen : Int → Int} {B_partOf : Int → Int} {B_rest : Int → Int} {B_unknowns : Int → Int} {B_partStart : Int → Int} {B_cells : Int → Int} {S_minedSet : Int → Int} {S_safeSet : Int → Int} {S_partSet : Int → Int} {S_tally : Int → Int} {S_askedTally : Int → Int} {S_groupOf : Int → Int} {S_groupSize : Int → Int} {S_links : Int → Int} {S_linkEnd : Int → Int} {S_pick : Int → Int} {S_groupMinedSet : Int → Int} {S_groupSafeSet : Int → Int} {O_sums : Int → Int64} {O_nextSums : Int → Int64} {R_found : Int → Int} {R_openEnds : Int → Int} {R_need : Int → Int} {R_waiting : Int → Int} {R_waits : Int → Int} {R_common : Int → Int} {R_met : Int → Int} {A_number : Int → Int} {Q_mined : Int → Int64} {Q_all : Int → Int64} {Q_choices : Int → Int64} {Q_term : Int → Int64} {Q_divisor : Int → Int64} {Q_spare : Int → Int64} {X_limbs : Int → Int64} {X_sum : Int → Int64} {Y_limbs : Int → Int64} {Y_sum : Int → Int64}   (post : (Int → Int64) → (Int → Int64) → Prop) (h : P_X10_divide_52_53_55_57 post Q_mined Q_all Q_term Q_spare) : mV l yX10_divide (Cond.code yX10_divide cX10_divide 6 none :: GT) ({ frames := 3, cells := 0, slots := 0, locals := 180 } : Room) [.ref (ad 52), .ref (ad 53), .ref (ad 55), .ref (ad 57)] K ad (dW D_hasBoard D_beganBlank F_mines F_moves F_changes G_width G_height G_size B_parts B_longest S_groups S_askedGroup S_taken R_waitingCount R_metCount A_grade A_cell A_mined A_withTotal A_numbers X_low X_high Y_low Y_high F_mined F_number F_state F_cellsIn F_unknownNear F_hitNear F_moveStart F_changed F_waiting F_seen G_near G_nearEnd B_chosen B_partOf B_rest B_unknowns B_partStart B_cells S_minedSet S_safeSet S_partSet S_tally S_askedTally S_groupOf S_groupSize S_links S_linkEnd S_pick S_groupMinedSet S_groupSafeSet O_sums O_nextSums R_found R_openEnds R_need R_waiting R_waits R_common R_met A_number Q_mined Q_all Q_choices Q_term Q_divisor Q_spare X_limbs X_sum Y_limbs Y_sum) (fun u9 => ∃ Q_term9 Q_spare9, u9 = (dW D_hasBoard D_beganBlank F_mines F_moves F_changes G_width G_height G_size B_parts B_longest S_groups S_askedGroup S_taken R_waitingCount R_metCount A_grade A_cell A_mined A_withTotal A_numbers X_low X_high Y_low Y_high F_mined F_number F_state F_cellsIn F_unknownNear F_hitNear F_moveStart F_changed F_waiting F_seen G_near G_nearEnd B_chosen B_partOf B_rest B_unknowns B_partStart B_cells S_minedSet S_safeSet S_partSet S_tally S_askedTally S_groupOf S_groupSize S_links S_linkEnd S_pick S_groupMinedSet S_groupSafeSet O_sums O_nextSums R_found R_openEnds R_need R_waiting R_waits R_common R_met A_number Q_mined Q_all Q_choices Q_term9 Q_divisor Q_spare9 X_limbs X_sum Y_limbs Y_sum) ∧ post Q_term9 Q_spare9) := by
  refine mV_of (lv0 := [(0, .ref (ad 52)), (1, .ref (ad 53)), (2, .ref (ad 55)), (3, .ref (ad 57))]) (by decide) (Nat.le_of_ble_eq_true rfl) rfl ?_
  intro p e s m args below meth c Q A C ret
  replace C : Cx p ({ frames := 3, cells := 0, slots := 0, locals := 180 } : Room) m c 0 0 cX10_divide 6 s args RX10 K A := C
  unfold P_X10_divide_52_53_55_57 at h
  refine wa_aload_n C 2 rfl dX10_divide_0 rfl ?_
  refine wa_lconst C (v := 0) dX10_divide_1 rfl ?_
  refine wa_callSv C (As := [.ref (ad 55), .long (0 : Int64)]) (rest := []) (c_J7_fill_d0a16_55 l K ad (0 : Int64) _ h) gw_822 gw_1094 gw_821 gw_17 q_J7_fill_d0a16 rfl rfl rfl ⟨by decide, by decide⟩ rfl (Nat.le_of_ble_eq_true rfl) dX10_divide_2 (fun u9 hp => ?_)
  obtain ⟨Q_term_1, rfl, h⟩ := hp
  refine wa_aload_n C 3 rfl dX10_divide_5 rfl ?_
  refine wa_lconst C (v := 0) dX10_divide_6 rfl ?_
  refine wa_callSv C (As := [.ref (ad 57), .long (0 : Int64)]) (rest := []) (c_J7_fill_d0a16_57 l K ad (0 : Int64) _ h) gw_822 gw_1094 gw_821 gw_17 q_J7_fill_d0a16 rfl rfl rfl ⟨by decide, by decide⟩ rfl (Nat.le_of_ble_eq_true rfl) dX10_divide_7 (fun u9 hp => ?_)
  obtain ⟨Q_spare_2, rfl, h⟩ := hp
  refine wa_sipush C (z := 185) dX10_divide_10 (by decide) ?_
  refine wa_istore C dX10_divide_13 (by decide) rfl ?_
  obtain ⟨Inv_3, ⟨n_4, h0Inv_3⟩, hInv_3⟩ := h
  have k_7 : ∀ (n_5 : Nat) (x4_8 : Int) (Q_term_9 : Int → Int64) (Q_spare_10 : Int → Int64), inR x4_8 → Inv_3 n_5 x4_8 Q_term_9 Q_spare_10 → WA p l e ({ frames := 3, cells := 0, slots := 0, locals := 180 } : Room) s m args below meth c 0 0 Q K ad 6 A 15 [(0, .ref (ad 52)), (1, .ref (ad 53)), (2, .ref (ad 55)), (3, .ref (ad 57)), (4, .int (iI x4_8))] [] (dW D_hasBoard D_beganBlank F_mines F_moves F_changes G_width G_height G_size B_parts B_longest S_groups S_askedGroup S_taken R_waitingCount R_metCount A_grade A_cell A_mined A_withTotal A_numbers X_low X_high Y_low Y_high F_mined F_number F_state F_cellsIn F_unknownNear F_hitNear F_moveStart F_changed F_waiting F_seen G_near G_nearEnd B_chosen B_partOf B_rest B_unknowns B_partStart B_cells S_minedSet S_safeSet S_partSet S_tally S_askedTally S_groupOf S_groupSize S_links S_linkEnd S_pick S_groupMinedSet S_groupSafeSet O_sums O_nextSums R_found R_openEnds R_need R_waiting R_waits R_common R_met A_number Q_mined Q_all Q_choices Q_term_9 Q_divisor Q_spare_10 X_limbs X_sum Y_limbs Y_sum) := by
    intro n_5
    induction n_5 using Nat.strongRecOn with
    | ind n_5 ih_6 =>
      intro x4_8 Q_term_9 Q_spare_10 rx4_8 h
      replace h := hInv_3 n_5 x4_8 Q_term_9 Q_spare_10 rx4_8 h
      refine wa_iload C 4 rfl dX10_divide_15 ?_
      refine wa_if_lt C (tgt := 83) rx4_8 dX10_divide_17 (by decide) (fun c_11 => ?_) (fun c_11 => ?_)
      · replace h := h.1 c_11
        exact ret dX10_divide_83 ⟨_, _, rfl, h⟩
      · replace h := h.2 c_11
        refine wa_iload C 4 rfl dX10_divide_20 ?_
        refine wa_bipush C (z := 31) dX10_divide_22 (by decide) ?_
        refine wa_idiv C dX10_divide_24 rx4_8 (inR_k 31 rfl) (by decide) ?_
        obtain ⟨r_12, h⟩ := h
        refine wa_nmi (fun x5_13 ex5_13 => ?_)
        replace h := h x5_13 ex5_13
        have rx5_13 : inR x5_13 := by rw [ex5_13]; exact r_12
        refine wa_istore C dX10_divide_25 (by decide) rfl ?_
        refine wa_aload_n C 4 rfl dX10_divide_27 rfl ?_
        refine wa_iconst C (z := 2) dX10_divide_28 rfl ?_
        refine wa_callSv C (As := [.ref (ad 57), .int (iI 2)]) (rest := []) (c_X10_scale_57 l K ad 2 (inR_k 2 rfl) _ h) gw_1126 gw_1181 gw_1125 gw_23 q_X10_scale rfl rfl rfl ⟨by decide, by decide⟩ rfl (Nat.le_of_ble_eq_true rfl) dX10_divide_29 (fun u9 hp => ?_)
        obtain ⟨Q_spare_14, rfl, h⟩ := hp
        refine wa_aload_n C 4 rfl dX10_divide_32 rfl ?_
        refine wa_iconst C (z := 0) dX10_divide_33 rfl ?_
        refine wa_dup2 C dX10_divide_34 rfl rfl ?_
        refine wa_lald C 57 dW_57 dX10_divide_35 (by decide) (by decide) (fun v_15 ev_15 => ?_)
        replace h := h v_15 ev_15
        refine wa_aload_n C 1 rfl dX10_divide_36 rfl ?_
        refine wa_iload C 0 rfl dX10_divide_37 ?_
        obtain ⟨t_16, h⟩ := h
        refine wa_lald C 52 dW_52 dX10_divide_39 t_16.1 t_16.2 (fun v_17 ev_17 => ?_)
        replace h := h v_17 ev_17
        refine wa_iload C 5 rfl dX10_divide_40 ?_
        refine wa_bipush C (z := 31) dX10_divide_42 (by decide) ?_
        refine wa_irem C dX10_divide_44 rx4_8 (inR_k 31 rfl) (by decide) ?_
        refine wa_lshr C dX10_divide_45 ?_
        refine wa_lconst C (v := 1) dX10_divide_46 rfl ?_
        refine wa_land C dX10_divide_47 ?_
        refine wa_lor C dX10_divide_48 ?_
        refine wa_last C (ws' := fun w9 => (dW D_hasBoard D_beganBlank F_mines F_moves F_changes G_width G_height G_size B_parts B_longest S_groups S_askedGroup S_taken R_waitingCount R_metCount A_grade A_cell A_mined A_withTotal A_numbers X_low X_high Y_low Y_high F_mined F_number F_state F_cellsIn F_unknownNear F_hitNear F_moveStart F_changed F_waiting F_seen G_near G_nearEnd B_chosen B_partOf B_rest B_unknowns B_partStart B_cells S_minedSet S_safeSet S_partSet S_tally S_askedTally S_groupOf S_groupSize S_links S_linkEnd S_pick S_groupMinedSet S_groupSafeSet O_sums O_nextSums R_found R_openEnds R_need R_waiting R_waits R_common R_met A_number Q_mined Q_all Q_choices Q_term_9 Q_divisor w9 X_limbs X_sum Y_limbs Y_sum)) 57 dW_57 dX10_divide_49 (by decide) (by decide) dWs_57 (fun Q_spare_18 eQ_spare_18 => ?_)
        replace h := h Q_spare_18 eQ_spare_18
        refine wa_aload_n C 4 rfl dX10_divide_50 rfl ?_
        refine wa_aload_n C 2 rfl dX10_divide_51 rfl ?_
        refine wa_callSi C (As := [.ref (ad 57), .ref (ad 53)]) (rest := []) (c_X10_isLess_57_53 l K ad  _ h) gw_1177 gw_1175 gw_1176 gw_23 q_X10_isLess rfl rfl rfl ⟨by decide, by decide⟩ rfl (Nat.le_of_ble_eq_true rfl) dX10_divide_52 (fun c_19 u9 rc_19 hp => ?_)
        obtain ⟨bc_19, rfl, h⟩ := hp
        replace h := h bc_19
        obtain ⟨J_20, h, hJ_20⟩ := h
        have k_21 : ∀ (Q_term_22 : Int → Int64) (Q_spare_23 : Int → Int64), J_20 Q_term_22 Q_spare_23 → WA p l e ({ frames := 3, cells := 0, slots := 0, locals := 180 } : Room) s m args below meth c 0 0 Q K ad 6 A 77 [(0, .ref (ad 52)), (1, .ref (ad 53)), (2, .ref (ad 55)), (3, .ref (ad 57)), (4, .int (iI x4_8))] [] (dW D_hasBoard D_beganBlank F_mines F_moves F_changes G_width G_height G_size B_parts B_longest S_groups S_askedGroup S_taken R_waitingCount R_metCount A_grade A_cell A_mined A_withTotal A_numbers X_low X_high Y_low Y_high F_mined F_number F_state F_cellsIn F_unknownNear F_hitNear F_moveStart F_changed F_waiting F_seen G_near G_nearEnd B_chosen B_partOf B_rest B_unknowns B_partStart B_cells S_minedSet S_safeSet S_partSet S_tally S_askedTally S_groupOf S_groupSize S_links S_linkEnd S_pick S_groupMinedSet S_groupSafeSet O_sums O_nextSums R_found R_openEnds R_need R_waiting R_waits R_common R_met A_number Q_mined Q_all Q_choices Q_term_22 Q_divisor Q_spare_23 X_limbs X_sum Y_limbs Y_sum) := by
          intro Q_term_22 Q_spare_23 h
          replace h := hJ_20 Q_term_22 Q_spare_23 h
          obtain ⟨r_24, h⟩ := h
          refine wa_iinc C (lv' := fun w9 => [(4, .int (iI w9)), (0, .ref (ad 52)), (1, .ref (ad 53)), (2, .ref (ad 55)), (3, .ref (ad 57))]) 4 rfl dX10_divide_77 (by decide) (fun _ => rfl) (fun x4_25 ex4_25 => ?_)
          replace h := h x4_25 ex4_25
          have rx4_25 : inR x4_25 := by rw [ex4_25]; exact r_24
          refine wa_goto C (tgt := 15) dX10_divide_80 (by decide) ?_
          obtain ⟨n_26, ln_26, h⟩ := h
          refine wa_sub C [1, 2, 3, 4, 0] rfl ?_
          exact ih_6 n_26 ln_26 x4_25 Q_term_22 Q_spare_23 rx4_25 h
        refine wa_if_ne C (tgt := 77) (inR_b bc_19) dX10_divide_55 (by decide) (fun c_27 => ?_) (fun c_27 => ?_)
        · replace h := h.1 c_27
          refine wa_sub C [1, 2, 3, 4, 5] rfl ?_
          exact k_21 Q_term_9 Q_spare_18 h
        · replace h := h.2 c_27
          refine wa_aload_n C 4 rfl dX10_divide_58 rfl ?_
          refine wa_aload_n C 2 rfl dX10_divide_59 rfl ?_
          refine wa_callSv C (As := [.ref (ad 57), .ref (ad 53)]) (rest := []) (c_X10_subtract_57_53 l K ad  _ h) gw_1180 gw_1178 gw_1179 gw_23 q_X10_subtract rfl rfl rfl ⟨by decide, by decide⟩ rfl (Nat.le_of_ble_eq_true rfl) dX10_divide_60 (fun u9 hp => ?_)
          obtain ⟨Q_spare_28, rfl, h⟩ := hp
          refine wa_aload_n C 3 rfl dX10_divide_63 rfl ?_
          refine wa_iload C 0 rfl dX10_divide_64 ?_
          refine wa_dup2 C dX10_divide_66 rfl rfl ?_
          obtain ⟨t_29, h⟩ := h
          refine wa_lald C 55 dW_55 dX10_divide_67 t_29.1 t_29.2 (fun v_30 ev_30 => ?_)
          replace h := h v_30 ev_30
          refine wa_lconst C (v := 1) dX10_divide_68 rfl ?_
          refine wa_iload C 5 rfl dX10_divide_69 ?_
          refine wa_bipush C (z := 31) dX10_divide_71 (by decide) ?_
          refine wa_irem C dX10_divide_73 rx4_8 (inR_k 31 rfl) (by decide) ?_
          refine wa_lshl C dX10_divide_74 ?_
          refine wa_lor C dX10_divide_75 ?_
          obtain ⟨t_31, h⟩ := h
          refine wa_last C (ws' := fun w9 => (dW D_hasBoard D_beganBlank F_mines F_moves F_changes G_width G_height G_size B_parts B_longest S_groups S_askedGroup S_taken R_waitingCount R_metCount A_grade A_cell A_mined A_withTotal A_numbers X_low X_high Y_low Y_high F_mined F_number F_state F_cellsIn F_unknownNear F_hitNear F_moveStart F_changed F_waiting F_seen G_near G_nearEnd B_chosen B_partOf B_rest B_unknowns B_partStart B_cells S_minedSet S_safeSet S_partSet S_tally S_askedTally S_groupOf S_groupSize S_links S_linkEnd S_pick S_groupMinedSet S_groupSafeSet O_sums O_nextSums R_found R_openEnds R_need R_waiting R_waits R_common R_met A_number Q_mined Q_all Q_choices w9 Q_divisor Q_spare_28 X_limbs X_sum Y_limbs Y_sum)) 55 dW_55 dX10_divide_76 t_31.1 t_31.2 dWs_55 (fun Q_term_32 eQ_term_32 => ?_)
          replace h := h Q_term_32 eQ_term_32
          refine wa_sub C [1, 2, 3, 4, 5] rfl ?_
          exact k_21 Q_term_32 Q_spare_28 h
  refine wa_sub C [1, 2, 3, 4, 0] rfl ?_
  exact k_7 n_4 185 Q_term_1 Q_spare_2 (inR_k 185 rfl) h0Inv_3
def P_X5_ofThousand (post : Int → (Int → Int64) → (Int → Int64) → (Int → Int64) → Prop) (Q_mined : Int → Int64) (Q_all : Int → Int64) (Q_term : Int → Int64) (Q_spare : Int → Int64) : Prop :=
  P_X10_scale_52 (fun (Q_mined_1 : Int → Int64) => (P_X10_divide_52_53_55_57 (fun (Q_term_2 : Int → Int64) (Q_spare_3 : Int → Int64) => (∀ v_4 : Int64, v_4 = Q_term_2 0 → (post (l2I v_4) Q_mined_1 Q_term_2 Q_spare_3))) Q_mined_1 Q_all Q_term Q_spare )) Q_mined 1000
set_option maxRecDepth 100000 in
set_option maxHeartbeats 4000000 in
theorem c_X5_ofThousand (l : Launch) (K : wK) (ad : Nat → Nat) {D_hasBoard : Int} {D_beganBlank : Int} {F_mines : Int} {F_moves : Int} {F_changes : Int} {G_width : Int} {G_height : Int} {G_size : Int} {B_parts : Int} {B_longest : Int} {S_groups : Int} {S_askedGroup : Int} {S_taken : Int} {R_waitingCount : Int} {R_metCount : Int} {A_grade : Int} {A_cell : Int} {A_mined : Int} {A_withTotal : Int} {A_numbers : Int} {X_low : Int} {X_high : Int} {Y_low : Int} {Y_high : Int} {F_mined : Int → Int} {F_number : Int → Int} {F_state : Int → Int} {F_cellsIn : Int → Int} {F_unknownNear : Int → Int} {F_hitNear : Int → Int} {F_moveStart : Int → Int} {F_changed : Int → Int} {F_waiting : Int → Int} {F_seen : Int → Int} {G_near : Int → Int} {G_nearEnd : Int → Int} {B_chosen : Int → Int} {B_partOf : Int → Int} {B_rest : Int → Int} {B_unknowns : Int → Int} {B_partStart : Int → Int} {B_cells : Int → Int} {S_minedSet : Int → Int} {S_safeSet : Int → Int} {S_partSet : Int → Int} {S_tally : Int → Int} {S_askedTally : Int → Int} {S_groupOf : Int → Int} {S_groupSize : Int → Int} {S_links : Int → Int} {S_linkEnd : Int → Int} {S_pick : Int → Int} {S_groupMinedSet : Int → Int} {S_groupSafeSet : Int → Int} {O_sums : Int → Int64} {O_nextSums : Int → Int64} {R_found : Int → Int} {R_openEnds : Int → Int} {R_need : Int → Int} {R_waiting : Int → Int} {R_waits : Int → Int} {R_common : Int → Int} {R_met : Int → Int} {A_number : Int → Int} {Q_mined : Int → Int64} {Q_all : Int → Int64} {Q_choices : Int → Int64} {Q_term : Int → Int64} {Q_divisor : Int → Int64} {Q_spare : Int → Int64} {X_limbs : Int → Int64} {X_sum : Int → Int64} {Y_limbs : Int → Int64} {Y_sum : Int → Int64}   (post : Int → (Int → Int64) → (Int → Int64) → (Int → Int64) → Prop) (h : P_X5_ofThousand post Q_mined Q_all Q_term Q_spare) : mI l yX5_ofThousand (Cond.code yX5_ofThousand cX5_ofThousand 1 (some .int) :: GT) ({ frames := 4, cells := 0, slots := 0, locals := 240 } : Room) [.ref (ad 8)] K ad (dW D_hasBoard D_beganBlank F_mines F_moves F_changes G_width G_height G_size B_parts B_longest S_groups S_askedGroup S_taken R_waitingCount R_metCount A_grade A_cell A_mined A_withTotal A_numbers X_low X_high Y_low Y_high F_mined F_number F_state F_cellsIn F_unknownNear F_hitNear F_moveStart F_changed F_waiting F_seen G_near G_nearEnd B_chosen B_partOf B_rest B_unknowns B_partStart B_cells S_minedSet S_safeSet S_partSet S_tally S_askedTally S_groupOf S_groupSize S_links S_linkEnd S_pick S_groupMinedSet S_groupSafeSet O_sums O_nextSums R_found R_openEnds R_need R_waiting R_waits R_common R_met A_number Q_mined Q_all Q_choices Q_term Q_divisor Q_spare X_limbs X_sum Y_limbs Y_sum) (fun z9 u9 => ∃ Q_mined9 Q_term9 Q_spare9, u9 = (dW D_hasBoard D_beganBlank F_mines F_moves F_changes G_width G_height G_size B_parts B_longest S_groups S_askedGroup S_taken R_waitingCount R_metCount A_grade A_cell A_mined A_withTotal A_numbers X_low X_high Y_low Y_high F_mined F_number F_state F_cellsIn F_unknownNear F_hitNear F_moveStart F_changed F_waiting F_seen G_near G_nearEnd B_chosen B_partOf B_rest B_unknowns B_partStart B_cells S_minedSet S_safeSet S_partSet S_tally S_askedTally S_groupOf S_groupSize S_links S_linkEnd S_pick S_groupMinedSet S_groupSafeSet O_sums O_nextSums R_found R_openEnds R_need R_waiting R_waits R_common R_met A_number Q_mined9 Q_all Q_choices Q_term9 Q_divisor Q_spare9 X_limbs X_sum Y_limbs Y_sum) ∧ post z9 Q_mined9 Q_term9 Q_spare9) := by
  refine mI_of (lv0 := [(0, .ref (ad 8))]) (by decide) (Nat.le_of_ble_eq_true rfl) rfl ?_
  intro p e s m args below meth c Q A C ret
  replace C : Cx p ({ frames := 4, cells := 0, slots := 0, locals := 240 } : Room) m c 0 0 cX5_ofThousand 1 s args RX5 K A := C
  unfold P_X5_ofThousand at h
  refine wa_aload_n C 0 rfl dX5_ofThousand_0 rfl ?_
  refine wa_getR C 8 0 dW_8 rfl rfl (by decide) okX5 gw_406 dX5_ofThousand_1 ?_
  refine wa_sipush C (z := 1000) dX5_ofThousand_4 (by decide) ?_
  refine wa_callSv C (As := [.ref (ad 52), .int (iI 1000)]) (rest := []) (c_X10_scale_52 l K ad 1000 (inR_k 1000 rfl) _ h) gw_1126 gw_1124 gw_1125 gw_23 q_X10_scale rfl rfl rfl ⟨by decide, by decide⟩ rfl (Nat.le_of_ble_eq_true rfl) dX5_ofThousand_7 (fun u9 hp => ?_)
  obtain ⟨Q_mined_1, rfl, h⟩ := hp
  refine wa_aload_n C 0 rfl dX5_ofThousand_10 rfl ?_
  refine wa_getR C 8 0 dW_8 rfl rfl (by decide) okX5 gw_406 dX5_ofThousand_11 ?_
  refine wa_aload_n C 0 rfl dX5_ofThousand_14 rfl ?_
  refine wa_getR C 8 1 dW_8 rfl rfl (by decide) okX5 gw_408 dX5_ofThousand_15 ?_
  refine wa_aload_n C 0 rfl dX5_ofThousand_18 rfl ?_
  refine wa_getR C 8 8 dW_8 rfl rfl (by decide) okX5 gw_416 dX5_ofThousand_19 ?_
  refine wa_aload_n C 0 rfl dX5_ofThousand_22 rfl ?_
  refine wa_getR C 8 10 dW_8 rfl rfl (by decide) okX5 gw_418 dX5_ofThousand_23 ?_
  refine wa_callSv C (As := [.ref (ad 52), .ref (ad 53), .ref (ad 55), .ref (ad 57)]) (rest := []) (c_X10_divide_52_53_55_57 l K ad  _ h) gw_1188 gw_1186 gw_1187 gw_23 q_X10_divide rfl rfl rfl ⟨by decide, by decide⟩ rfl (Nat.le_of_ble_eq_true rfl) dX5_ofThousand_26 (fun u9 hp => ?_)
  obtain ⟨Q_term_2, Q_spare_3, rfl, h⟩ := hp
  refine wa_aload_n C 0 rfl dX5_ofThousand_29 rfl ?_
  refine wa_getR C 8 8 dW_8 rfl rfl (by decide) okX5 gw_416 dX5_ofThousand_30 ?_
  refine wa_iconst C (z := 0) dX5_ofThousand_33 rfl ?_
  refine wa_lald C 55 dW_55 dX5_ofThousand_34 (by decide) (by decide) (fun v_4 ev_4 => ?_)
  replace h := h v_4 ev_4
  refine wa_l2i C dX5_ofThousand_35 ?_
  exact ret dX5_ofThousand_36 (l2I_r _) ⟨_, _, _, rfl, h⟩
def P_X10_remainder_53 (post : Int64 → Prop) (Q_all : Int → Int64) (x1 : Int) : Prop :=
  ∃ Inv_1 : Nat → (Int64) → (Int) → Prop, (∃ n_2 : Nat, Inv_1 n_2 (0 : Int64) 5) ∧ ∀ (n_3 : Nat) (x2_6 : Int64) (x4_7 : Int), inR x4_7 → Inv_1 n_3 x2_6 x4_7 → (∃ J_8 : Prop, ((x4_7 < 0 → (J_8)) ∧ (¬ x4_7 < 0 → ((x1 ≤ 0 → (J_8)) ∧ (¬ x1 ≤ 0 → ((0 ≤ x4_7 ∧ x4_7 < 6) ∧ (∀ v_13 : Int64, v_13 = Q_all x4_7 → (¬ (Int64.ofInt x1) = 0 ∧ (∀ x2_15 : Int64, x2_15 = (((shlL x2_6 31) ||| v_13) - ((shlL x2_6 31) ||| v_13) / (Int64.ofInt x1) * (Int64.ofInt x1)) → (inR (x4_7 + (-1)) ∧ (∀ x4_17 : Int, x4_17 = (x4_7 + (-1)) → (∃ n_18 : Nat, n_18 < n_3 ∧ Inv_1 n_18 x2_15 x4_17))))))))))) ∧ (J_8 → (post x2_6)))
set_option maxRecDepth 100000 in
set_option maxHeartbeats 4000000 in
theorem c_X10_remainder_53 (l : Launch) (K : wK) (ad : Nat → Nat) {D_hasBoard : Int} {D_beganBlank : Int} {F_mines : Int} {F_moves : Int} {F_changes : Int} {G_width : Int} {G_height : Int} {G_size : Int} {B_parts : Int} {B_longest : Int} {S_groups : Int} {S_askedGroup : Int} {S_taken : Int} {R_waitingCount : Int} {R_metCount : Int} {A_grade : Int} {A_cell : Int} {A_mined : Int} {A_withTotal : Int} {A_numbers : Int} {X_low : Int} {X_high : Int} {Y_low : Int} {Y_high : Int} {F_mined : Int → Int} {F_number : Int → Int} {F_state : Int → Int} {F_cellsIn : Int → Int} {F_unknownNear : Int → Int} {F_hitNear : Int → Int} {F_moveStart : Int → Int} {F_changed : Int → Int} {F_waiting : Int → Int} {F_seen : Int → Int} {G_near : Int → Int} {G_nearEnd : Int → Int} {B_chosen : Int → Int} {B_partOf : Int → Int} {B_rest : Int → Int} {B_unknowns : Int → Int} {B_partStart : Int → Int} {B_cells : Int → Int} {S_minedSet : Int → Int} {S_safeSet : Int → Int} {S_partSet : Int → Int} {S_tally : Int → Int} {S_askedTally : Int → Int} {S_groupOf : Int → Int} {S_groupSize : Int → Int} {S_links : Int → Int} {S_linkEnd : Int → Int} {S_pick : Int → Int} {S_groupMinedSet : Int → Int} {S_groupSafeSet : Int → Int} {O_sums : Int → Int64} {O_nextSums : Int → Int64} {R_found : Int → Int} {R_openEnds : Int → Int} {R_need : Int → Int} {R_waiting : Int → Int} {R_waits : Int → Int} {R_common : Int → Int} {R_met : Int → Int} {A_number : Int → Int} {Q_mined : Int → Int64} {Q_all : Int → Int64} {Q_choices : Int → Int64} {Q_term : Int → Int64} {Q_divisor : Int → Int64} {Q_spare : Int → Int64} {X_limbs : Int → Int64} {X_sum : Int → Int64} {Y_limbs : Int → Int64} {Y_sum : Int → Int64} (x1 : Int) (rx1 : inR x1) (post : Int64 → Prop) (h : P_X10_remainder_53 post Q_all x1) : mL l yX10_remainder (Cond.code yX10_remainder cX10_remainder 5 (some .long) :: GT) ({ frames := 2, cells := 0, slots := 0, locals := 120 } : Room) [.ref (ad 53), .int (iI x1)] K ad (dW D_hasBoard D_beganBlank F_mines F_moves F_changes G_width G_height G_size B_parts B_longest S_groups S_askedGroup S_taken R_waitingCount R_metCount A_grade A_cell A_mined A_withTotal A_numbers X_low X_high Y_low Y_high F_mined F_number F_state F_cellsIn F_unknownNear F_hitNear F_moveStart F_changed F_waiting F_seen G_near G_nearEnd B_chosen B_partOf B_rest B_unknowns B_partStart B_cells S_minedSet S_safeSet S_partSet S_tally S_askedTally S_groupOf S_groupSize S_links S_linkEnd S_pick S_groupMinedSet S_groupSafeSet O_sums O_nextSums R_found R_openEnds R_need R_waiting R_waits R_common R_met A_number Q_mined Q_all Q_choices Q_term Q_divisor Q_spare X_limbs X_sum Y_limbs Y_sum) (fun z9 u9 => u9 = (dW D_hasBoard D_beganBlank F_mines F_moves F_changes G_width G_height G_size B_parts B_longest S_groups S_askedGroup S_taken R_waitingCount R_metCount A_grade A_cell A_mined A_withTotal A_numbers X_low X_high Y_low Y_high F_mined F_number F_state F_cellsIn F_unknownNear F_hitNear F_moveStart F_changed F_waiting F_seen G_near G_nearEnd B_chosen B_partOf B_rest B_unknowns B_partStart B_cells S_minedSet S_safeSet S_partSet S_tally S_askedTally S_groupOf S_groupSize S_links S_linkEnd S_pick S_groupMinedSet S_groupSafeSet O_sums O_nextSums R_found R_openEnds R_need R_waiting R_waits R_common R_met A_number Q_mined Q_all Q_choices Q_term Q_divisor Q_spare X_limbs X_sum Y_limbs Y_sum) ∧ post z9) := by
  refine mL_of (lv0 := [(0, .ref (ad 53)), (1, .int (iI x1))]) (by decide) (Nat.le_of_ble_eq_true rfl) rfl ?_
  intro p e s m args below meth c Q A C ret
  replace C : Cx p ({ frames := 2, cells := 0, slots := 0, locals := 120 } : Room) m c 0 0 cX10_remainder 5 s args RX10 K A := C
  unfold P_X10_remainder_53 at h
  refine wa_lconst C (v := 0) dX10_remainder_0 rfl ?_
  refine wa_lstore_n C dX10_remainder_1 rfl (by decide) rfl ?_
  refine wa_iconst C (z := 5) dX10_remainder_2 rfl ?_
  refine wa_istore C dX10_remainder_3 (by decide) rfl ?_
  obtain ⟨Inv_1, ⟨n_2, h0Inv_1⟩, hInv_1⟩ := h
  have k_5 : ∀ (n_3 : Nat) (x2_6 : Int64) (x4_7 : Int), inR x4_7 → Inv_1 n_3 x2_6 x4_7 → WA p l e ({ frames := 2, cells := 0, slots := 0, locals := 120 } : Room) s m args below meth c 0 0 Q K ad 5 A 5 [(0, .ref (ad 53)), (1, .int (iI x1)), (2, .long x2_6), (4, .int (iI x4_7))] [] (dW D_hasBoard D_beganBlank F_mines F_moves F_changes G_width G_height G_size B_parts B_longest S_groups S_askedGroup S_taken R_waitingCount R_metCount A_grade A_cell A_mined A_withTotal A_numbers X_low X_high Y_low Y_high F_mined F_number F_state F_cellsIn F_unknownNear F_hitNear F_moveStart F_changed F_waiting F_seen G_near G_nearEnd B_chosen B_partOf B_rest B_unknowns B_partStart B_cells S_minedSet S_safeSet S_partSet S_tally S_askedTally S_groupOf S_groupSize S_links S_linkEnd S_pick S_groupMinedSet S_groupSafeSet O_sums O_nextSums R_found R_openEnds R_need R_waiting R_waits R_common R_met A_number Q_mined Q_all Q_choices Q_term Q_divisor Q_spare X_limbs X_sum Y_limbs Y_sum) := by
    intro n_3
    induction n_3 using Nat.strongRecOn with
    | ind n_3 ih_4 =>
      intro x2_6 x4_7 rx4_7 h
      replace h := hInv_1 n_3 x2_6 x4_7 rx4_7 h
      refine wa_iload C 3 rfl dX10_remainder_5 ?_
      obtain ⟨J_8, h, hJ_8⟩ := h
      have k_9 : J_8 → WA p l e ({ frames := 2, cells := 0, slots := 0, locals := 120 } : Room) s m args below meth c 0 0 Q K ad 5 A 33 [(2, .long x2_6)] [] (dW D_hasBoard D_beganBlank F_mines F_moves F_changes G_width G_height G_size B_parts B_longest S_groups S_askedGroup S_taken R_waitingCount R_metCount A_grade A_cell A_mined A_withTotal A_numbers X_low X_high Y_low Y_high F_mined F_number F_state F_cellsIn F_unknownNear F_hitNear F_moveStart F_changed F_waiting F_seen G_near G_nearEnd B_chosen B_partOf B_rest B_unknowns B_partStart B_cells S_minedSet S_safeSet S_partSet S_tally S_askedTally S_groupOf S_groupSize S_links S_linkEnd S_pick S_groupMinedSet S_groupSafeSet O_sums O_nextSums R_found R_openEnds R_need R_waiting R_waits R_common R_met A_number Q_mined Q_all Q_choices Q_term Q_divisor Q_spare X_limbs X_sum Y_limbs Y_sum) := by
        intro h
        replace h := hJ_8 h
        refine wa_lload_n C 0 rfl dX10_remainder_33 rfl ?_
        exact ret dX10_remainder_34 ⟨rfl, h⟩
      refine wa_if_lt C (tgt := 33) rx4_7 dX10_remainder_7 (by decide) (fun c_10 => ?_) (fun c_10 => ?_)
      · replace h := h.1 c_10
        refine wa_sub C [2] rfl ?_
        exact k_9 h
      · replace h := h.2 c_10
        refine wa_iload_n C 1 rfl dX10_remainder_10 rfl ?_
        refine wa_if_le C (tgt := 33) rx1 dX10_remainder_11 (by decide) (fun c_11 => ?_) (fun c_11 => ?_)
        · replace h := h.1 c_11
          refine wa_sub C [2] rfl ?_
          exact k_9 h
        · replace h := h.2 c_11
          refine wa_lload_n C 2 rfl dX10_remainder_14 rfl ?_
          refine wa_bipush C (z := 31) dX10_remainder_15 (by decide) ?_
          refine wa_lshl C dX10_remainder_17 ?_
          refine wa_aload_n C 0 rfl dX10_remainder_18 rfl ?_
          refine wa_iload C 3 rfl dX10_remainder_19 ?_
          obtain ⟨t_12, h⟩ := h
          refine wa_lald C 53 dW_53 dX10_remainder_21 t_12.1 t_12.2 (fun v_13 ev_13 => ?_)
          replace h := h v_13 ev_13
          refine wa_lor C dX10_remainder_22 ?_
          refine wa_iload_n C 1 rfl dX10_remainder_23 rfl ?_
          refine wa_i2l C rx1 dX10_remainder_24 ?_
          obtain ⟨q_14, h⟩ := h
          refine wa_lrem C dX10_remainder_25 q_14 ?_
          refine wa_nml (fun x2_15 ex2_15 => ?_)
          replace h := h x2_15 ex2_15
          refine wa_lstore_n C dX10_remainder_26 rfl (by decide) rfl ?_
          obtain ⟨r_16, h⟩ := h
          refine wa_iinc C (lv' := fun w9 => [(4, .int (iI w9)), (2, .long x2_15), (0, .ref (ad 53)), (1, .int (iI x1))]) 3 rfl dX10_remainder_27 (by decide) (fun _ => rfl) (fun x4_17 ex4_17 => ?_)
          replace h := h x4_17 ex4_17
          have rx4_17 : inR x4_17 := by rw [ex4_17]; exact r_16
          refine wa_goto C (tgt := 5) dX10_remainder_30 (by decide) ?_
          obtain ⟨n_18, ln_18, h⟩ := h
          refine wa_sub C [2, 3, 1, 0] rfl ?_
          exact ih_4 n_18 ln_18 x2_15 x4_17 rx4_17 h
  refine wa_sub C [2, 3, 1, 0] rfl ?_
  exact k_5 n_2 (0 : Int64) 5 (inR_k 5 rfl) h0Inv_1
def P_X10_isZero_53 (post : Int → Prop) (Q_all : Int → Int64) : Prop :=
  ∃ Inv_1 : Nat → (Int64) → (Int) → Prop, (∃ n_2 : Nat, Inv_1 n_2 (0 : Int64) 0) ∧ ∀ (n_3 : Nat) (x1_6 : Int64) (x3_7 : Int), inR x3_7 → Inv_1 n_3 x1_6 x3_7 → ((6 ≤ x3_7 → (∃ J_9 : (Int) → Prop, ((¬ (lcI x1_6 (0 : Int64)) = 0 → (J_9 0)) ∧ ((lcI x1_6 (0 : Int64)) = 0 → (J_9 1))) ∧ (∀ (z_11 : Int), inR z_11 → J_9 z_11 → ((z_11 = 0 ∨ z_11 = 1) ∧ (post z_11))))) ∧ (¬ 6 ≤ x3_7 → ((0 ≤ x3_7 ∧ x3_7 < 6) ∧ (∀ v_15 : Int64, v_15 = Q_all x3_7 → (∀ x1_16 : Int64, x1_16 = (x1_6 ||| v_15) → (inR (x3_7 + 1) ∧ (∀ x3_18 : Int, x3_18 = (x3_7 + 1) → (∃ n_19 : Nat, n_19 < n_3 ∧ Inv_1 n_19 x1_16 x3_18))))))))
set_option maxRecDepth 100000 in
set_option maxHeartbeats 4000000 in
theorem c_X10_isZero_53 (l : Launch) (K : wK) (ad : Nat → Nat) {D_hasBoard : Int} {D_beganBlank : Int} {F_mines : Int} {F_moves : Int} {F_changes : Int} {G_width : Int} {G_height : Int} {G_size : Int} {B_parts : Int} {B_longest : Int} {S_groups : Int} {S_askedGroup : Int} {S_taken : Int} {R_waitingCount : Int} {R_metCount : Int} {A_grade : Int} {A_cell : Int} {A_mined : Int} {A_withTotal : Int} {A_numbers : Int} {X_low : Int} {X_high : Int} {Y_low : Int} {Y_high : Int} {F_mined : Int → Int} {F_number : Int → Int} {F_state : Int → Int} {F_cellsIn : Int → Int} {F_unknownNear : Int → Int} {F_hitNear : Int → Int} {F_moveStart : Int → Int} {F_changed : Int → Int} {F_waiting : Int → Int} {F_seen : Int → Int} {G_near : Int → Int} {G_nearEnd : Int → Int} {B_chosen : Int → Int} {B_partOf : Int → Int} {B_rest : Int → Int} {B_unknowns : Int → Int} {B_partStart : Int → Int} {B_cells : Int → Int} {S_minedSet : Int → Int} {S_safeSet : Int → Int} {S_partSet : Int → Int} {S_tally : Int → Int} {S_askedTally : Int → Int} {S_groupOf : Int → Int} {S_groupSize : Int → Int} {S_links : Int → Int} {S_linkEnd : Int → Int} {S_pick : Int → Int} {S_groupMinedSet : Int → Int} {S_groupSafeSet : Int → Int} {O_sums : Int → Int64} {O_nextSums : Int → Int64} {R_found : Int → Int} {R_openEnds : Int → Int} {R_need : Int → Int} {R_waiting : Int → Int} {R_waits : Int → Int} {R_common : Int → Int} {R_met : Int → Int} {A_number : Int → Int} {Q_mined : Int → Int64} {Q_all : Int → Int64} {Q_choices : Int → Int64} {Q_term : Int → Int64} {Q_divisor : Int → Int64} {Q_spare : Int → Int64} {X_limbs : Int → Int64} {X_sum : Int → Int64} {Y_limbs : Int → Int64} {Y_sum : Int → Int64}   (post : Int → Prop) (h : P_X10_isZero_53 post Q_all) : mI l yX10_isZero (Cond.code yX10_isZero cX10_isZero 4 (some .boolean) :: GT) ({ frames := 2, cells := 0, slots := 0, locals := 120 } : Room) [.ref (ad 53)] K ad (dW D_hasBoard D_beganBlank F_mines F_moves F_changes G_width G_height G_size B_parts B_longest S_groups S_askedGroup S_taken R_waitingCount R_metCount A_grade A_cell A_mined A_withTotal A_numbers X_low X_high Y_low Y_high F_mined F_number F_state F_cellsIn F_unknownNear F_hitNear F_moveStart F_changed F_waiting F_seen G_near G_nearEnd B_chosen B_partOf B_rest B_unknowns B_partStart B_cells S_minedSet S_safeSet S_partSet S_tally S_askedTally S_groupOf S_groupSize S_links S_linkEnd S_pick S_groupMinedSet S_groupSafeSet O_sums O_nextSums R_found R_openEnds R_need R_waiting R_waits R_common R_met A_number Q_mined Q_all Q_choices Q_term Q_divisor Q_spare X_limbs X_sum Y_limbs Y_sum) (fun z9 u9 => (z9 = 0 ∨ z9 = 1) ∧ u9 = (dW D_hasBoard D_beganBlank F_mines F_moves F_changes G_width G_height G_size B_parts B_longest S_groups S_askedGroup S_taken R_waitingCount R_metCount A_grade A_cell A_mined A_withTotal A_numbers X_low X_high Y_low Y_high F_mined F_number F_state F_cellsIn F_unknownNear F_hitNear F_moveStart F_changed F_waiting F_seen G_near G_nearEnd B_chosen B_partOf B_rest B_unknowns B_partStart B_cells S_minedSet S_safeSet S_partSet S_tally S_askedTally S_groupOf S_groupSize S_links S_linkEnd S_pick S_groupMinedSet S_groupSafeSet O_sums O_nextSums R_found R_openEnds R_need R_waiting R_waits R_common R_met A_number Q_mined Q_all Q_choices Q_term Q_divisor Q_spare X_limbs X_sum Y_limbs Y_sum) ∧ post z9) := by
  refine mZ_of (lv0 := [(0, .ref (ad 53))]) (by decide) (Nat.le_of_ble_eq_true rfl) rfl ?_
  intro p e s m args below meth c Q A C ret
  replace C : Cx p ({ frames := 2, cells := 0, slots := 0, locals := 120 } : Room) m c 0 0 cX10_isZero 4 s args RX10 K A := C
  unfold P_X10_isZero_53 at h
  refine wa_lconst C (v := 0) dX10_isZero_0 rfl ?_
  refine wa_lstore_n C dX10_isZero_1 rfl (by decide) rfl ?_
  refine wa_iconst C (z := 0) dX10_isZero_2 rfl ?_
  refine wa_istore_n C dX10_isZero_3 rfl (by decide) rfl ?_
  obtain ⟨Inv_1, ⟨n_2, h0Inv_1⟩, hInv_1⟩ := h
  have k_5 : ∀ (n_3 : Nat) (x1_6 : Int64) (x3_7 : Int), inR x3_7 → Inv_1 n_3 x1_6 x3_7 → WA p l e ({ frames := 2, cells := 0, slots := 0, locals := 120 } : Room) s m args below meth c 0 0 Q K ad 4 A 4 [(0, .ref (ad 53)), (1, .long x1_6), (3, .int (iI x3_7))] [] (dW D_hasBoard D_beganBlank F_mines F_moves F_changes G_width G_height G_size B_parts B_longest S_groups S_askedGroup S_taken R_waitingCount R_metCount A_grade A_cell A_mined A_withTotal A_numbers X_low X_high Y_low Y_high F_mined F_number F_state F_cellsIn F_unknownNear F_hitNear F_moveStart F_changed F_waiting F_seen G_near G_nearEnd B_chosen B_partOf B_rest B_unknowns B_partStart B_cells S_minedSet S_safeSet S_partSet S_tally S_askedTally S_groupOf S_groupSize S_links S_linkEnd S_pick S_groupMinedSet S_groupSafeSet O_sums O_nextSums R_found R_openEnds R_need R_waiting R_waits R_common R_met A_number Q_mined Q_all Q_choices Q_term Q_divisor Q_spare X_limbs X_sum Y_limbs Y_sum) := by
    intro n_3
    induction n_3 using Nat.strongRecOn with
    | ind n_3 ih_4 =>
      intro x1_6 x3_7 rx3_7 h
      replace h := hInv_1 n_3 x1_6 x3_7 rx3_7 h
      refine wa_iload_n C 2 rfl dX10_isZero_4 rfl ?_
      refine wa_bipush C (z := 6) dX10_isZero_5 (by decide) ?_
      refine wa_icmp_ge C (tgt := 22) rx3_7 (inR_k 6 rfl) dX10_isZero_7 (by decide) (fun c_8 => ?_) (fun c_8 => ?_)
      · replace h := h.1 c_8
        refine wa_lload_n C 1 rfl dX10_isZero_22 rfl ?_
        refine wa_lconst C (v := 0) dX10_isZero_23 rfl ?_
        refine wa_lcmp C dX10_isZero_24 ?_
        obtain ⟨J_9, h, hJ_9⟩ := h
        have k_10 : ∀ (z_11 : Int), inR z_11 → J_9 z_11 → WA p l e ({ frames := 2, cells := 0, slots := 0, locals := 120 } : Room) s m args below meth c 0 0 Q K ad 4 A 33 [] [.int (iI z_11)] (dW D_hasBoard D_beganBlank F_mines F_moves F_changes G_width G_height G_size B_parts B_longest S_groups S_askedGroup S_taken R_waitingCount R_metCount A_grade A_cell A_mined A_withTotal A_numbers X_low X_high Y_low Y_high F_mined F_number F_state F_cellsIn F_unknownNear F_hitNear F_moveStart F_changed F_waiting F_seen G_near G_nearEnd B_chosen B_partOf B_rest B_unknowns B_partStart B_cells S_minedSet S_safeSet S_partSet S_tally S_askedTally S_groupOf S_groupSize S_links S_linkEnd S_pick S_groupMinedSet S_groupSafeSet O_sums O_nextSums R_found R_openEnds R_need R_waiting R_waits R_common R_met A_number Q_mined Q_all Q_choices Q_term Q_divisor Q_spare X_limbs X_sum Y_limbs Y_sum) := by
          intro z_11 rz_11 h
          replace h := hJ_9 z_11 rz_11 h
          obtain ⟨b_12, h⟩ := h
          exact ret dX10_isZero_33 b_12 ⟨b_12, rfl, h⟩
        refine wa_if_ne C (tgt := 32) (lcI_r _ _) dX10_isZero_25 (by decide) (fun c_13 => ?_) (fun c_13 => ?_)
        · replace h := h.1 c_13
          refine wa_iconst C (z := 0) dX10_isZero_32 rfl ?_
          refine wa_sub C [] rfl ?_
          exact k_10 0 (inR_k 0 rfl) h
        · replace h := h.2 c_13
          refine wa_iconst C (z := 1) dX10_isZero_28 rfl ?_
          refine wa_goto C (tgt := 33) dX10_isZero_29 (by decide) ?_
          refine wa_sub C [] rfl ?_
          exact k_10 1 (inR_k 1 rfl) h
      · replace h := h.2 c_8
        refine wa_lload_n C 1 rfl dX10_isZero_10 rfl ?_
        refine wa_aload_n C 0 rfl dX10_isZero_11 rfl ?_
        refine wa_iload_n C 2 rfl dX10_isZero_12 rfl ?_
        obtain ⟨t_14, h⟩ := h
        refine wa_lald C 53 dW_53 dX10_isZero_13 t_14.1 t_14.2 (fun v_15 ev_15 => ?_)
        replace h := h v_15 ev_15
        refine wa_lor C dX10_isZero_14 ?_
        refine wa_nml (fun x1_16 ex1_16 => ?_)
        replace h := h x1_16 ex1_16
        refine wa_lstore_n C dX10_isZero_15 rfl (by decide) rfl ?_
        obtain ⟨r_17, h⟩ := h
        refine wa_iinc C (lv' := fun w9 => [(3, .int (iI w9)), (1, .long x1_16), (0, .ref (ad 53))]) 2 rfl dX10_isZero_16 (by decide) (fun _ => rfl) (fun x3_18 ex3_18 => ?_)
        replace h := h x3_18 ex3_18
        have rx3_18 : inR x3_18 := by rw [ex3_18]; exact r_17
        refine wa_goto C (tgt := 4) dX10_isZero_19 (by decide) ?_
        obtain ⟨n_19, ln_19, h⟩ := h
        refine wa_sub C [2, 1, 0] rfl ?_
        exact ih_4 n_19 ln_19 x1_16 x3_18 rx3_18 h
  refine wa_sub C [2, 1, 0] rfl ?_
  exact k_5 n_2 (0 : Int64) 0 (inR_k 0 rfl) h0Inv_1
