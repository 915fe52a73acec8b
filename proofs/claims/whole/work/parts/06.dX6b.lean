theorem dX6_layGram_0 : decode cX6_layGram 0 = .ok (.aload_n 0, 1) := by decide +kernel
theorem dX6_layGram_1 : decode cX6_layGram 1 = .ok (.iload_n 3, 1) := by decide +kernel
theorem dX6_layGram_2 : decode cX6_layGram 2 = .ok (.invokevirtual 178, 3) := by decide +kernel
theorem dX6_layGram_5 : decode cX6_layGram 5 = .ok (.iconst 0, 1) := by decide +kernel
theorem dX6_layGram_6 : decode cX6_layGram 6 = .ok (.istore 5, 2) := by decide +kernel
theorem dX6_layGram_8 : decode cX6_layGram 8 = .ok (.iload 5, 2) := by decide +kernel
theorem dX6_layGram_10 : decode cX6_layGram 10 = .ok (.bipush 25, 2) := by decide +kernel
theorem dX6_layGram_12 : decode cX6_layGram 12 = .ok (.if_icmp .ge 17, 3) := by decide +kernel
theorem dX6_layGram_15 : decode cX6_layGram 15 = .ok (.aload_n 0, 1) := by decide +kernel
theorem dX6_layGram_16 : decode cX6_layGram 16 = .ok (.getfield 57, 3) := by decide +kernel
theorem dX6_layGram_19 : decode cX6_layGram 19 = .ok (.iload 5, 2) := by decide +kernel
theorem dX6_layGram_21 : decode cX6_layGram 21 = .ok (.lconst 0, 1) := by decide +kernel
theorem dX6_layGram_22 : decode cX6_layGram 22 = .ok (.lastore, 1) := by decide +kernel
theorem dX6_layGram_23 : decode cX6_layGram 23 = .ok (.iinc 5 1, 3) := by decide +kernel
theorem dX6_layGram_26 : decode cX6_layGram 26 = .ok (.goto (-18), 3) := by decide +kernel
theorem dX6_layGram_29 : decode cX6_layGram 29 = .ok (.iconst 0, 1) := by decide +kernel
theorem dX6_layGram_30 : decode cX6_layGram 30 = .ok (.istore 5, 2) := by decide +kernel
theorem dX6_layGram_32 : decode cX6_layGram 32 = .ok (.iload 5, 2) := by decide +kernel
theorem dX6_layGram_34 : decode cX6_layGram 34 = .ok (.iconst 5, 1) := by decide +kernel
theorem dX6_layGram_35 : decode cX6_layGram 35 = .ok (.if_icmp .ge 17, 3) := by decide +kernel
theorem dX6_layGram_38 : decode cX6_layGram 38 = .ok (.aload_n 0, 1) := by decide +kernel
theorem dX6_layGram_39 : decode cX6_layGram 39 = .ok (.getfield 61, 3) := by decide +kernel
theorem dX6_layGram_42 : decode cX6_layGram 42 = .ok (.iload 5, 2) := by decide +kernel
theorem dX6_layGram_44 : decode cX6_layGram 44 = .ok (.lconst 0, 1) := by decide +kernel
theorem dX6_layGram_45 : decode cX6_layGram 45 = .ok (.lastore, 1) := by decide +kernel
theorem dX6_layGram_46 : decode cX6_layGram 46 = .ok (.iinc 5 1, 3) := by decide +kernel
theorem dX6_layGram_49 : decode cX6_layGram 49 = .ok (.goto (-17), 3) := by decide +kernel
theorem dX6_layGram_52 : decode cX6_layGram 52 = .ok (.iconst 0, 1) := by decide +kernel
theorem dX6_layGram_53 : decode cX6_layGram 53 = .ok (.istore 5, 2) := by decide +kernel
theorem dX6_layGram_55 : decode cX6_layGram 55 = .ok (.iload 5, 2) := by decide +kernel
theorem dX6_layGram_57 : decode cX6_layGram 57 = .ok (.aload_n 1, 1) := by decide +kernel
theorem dX6_layGram_58 : decode cX6_layGram 58 = .ok (.iconst 0, 1) := by decide +kernel
theorem dX6_layGram_59 : decode cX6_layGram 59 = .ok (.iaload, 1) := by decide +kernel
theorem dX6_layGram_60 : decode cX6_layGram 60 = .ok (.if_icmp .ge 186, 3) := by decide +kernel
theorem dX6_layGram_63 : decode cX6_layGram 63 = .ok (.iload_n 2, 1) := by decide +kernel
theorem dX6_layGram_64 : decode cX6_layGram 64 = .ok (.iload 5, 2) := by decide +kernel
theorem dX6_layGram_66 : decode cX6_layGram 66 = .ok (.invokestatic 144, 3) := by decide +kernel
theorem dX6_layGram_69 : decode cX6_layGram 69 = .ok (.ifCond .eq 171, 3) := by decide +kernel
theorem dX6_layGram_72 : decode cX6_layGram 72 = .ok (.aload_n 0, 1) := by decide +kernel
theorem dX6_layGram_73 : decode cX6_layGram 73 = .ok (.aload_n 1, 1) := by decide +kernel
theorem dX6_layGram_74 : decode cX6_layGram 74 = .ok (.iload 5, 2) := by decide +kernel
theorem dX6_layGram_76 : decode cX6_layGram 76 = .ok (.iload_n 3, 1) := by decide +kernel
theorem dX6_layGram_77 : decode cX6_layGram 77 = .ok (.invokevirtual 162, 3) := by decide +kernel
theorem dX6_layGram_80 : decode cX6_layGram 80 = .ok (.ifCond .eq 160, 3) := by decide +kernel
theorem dX6_layGram_83 : decode cX6_layGram 83 = .ok (.aload_n 0, 1) := by decide +kernel
theorem dX6_layGram_84 : decode cX6_layGram 84 = .ok (.getfield 54, 3) := by decide +kernel
theorem dX6_layGram_87 : decode cX6_layGram 87 = .ok (.aload_n 1, 1) := by decide +kernel
theorem dX6_layGram_88 : decode cX6_layGram 88 = .ok (.iload 5, 2) := by decide +kernel
theorem dX6_layGram_90 : decode cX6_layGram 90 = .ok (.iconst 4, 1) := by decide +kernel
theorem dX6_layGram_91 : decode cX6_layGram 91 = .ok (.invokestatic 103, 3) := by decide +kernel
theorem dX6_layGram_94 : decode cX6_layGram 94 = .ok (.iaload, 1) := by decide +kernel
theorem dX6_layGram_95 : decode cX6_layGram 95 = .ok (.istore 6, 2) := by decide +kernel
theorem dX6_layGram_97 : decode cX6_layGram 97 = .ok (.aload_n 0, 1) := by decide +kernel
theorem dX6_layGram_98 : decode cX6_layGram 98 = .ok (.getfield 54, 3) := by decide +kernel
theorem dX6_layGram_101 : decode cX6_layGram 101 = .ok (.aload_n 1, 1) := by decide +kernel
theorem dX6_layGram_102 : decode cX6_layGram 102 = .ok (.iload 5, 2) := by decide +kernel
theorem dX6_layGram_104 : decode cX6_layGram 104 = .ok (.iconst 5, 1) := by decide +kernel
theorem dX6_layGram_105 : decode cX6_layGram 105 = .ok (.invokestatic 103, 3) := by decide +kernel
theorem dX6_layGram_108 : decode cX6_layGram 108 = .ok (.iaload, 1) := by decide +kernel
theorem dX6_layGram_109 : decode cX6_layGram 109 = .ok (.istore 7, 2) := by decide +kernel
theorem dX6_layGram_111 : decode cX6_layGram 111 = .ok (.aload_n 0, 1) := by decide +kernel
theorem dX6_layGram_112 : decode cX6_layGram 112 = .ok (.aload_n 1, 1) := by decide +kernel
theorem dX6_layGram_113 : decode cX6_layGram 113 = .ok (.iload 5, 2) := by decide +kernel
theorem dX6_layGram_115 : decode cX6_layGram 115 = .ok (.iload 4, 2) := by decide +kernel
theorem dX6_layGram_117 : decode cX6_layGram 117 = .ok (.invokevirtual 119, 3) := by decide +kernel
theorem dX6_layGram_120 : decode cX6_layGram 120 = .ok (.istore 8, 2) := by decide +kernel
theorem dX6_layGram_122 : decode cX6_layGram 122 = .ok (.iload 6, 2) := by decide +kernel
theorem dX6_layGram_124 : decode cX6_layGram 124 = .ok (.bipush (-9), 2) := by decide +kernel
theorem dX6_layGram_126 : decode cX6_layGram 126 = .ok (.if_icmp .eq 32, 3) := by decide +kernel
theorem dX6_layGram_129 : decode cX6_layGram 129 = .ok (.aload_n 0, 1) := by decide +kernel
theorem dX6_layGram_130 : decode cX6_layGram 130 = .ok (.getfield 57, 3) := by decide +kernel
theorem dX6_layGram_133 : decode cX6_layGram 133 = .ok (.iconst 5, 1) := by decide +kernel
theorem dX6_layGram_134 : decode cX6_layGram 134 = .ok (.iload 6, 2) := by decide +kernel
theorem dX6_layGram_136 : decode cX6_layGram 136 = .ok (.imul, 1) := by decide +kernel
theorem dX6_layGram_137 : decode cX6_layGram 137 = .ok (.iload 6, 2) := by decide +kernel
theorem dX6_layGram_139 : decode cX6_layGram 139 = .ok (.iadd, 1) := by decide +kernel
theorem dX6_layGram_140 : decode cX6_layGram 140 = .ok (.dup2, 1) := by decide +kernel
theorem dX6_layGram_141 : decode cX6_layGram 141 = .ok (.laload, 1) := by decide +kernel
theorem dX6_layGram_142 : decode cX6_layGram 142 = .ok (.lconst 1, 1) := by decide +kernel
theorem dX6_layGram_143 : decode cX6_layGram 143 = .ok (.ladd, 1) := by decide +kernel
theorem dX6_layGram_144 : decode cX6_layGram 144 = .ok (.lastore, 1) := by decide +kernel
theorem dX6_layGram_145 : decode cX6_layGram 145 = .ok (.aload_n 0, 1) := by decide +kernel
theorem dX6_layGram_146 : decode cX6_layGram 146 = .ok (.getfield 61, 3) := by decide +kernel
theorem dX6_layGram_149 : decode cX6_layGram 149 = .ok (.iload 6, 2) := by decide +kernel
theorem dX6_layGram_151 : decode cX6_layGram 151 = .ok (.dup2, 1) := by decide +kernel
theorem dX6_layGram_152 : decode cX6_layGram 152 = .ok (.laload, 1) := by decide +kernel
theorem dX6_layGram_153 : decode cX6_layGram 153 = .ok (.iload 8, 2) := by decide +kernel
theorem dX6_layGram_155 : decode cX6_layGram 155 = .ok (.i2l, 1) := by decide +kernel
theorem dX6_layGram_156 : decode cX6_layGram 156 = .ok (.lsub, 1) := by decide +kernel
theorem dX6_layGram_157 : decode cX6_layGram 157 = .ok (.lastore, 1) := by decide +kernel
theorem dX6_layGram_158 : decode cX6_layGram 158 = .ok (.iload 7, 2) := by decide +kernel
theorem dX6_layGram_160 : decode cX6_layGram 160 = .ok (.bipush (-9), 2) := by decide +kernel
theorem dX6_layGram_162 : decode cX6_layGram 162 = .ok (.if_icmp .eq 32, 3) := by decide +kernel
theorem dX6_layGram_165 : decode cX6_layGram 165 = .ok (.aload_n 0, 1) := by decide +kernel
theorem dX6_layGram_166 : decode cX6_layGram 166 = .ok (.getfield 57, 3) := by decide +kernel
theorem dX6_layGram_169 : decode cX6_layGram 169 = .ok (.iconst 5, 1) := by decide +kernel
theorem dX6_layGram_170 : decode cX6_layGram 170 = .ok (.iload 7, 2) := by decide +kernel
theorem dX6_layGram_172 : decode cX6_layGram 172 = .ok (.imul, 1) := by decide +kernel
theorem dX6_layGram_173 : decode cX6_layGram 173 = .ok (.iload 7, 2) := by decide +kernel
theorem dX6_layGram_175 : decode cX6_layGram 175 = .ok (.iadd, 1) := by decide +kernel
theorem dX6_layGram_176 : decode cX6_layGram 176 = .ok (.dup2, 1) := by decide +kernel
theorem dX6_layGram_177 : decode cX6_layGram 177 = .ok (.laload, 1) := by decide +kernel
theorem dX6_layGram_178 : decode cX6_layGram 178 = .ok (.lconst 1, 1) := by decide +kernel
theorem dX6_layGram_179 : decode cX6_layGram 179 = .ok (.ladd, 1) := by decide +kernel
theorem dX6_layGram_180 : decode cX6_layGram 180 = .ok (.lastore, 1) := by decide +kernel
theorem dX6_layGram_181 : decode cX6_layGram 181 = .ok (.aload_n 0, 1) := by decide +kernel
theorem dX6_layGram_182 : decode cX6_layGram 182 = .ok (.getfield 61, 3) := by decide +kernel
theorem dX6_layGram_185 : decode cX6_layGram 185 = .ok (.iload 7, 2) := by decide +kernel
theorem dX6_layGram_187 : decode cX6_layGram 187 = .ok (.dup2, 1) := by decide +kernel
theorem dX6_layGram_188 : decode cX6_layGram 188 = .ok (.laload, 1) := by decide +kernel
theorem dX6_layGram_189 : decode cX6_layGram 189 = .ok (.iload 8, 2) := by decide +kernel
theorem dX6_layGram_191 : decode cX6_layGram 191 = .ok (.i2l, 1) := by decide +kernel
theorem dX6_layGram_192 : decode cX6_layGram 192 = .ok (.ladd, 1) := by decide +kernel
theorem dX6_layGram_193 : decode cX6_layGram 193 = .ok (.lastore, 1) := by decide +kernel
theorem dX6_layGram_194 : decode cX6_layGram 194 = .ok (.iload 6, 2) := by decide +kernel
theorem dX6_layGram_196 : decode cX6_layGram 196 = .ok (.bipush (-9), 2) := by decide +kernel
theorem dX6_layGram_198 : decode cX6_layGram 198 = .ok (.if_icmp .eq 42, 3) := by decide +kernel
theorem dX6_layGram_201 : decode cX6_layGram 201 = .ok (.iload 7, 2) := by decide +kernel
theorem dX6_layGram_203 : decode cX6_layGram 203 = .ok (.bipush (-9), 2) := by decide +kernel
theorem dX6_layGram_205 : decode cX6_layGram 205 = .ok (.if_icmp .eq 35, 3) := by decide +kernel
theorem dX6_layGram_208 : decode cX6_layGram 208 = .ok (.aload_n 0, 1) := by decide +kernel
theorem dX6_layGram_209 : decode cX6_layGram 209 = .ok (.getfield 57, 3) := by decide +kernel
theorem dX6_layGram_212 : decode cX6_layGram 212 = .ok (.iconst 5, 1) := by decide +kernel
theorem dX6_layGram_213 : decode cX6_layGram 213 = .ok (.iload 6, 2) := by decide +kernel
theorem dX6_layGram_215 : decode cX6_layGram 215 = .ok (.imul, 1) := by decide +kernel
theorem dX6_layGram_216 : decode cX6_layGram 216 = .ok (.iload 7, 2) := by decide +kernel
theorem dX6_layGram_218 : decode cX6_layGram 218 = .ok (.iadd, 1) := by decide +kernel
theorem dX6_layGram_219 : decode cX6_layGram 219 = .ok (.dup2, 1) := by decide +kernel
theorem dX6_layGram_220 : decode cX6_layGram 220 = .ok (.laload, 1) := by decide +kernel
theorem dX6_layGram_221 : decode cX6_layGram 221 = .ok (.lconst 1, 1) := by decide +kernel
theorem dX6_layGram_222 : decode cX6_layGram 222 = .ok (.lsub, 1) := by decide +kernel
theorem dX6_layGram_223 : decode cX6_layGram 223 = .ok (.lastore, 1) := by decide +kernel
theorem dX6_layGram_224 : decode cX6_layGram 224 = .ok (.aload_n 0, 1) := by decide +kernel
theorem dX6_layGram_225 : decode cX6_layGram 225 = .ok (.getfield 57, 3) := by decide +kernel
theorem dX6_layGram_228 : decode cX6_layGram 228 = .ok (.iconst 5, 1) := by decide +kernel
theorem dX6_layGram_229 : decode cX6_layGram 229 = .ok (.iload 7, 2) := by decide +kernel
theorem dX6_layGram_231 : decode cX6_layGram 231 = .ok (.imul, 1) := by decide +kernel
theorem dX6_layGram_232 : decode cX6_layGram 232 = .ok (.iload 6, 2) := by decide +kernel
theorem dX6_layGram_234 : decode cX6_layGram 234 = .ok (.iadd, 1) := by decide +kernel
theorem dX6_layGram_235 : decode cX6_layGram 235 = .ok (.dup2, 1) := by decide +kernel
theorem dX6_layGram_236 : decode cX6_layGram 236 = .ok (.laload, 1) := by decide +kernel
theorem dX6_layGram_237 : decode cX6_layGram 237 = .ok (.lconst 1, 1) := by decide +kernel
theorem dX6_layGram_238 : decode cX6_layGram 238 = .ok (.lsub, 1) := by decide +kernel
theorem dX6_layGram_239 : decode cX6_layGram 239 = .ok (.lastore, 1) := by decide +kernel
theorem dX6_layGram_240 : decode cX6_layGram 240 = .ok (.iinc 5 1, 3) := by decide +kernel
theorem dX6_layGram_243 : decode cX6_layGram 243 = .ok (.goto (-188), 3) := by decide +kernel
theorem dX6_layGram_246 : decode cX6_layGram 246 = .ok (.return_, 1) := by decide +kernel
theorem dX6_determinant_0 : decode cX6_determinant 0 = .ok (.iconst 0, 1) := by decide +kernel
theorem dX6_determinant_1 : decode cX6_determinant 1 = .ok (.istore_n 2, 1) := by decide +kernel
theorem dX6_determinant_2 : decode cX6_determinant 2 = .ok (.iload_n 2, 1) := by decide +kernel
theorem dX6_determinant_3 : decode cX6_determinant 3 = .ok (.aload_n 0, 1) := by decide +kernel
theorem dX6_determinant_4 : decode cX6_determinant 4 = .ok (.getfield 175, 3) := by decide +kernel
theorem dX6_determinant_7 : decode cX6_determinant 7 = .ok (.if_icmp .ge 59, 3) := by decide +kernel
theorem dX6_determinant_10 : decode cX6_determinant 10 = .ok (.iconst 0, 1) := by decide +kernel
theorem dX6_determinant_11 : decode cX6_determinant 11 = .ok (.istore_n 3, 1) := by decide +kernel
theorem dX6_determinant_12 : decode cX6_determinant 12 = .ok (.iload_n 3, 1) := by decide +kernel
theorem dX6_determinant_13 : decode cX6_determinant 13 = .ok (.aload_n 0, 1) := by decide +kernel
theorem dX6_determinant_14 : decode cX6_determinant 14 = .ok (.getfield 175, 3) := by decide +kernel
theorem dX6_determinant_17 : decode cX6_determinant 17 = .ok (.if_icmp .ge 43, 3) := by decide +kernel
theorem dX6_determinant_20 : decode cX6_determinant 20 = .ok (.aload_n 0, 1) := by decide +kernel
theorem dX6_determinant_21 : decode cX6_determinant 21 = .ok (.getfield 64, 3) := by decide +kernel
theorem dX6_determinant_24 : decode cX6_determinant 24 = .ok (.iconst 5, 1) := by decide +kernel
theorem dX6_determinant_25 : decode cX6_determinant 25 = .ok (.iload_n 2, 1) := by decide +kernel
theorem dX6_determinant_26 : decode cX6_determinant 26 = .ok (.imul, 1) := by decide +kernel
theorem dX6_determinant_27 : decode cX6_determinant 27 = .ok (.iload_n 3, 1) := by decide +kernel
theorem dX6_determinant_28 : decode cX6_determinant 28 = .ok (.iadd, 1) := by decide +kernel
theorem dX6_determinant_29 : decode cX6_determinant 29 = .ok (.iload_n 3, 1) := by decide +kernel
theorem dX6_determinant_30 : decode cX6_determinant 30 = .ok (.iload_n 1, 1) := by decide +kernel
theorem dX6_determinant_31 : decode cX6_determinant 31 = .ok (.if_icmp .ne 12, 3) := by decide +kernel
theorem dX6_determinant_34 : decode cX6_determinant 34 = .ok (.aload_n 0, 1) := by decide +kernel
theorem dX6_determinant_35 : decode cX6_determinant 35 = .ok (.getfield 61, 3) := by decide +kernel
theorem dX6_determinant_38 : decode cX6_determinant 38 = .ok (.iload_n 2, 1) := by decide +kernel
theorem dX6_determinant_39 : decode cX6_determinant 39 = .ok (.laload, 1) := by decide +kernel
theorem dX6_determinant_40 : decode cX6_determinant 40 = .ok (.goto 13, 3) := by decide +kernel
theorem dX6_determinant_43 : decode cX6_determinant 43 = .ok (.aload_n 0, 1) := by decide +kernel
theorem dX6_determinant_44 : decode cX6_determinant 44 = .ok (.getfield 57, 3) := by decide +kernel
theorem dX6_determinant_47 : decode cX6_determinant 47 = .ok (.iconst 5, 1) := by decide +kernel
theorem dX6_determinant_48 : decode cX6_determinant 48 = .ok (.iload_n 2, 1) := by decide +kernel
theorem dX6_determinant_49 : decode cX6_determinant 49 = .ok (.imul, 1) := by decide +kernel
theorem dX6_determinant_50 : decode cX6_determinant 50 = .ok (.iload_n 3, 1) := by decide +kernel
theorem dX6_determinant_51 : decode cX6_determinant 51 = .ok (.iadd, 1) := by decide +kernel
theorem dX6_determinant_52 : decode cX6_determinant 52 = .ok (.laload, 1) := by decide +kernel
theorem dX6_determinant_53 : decode cX6_determinant 53 = .ok (.lastore, 1) := by decide +kernel
theorem dX6_determinant_54 : decode cX6_determinant 54 = .ok (.iinc 3 1, 3) := by decide +kernel
theorem dX6_determinant_57 : decode cX6_determinant 57 = .ok (.goto (-45), 3) := by decide +kernel
theorem dX6_determinant_60 : decode cX6_determinant 60 = .ok (.iinc 2 1, 3) := by decide +kernel
theorem dX6_determinant_63 : decode cX6_determinant 63 = .ok (.goto (-61), 3) := by decide +kernel
theorem dX6_determinant_66 : decode cX6_determinant 66 = .ok (.lconst 1, 1) := by decide +kernel
theorem dX6_determinant_67 : decode cX6_determinant 67 = .ok (.lstore_n 2, 1) := by decide +kernel
theorem dX6_determinant_68 : decode cX6_determinant 68 = .ok (.lconst 1, 1) := by decide +kernel
theorem dX6_determinant_69 : decode cX6_determinant 69 = .ok (.lstore 4, 2) := by decide +kernel
theorem dX6_determinant_71 : decode cX6_determinant 71 = .ok (.iconst 0, 1) := by decide +kernel
theorem dX6_determinant_72 : decode cX6_determinant 72 = .ok (.istore 6, 2) := by decide +kernel
theorem dX6_determinant_74 : decode cX6_determinant 74 = .ok (.iload 6, 2) := by decide +kernel
theorem dX6_determinant_76 : decode cX6_determinant 76 = .ok (.aload_n 0, 1) := by decide +kernel
theorem dX6_determinant_77 : decode cX6_determinant 77 = .ok (.getfield 175, 3) := by decide +kernel
theorem dX6_determinant_80 : decode cX6_determinant 80 = .ok (.if_icmp .ge 258, 3) := by decide +kernel
theorem dX6_determinant_83 : decode cX6_determinant 83 = .ok (.iload 6, 2) := by decide +kernel
theorem dX6_determinant_85 : decode cX6_determinant 85 = .ok (.istore 7, 2) := by decide +kernel
theorem dX6_determinant_87 : decode cX6_determinant 87 = .ok (.iload 7, 2) := by decide +kernel
theorem dX6_determinant_89 : decode cX6_determinant 89 = .ok (.aload_n 0, 1) := by decide +kernel
theorem dX6_determinant_90 : decode cX6_determinant 90 = .ok (.getfield 175, 3) := by decide +kernel
theorem dX6_determinant_93 : decode cX6_determinant 93 = .ok (.if_icmp .ge 26, 3) := by decide +kernel
theorem dX6_determinant_96 : decode cX6_determinant 96 = .ok (.aload_n 0, 1) := by decide +kernel
theorem dX6_determinant_97 : decode cX6_determinant 97 = .ok (.getfield 64, 3) := by decide +kernel
theorem dX6_determinant_100 : decode cX6_determinant 100 = .ok (.iconst 5, 1) := by decide +kernel
theorem dX6_determinant_101 : decode cX6_determinant 101 = .ok (.iload 7, 2) := by decide +kernel
theorem dX6_determinant_103 : decode cX6_determinant 103 = .ok (.imul, 1) := by decide +kernel
theorem dX6_determinant_104 : decode cX6_determinant 104 = .ok (.iload 6, 2) := by decide +kernel
theorem dX6_determinant_106 : decode cX6_determinant 106 = .ok (.iadd, 1) := by decide +kernel
theorem dX6_determinant_107 : decode cX6_determinant 107 = .ok (.laload, 1) := by decide +kernel
theorem dX6_determinant_108 : decode cX6_determinant 108 = .ok (.lconst 0, 1) := by decide +kernel
theorem dX6_determinant_109 : decode cX6_determinant 109 = .ok (.lcmp, 1) := by decide +kernel
theorem dX6_determinant_110 : decode cX6_determinant 110 = .ok (.ifCond .ne 9, 3) := by decide +kernel
theorem dX6_determinant_113 : decode cX6_determinant 113 = .ok (.iinc 7 1, 3) := by decide +kernel
theorem dX6_determinant_116 : decode cX6_determinant 116 = .ok (.goto (-29), 3) := by decide +kernel
theorem dX6_determinant_119 : decode cX6_determinant 119 = .ok (.iload 7, 2) := by decide +kernel
theorem dX6_determinant_121 : decode cX6_determinant 121 = .ok (.aload_n 0, 1) := by decide +kernel
theorem dX6_determinant_122 : decode cX6_determinant 122 = .ok (.getfield 175, 3) := by decide +kernel
theorem dX6_determinant_125 : decode cX6_determinant 125 = .ok (.if_icmp .ne 5, 3) := by decide +kernel
theorem dX6_determinant_128 : decode cX6_determinant 128 = .ok (.lconst 0, 1) := by decide +kernel
theorem dX6_determinant_129 : decode cX6_determinant 129 = .ok (.lreturn, 1) := by decide +kernel
theorem dX6_determinant_130 : decode cX6_determinant 130 = .ok (.iload 7, 2) := by decide +kernel
theorem dX6_determinant_132 : decode cX6_determinant 132 = .ok (.iload 6, 2) := by decide +kernel
theorem dX6_determinant_134 : decode cX6_determinant 134 = .ok (.if_icmp .eq 78, 3) := by decide +kernel
theorem dX6_determinant_137 : decode cX6_determinant 137 = .ok (.lload 4, 2) := by decide +kernel
theorem dX6_determinant_139 : decode cX6_determinant 139 = .ok (.lneg, 1) := by decide +kernel
theorem dX6_determinant_140 : decode cX6_determinant 140 = .ok (.lstore 4, 2) := by decide +kernel
theorem dX6_determinant_142 : decode cX6_determinant 142 = .ok (.iconst 0, 1) := by decide +kernel
theorem dX6_determinant_143 : decode cX6_determinant 143 = .ok (.istore 8, 2) := by decide +kernel
theorem dX6_determinant_145 : decode cX6_determinant 145 = .ok (.iload 8, 2) := by decide +kernel
theorem dX6_determinant_147 : decode cX6_determinant 147 = .ok (.aload_n 0, 1) := by decide +kernel
theorem dX6_determinant_148 : decode cX6_determinant 148 = .ok (.getfield 175, 3) := by decide +kernel
theorem dX6_determinant_151 : decode cX6_determinant 151 = .ok (.if_icmp .ge 61, 3) := by decide +kernel
theorem dX6_determinant_154 : decode cX6_determinant 154 = .ok (.aload_n 0, 1) := by decide +kernel
theorem dX6_determinant_155 : decode cX6_determinant 155 = .ok (.getfield 64, 3) := by decide +kernel
theorem dX6_determinant_158 : decode cX6_determinant 158 = .ok (.iconst 5, 1) := by decide +kernel
theorem dX6_determinant_159 : decode cX6_determinant 159 = .ok (.iload 7, 2) := by decide +kernel
theorem dX6_determinant_161 : decode cX6_determinant 161 = .ok (.imul, 1) := by decide +kernel
theorem dX6_determinant_162 : decode cX6_determinant 162 = .ok (.iload 8, 2) := by decide +kernel
theorem dX6_determinant_164 : decode cX6_determinant 164 = .ok (.iadd, 1) := by decide +kernel
theorem dX6_determinant_165 : decode cX6_determinant 165 = .ok (.laload, 1) := by decide +kernel
theorem dX6_determinant_166 : decode cX6_determinant 166 = .ok (.lstore 9, 2) := by decide +kernel
theorem dX6_determinant_168 : decode cX6_determinant 168 = .ok (.aload_n 0, 1) := by decide +kernel
theorem dX6_determinant_169 : decode cX6_determinant 169 = .ok (.getfield 64, 3) := by decide +kernel
theorem dX6_determinant_172 : decode cX6_determinant 172 = .ok (.iconst 5, 1) := by decide +kernel
theorem dX6_determinant_173 : decode cX6_determinant 173 = .ok (.iload 7, 2) := by decide +kernel
theorem dX6_determinant_175 : decode cX6_determinant 175 = .ok (.imul, 1) := by decide +kernel
theorem dX6_determinant_176 : decode cX6_determinant 176 = .ok (.iload 8, 2) := by decide +kernel
theorem dX6_determinant_178 : decode cX6_determinant 178 = .ok (.iadd, 1) := by decide +kernel
theorem dX6_determinant_179 : decode cX6_determinant 179 = .ok (.aload_n 0, 1) := by decide +kernel
theorem dX6_determinant_180 : decode cX6_determinant 180 = .ok (.getfield 64, 3) := by decide +kernel
theorem dX6_determinant_183 : decode cX6_determinant 183 = .ok (.iconst 5, 1) := by decide +kernel
theorem dX6_determinant_184 : decode cX6_determinant 184 = .ok (.iload 6, 2) := by decide +kernel
theorem dX6_determinant_186 : decode cX6_determinant 186 = .ok (.imul, 1) := by decide +kernel
theorem dX6_determinant_187 : decode cX6_determinant 187 = .ok (.iload 8, 2) := by decide +kernel
theorem dX6_determinant_189 : decode cX6_determinant 189 = .ok (.iadd, 1) := by decide +kernel
theorem dX6_determinant_190 : decode cX6_determinant 190 = .ok (.laload, 1) := by decide +kernel
theorem dX6_determinant_191 : decode cX6_determinant 191 = .ok (.lastore, 1) := by decide +kernel
theorem dX6_determinant_192 : decode cX6_determinant 192 = .ok (.aload_n 0, 1) := by decide +kernel
theorem dX6_determinant_193 : decode cX6_determinant 193 = .ok (.getfield 64, 3) := by decide +kernel
theorem dX6_determinant_196 : decode cX6_determinant 196 = .ok (.iconst 5, 1) := by decide +kernel
theorem dX6_determinant_197 : decode cX6_determinant 197 = .ok (.iload 6, 2) := by decide +kernel
theorem dX6_determinant_199 : decode cX6_determinant 199 = .ok (.imul, 1) := by decide +kernel
theorem dX6_determinant_200 : decode cX6_determinant 200 = .ok (.iload 8, 2) := by decide +kernel
theorem dX6_determinant_202 : decode cX6_determinant 202 = .ok (.iadd, 1) := by decide +kernel
theorem dX6_determinant_203 : decode cX6_determinant 203 = .ok (.lload 9, 2) := by decide +kernel
theorem dX6_determinant_205 : decode cX6_determinant 205 = .ok (.lastore, 1) := by decide +kernel
theorem dX6_determinant_206 : decode cX6_determinant 206 = .ok (.iinc 8 1, 3) := by decide +kernel
theorem dX6_determinant_209 : decode cX6_determinant 209 = .ok (.goto (-64), 3) := by decide +kernel
theorem dX6_determinant_212 : decode cX6_determinant 212 = .ok (.iload 6, 2) := by decide +kernel
theorem dX6_determinant_214 : decode cX6_determinant 214 = .ok (.iconst 1, 1) := by decide +kernel
theorem dX6_determinant_215 : decode cX6_determinant 215 = .ok (.iadd, 1) := by decide +kernel
theorem dX6_determinant_216 : decode cX6_determinant 216 = .ok (.istore 8, 2) := by decide +kernel
theorem dX6_determinant_218 : decode cX6_determinant 218 = .ok (.iload 8, 2) := by decide +kernel
theorem dX6_determinant_220 : decode cX6_determinant 220 = .ok (.aload_n 0, 1) := by decide +kernel
theorem dX6_determinant_221 : decode cX6_determinant 221 = .ok (.getfield 175, 3) := by decide +kernel
theorem dX6_determinant_224 : decode cX6_determinant 224 = .ok (.if_icmp .ge 95, 3) := by decide +kernel
theorem dX6_determinant_227 : decode cX6_determinant 227 = .ok (.aload_n 0, 1) := by decide +kernel
theorem dX6_determinant_228 : decode cX6_determinant 228 = .ok (.getfield 175, 3) := by decide +kernel
theorem dX6_determinant_231 : decode cX6_determinant 231 = .ok (.iconst 1, 1) := by decide +kernel
theorem dX6_determinant_232 : decode cX6_determinant 232 = .ok (.isub, 1) := by decide +kernel
theorem dX6_determinant_233 : decode cX6_determinant 233 = .ok (.istore 9, 2) := by decide +kernel
theorem dX6_determinant_235 : decode cX6_determinant 235 = .ok (.iload 9, 2) := by decide +kernel
theorem dX6_determinant_237 : decode cX6_determinant 237 = .ok (.iload 6, 2) := by decide +kernel
theorem dX6_determinant_239 : decode cX6_determinant 239 = .ok (.if_icmp .lt 74, 3) := by decide +kernel
theorem dX6_determinant_242 : decode cX6_determinant 242 = .ok (.aload_n 0, 1) := by decide +kernel
theorem dX6_determinant_243 : decode cX6_determinant 243 = .ok (.getfield 64, 3) := by decide +kernel
theorem dX6_determinant_246 : decode cX6_determinant 246 = .ok (.iconst 5, 1) := by decide +kernel
theorem dX6_determinant_247 : decode cX6_determinant 247 = .ok (.iload 8, 2) := by decide +kernel
theorem dX6_determinant_249 : decode cX6_determinant 249 = .ok (.imul, 1) := by decide +kernel
theorem dX6_determinant_250 : decode cX6_determinant 250 = .ok (.iload 9, 2) := by decide +kernel
theorem dX6_determinant_252 : decode cX6_determinant 252 = .ok (.iadd, 1) := by decide +kernel
theorem dX6_determinant_253 : decode cX6_determinant 253 = .ok (.aload_n 0, 1) := by decide +kernel
theorem dX6_determinant_254 : decode cX6_determinant 254 = .ok (.getfield 64, 3) := by decide +kernel
theorem dX6_determinant_257 : decode cX6_determinant 257 = .ok (.iconst 5, 1) := by decide +kernel
theorem dX6_determinant_258 : decode cX6_determinant 258 = .ok (.iload 8, 2) := by decide +kernel
theorem dX6_determinant_260 : decode cX6_determinant 260 = .ok (.imul, 1) := by decide +kernel
theorem dX6_determinant_261 : decode cX6_determinant 261 = .ok (.iload 9, 2) := by decide +kernel
theorem dX6_determinant_263 : decode cX6_determinant 263 = .ok (.iadd, 1) := by decide +kernel
theorem dX6_determinant_264 : decode cX6_determinant 264 = .ok (.laload, 1) := by decide +kernel
theorem dX6_determinant_265 : decode cX6_determinant 265 = .ok (.aload_n 0, 1) := by decide +kernel
theorem dX6_determinant_266 : decode cX6_determinant 266 = .ok (.getfield 64, 3) := by decide +kernel
theorem dX6_determinant_269 : decode cX6_determinant 269 = .ok (.iconst 5, 1) := by decide +kernel
theorem dX6_determinant_270 : decode cX6_determinant 270 = .ok (.iload 6, 2) := by decide +kernel
theorem dX6_determinant_272 : decode cX6_determinant 272 = .ok (.imul, 1) := by decide +kernel
theorem dX6_determinant_273 : decode cX6_determinant 273 = .ok (.iload 6, 2) := by decide +kernel
theorem dX6_determinant_275 : decode cX6_determinant 275 = .ok (.iadd, 1) := by decide +kernel
theorem dX6_determinant_276 : decode cX6_determinant 276 = .ok (.laload, 1) := by decide +kernel
theorem dX6_determinant_277 : decode cX6_determinant 277 = .ok (.lmul, 1) := by decide +kernel
theorem dX6_determinant_278 : decode cX6_determinant 278 = .ok (.aload_n 0, 1) := by decide +kernel
theorem dX6_determinant_279 : decode cX6_determinant 279 = .ok (.getfield 64, 3) := by decide +kernel
theorem dX6_determinant_282 : decode cX6_determinant 282 = .ok (.iconst 5, 1) := by decide +kernel
theorem dX6_determinant_283 : decode cX6_determinant 283 = .ok (.iload 8, 2) := by decide +kernel
theorem dX6_determinant_285 : decode cX6_determinant 285 = .ok (.imul, 1) := by decide +kernel
theorem dX6_determinant_286 : decode cX6_determinant 286 = .ok (.iload 6, 2) := by decide +kernel
theorem dX6_determinant_288 : decode cX6_determinant 288 = .ok (.iadd, 1) := by decide +kernel
theorem dX6_determinant_289 : decode cX6_determinant 289 = .ok (.laload, 1) := by decide +kernel
theorem dX6_determinant_290 : decode cX6_determinant 290 = .ok (.aload_n 0, 1) := by decide +kernel
theorem dX6_determinant_291 : decode cX6_determinant 291 = .ok (.getfield 64, 3) := by decide +kernel
theorem dX6_determinant_294 : decode cX6_determinant 294 = .ok (.iconst 5, 1) := by decide +kernel
theorem dX6_determinant_295 : decode cX6_determinant 295 = .ok (.iload 6, 2) := by decide +kernel
theorem dX6_determinant_297 : decode cX6_determinant 297 = .ok (.imul, 1) := by decide +kernel
theorem dX6_determinant_298 : decode cX6_determinant 298 = .ok (.iload 9, 2) := by decide +kernel
theorem dX6_determinant_300 : decode cX6_determinant 300 = .ok (.iadd, 1) := by decide +kernel
theorem dX6_determinant_301 : decode cX6_determinant 301 = .ok (.laload, 1) := by decide +kernel
theorem dX6_determinant_302 : decode cX6_determinant 302 = .ok (.lmul, 1) := by decide +kernel
theorem dX6_determinant_303 : decode cX6_determinant 303 = .ok (.lsub, 1) := by decide +kernel
theorem dX6_determinant_304 : decode cX6_determinant 304 = .ok (.lload_n 2, 1) := by decide +kernel
theorem dX6_determinant_305 : decode cX6_determinant 305 = .ok (.ldiv, 1) := by decide +kernel
theorem dX6_determinant_306 : decode cX6_determinant 306 = .ok (.lastore, 1) := by decide +kernel
theorem dX6_determinant_307 : decode cX6_determinant 307 = .ok (.iinc 9 (-1), 3) := by decide +kernel
theorem dX6_determinant_310 : decode cX6_determinant 310 = .ok (.goto (-75), 3) := by decide +kernel
theorem dX6_determinant_313 : decode cX6_determinant 313 = .ok (.iinc 8 1, 3) := by decide +kernel
theorem dX6_determinant_316 : decode cX6_determinant 316 = .ok (.goto (-98), 3) := by decide +kernel
theorem dX6_determinant_319 : decode cX6_determinant 319 = .ok (.aload_n 0, 1) := by decide +kernel
theorem dX6_determinant_320 : decode cX6_determinant 320 = .ok (.getfield 64, 3) := by decide +kernel
theorem dX6_determinant_323 : decode cX6_determinant 323 = .ok (.iconst 5, 1) := by decide +kernel
theorem dX6_determinant_324 : decode cX6_determinant 324 = .ok (.iload 6, 2) := by decide +kernel
theorem dX6_determinant_326 : decode cX6_determinant 326 = .ok (.imul, 1) := by decide +kernel
theorem dX6_determinant_327 : decode cX6_determinant 327 = .ok (.iload 6, 2) := by decide +kernel
theorem dX6_determinant_329 : decode cX6_determinant 329 = .ok (.iadd, 1) := by decide +kernel
theorem dX6_determinant_330 : decode cX6_determinant 330 = .ok (.laload, 1) := by decide +kernel
theorem dX6_determinant_331 : decode cX6_determinant 331 = .ok (.lstore_n 2, 1) := by decide +kernel
theorem dX6_determinant_332 : decode cX6_determinant 332 = .ok (.iinc 6 1, 3) := by decide +kernel
theorem dX6_determinant_335 : decode cX6_determinant 335 = .ok (.goto (-261), 3) := by decide +kernel
theorem dX6_determinant_338 : decode cX6_determinant 338 = .ok (.lload 4, 2) := by decide +kernel
theorem dX6_determinant_340 : decode cX6_determinant 340 = .ok (.lload_n 2, 1) := by decide +kernel
theorem dX6_determinant_341 : decode cX6_determinant 341 = .ok (.lmul, 1) := by decide +kernel
theorem dX6_determinant_342 : decode cX6_determinant 342 = .ok (.lreturn, 1) := by decide +kernel
theorem dX6_divisor_0 : decode cX6_divisor 0 = .ok (.lload_n 0, 1) := by decide +kernel
theorem dX6_divisor_1 : decode cX6_divisor 1 = .ok (.lconst 0, 1) := by decide +kernel
theorem dX6_divisor_2 : decode cX6_divisor 2 = .ok (.lcmp, 1) := by decide +kernel
theorem dX6_divisor_3 : decode cX6_divisor 3 = .ok (.ifCond .ge 8, 3) := by decide +kernel
theorem dX6_divisor_6 : decode cX6_divisor 6 = .ok (.lload_n 0, 1) := by decide +kernel
theorem dX6_divisor_7 : decode cX6_divisor 7 = .ok (.lneg, 1) := by decide +kernel
theorem dX6_divisor_8 : decode cX6_divisor 8 = .ok (.goto 4, 3) := by decide +kernel
theorem dX6_divisor_11 : decode cX6_divisor 11 = .ok (.lload_n 0, 1) := by decide +kernel
theorem dX6_divisor_12 : decode cX6_divisor 12 = .ok (.lstore 4, 2) := by decide +kernel
theorem dX6_divisor_14 : decode cX6_divisor 14 = .ok (.lload_n 2, 1) := by decide +kernel
theorem dX6_divisor_15 : decode cX6_divisor 15 = .ok (.lstore 6, 2) := by decide +kernel
theorem dX6_divisor_17 : decode cX6_divisor 17 = .ok (.lload 6, 2) := by decide +kernel
theorem dX6_divisor_19 : decode cX6_divisor 19 = .ok (.lconst 0, 1) := by decide +kernel
theorem dX6_divisor_20 : decode cX6_divisor 20 = .ok (.lcmp, 1) := by decide +kernel
theorem dX6_divisor_21 : decode cX6_divisor 21 = .ok (.ifCond .eq 21, 3) := by decide +kernel
theorem dX6_divisor_24 : decode cX6_divisor 24 = .ok (.lload 4, 2) := by decide +kernel
theorem dX6_divisor_26 : decode cX6_divisor 26 = .ok (.lload 6, 2) := by decide +kernel
theorem dX6_divisor_28 : decode cX6_divisor 28 = .ok (.lrem, 1) := by decide +kernel
theorem dX6_divisor_29 : decode cX6_divisor 29 = .ok (.lstore 8, 2) := by decide +kernel
theorem dX6_divisor_31 : decode cX6_divisor 31 = .ok (.lload 6, 2) := by decide +kernel
theorem dX6_divisor_33 : decode cX6_divisor 33 = .ok (.lstore 4, 2) := by decide +kernel
theorem dX6_divisor_35 : decode cX6_divisor 35 = .ok (.lload 8, 2) := by decide +kernel
theorem dX6_divisor_37 : decode cX6_divisor 37 = .ok (.lstore 6, 2) := by decide +kernel
theorem dX6_divisor_39 : decode cX6_divisor 39 = .ok (.goto (-22), 3) := by decide +kernel
theorem dX6_divisor_42 : decode cX6_divisor 42 = .ok (.lload 4, 2) := by decide +kernel
theorem dX6_divisor_44 : decode cX6_divisor 44 = .ok (.lreturn, 1) := by decide +kernel
set_option maxRecDepth 20000 in
theorem ggX6_layFraction_X6_divisor : GoodIn wsX6_layFraction wsX6_divisor := goodIn_r _ [6] (by decide +kernel) (by decide +kernel)
set_option maxRecDepth 20000 in
theorem gX6_layFraction_X6_divisor : GoodIn wsX6_layFraction (va_wsS RX6 182 yX6_divisor wsX6_divisor) := goodIn_app (goodIn_of _ (by decide +kernel)) ggX6_layFraction_X6_divisor
theorem dX6_layFraction_0 : decode cX6_layFraction 0 = .ok (.lload_n 1, 1) := by decide +kernel
theorem dX6_layFraction_1 : decode cX6_layFraction 1 = .ok (.lload_n 3, 1) := by decide +kernel
theorem dX6_layFraction_2 : decode cX6_layFraction 2 = .ok (.invokestatic 182, 3) := by decide +kernel
theorem dX6_layFraction_5 : decode cX6_layFraction 5 = .ok (.lstore 5, 2) := by decide +kernel
theorem dX6_layFraction_7 : decode cX6_layFraction 7 = .ok (.aload_n 0, 1) := by decide +kernel
theorem dX6_layFraction_8 : decode cX6_layFraction 8 = .ok (.lload_n 1, 1) := by decide +kernel
theorem dX6_layFraction_9 : decode cX6_layFraction 9 = .ok (.lload 5, 2) := by decide +kernel
theorem dX6_layFraction_11 : decode cX6_layFraction 11 = .ok (.ldiv, 1) := by decide +kernel
theorem dX6_layFraction_12 : decode cX6_layFraction 12 = .ok (.putfield 186, 3) := by decide +kernel
theorem dX6_layFraction_15 : decode cX6_layFraction 15 = .ok (.aload_n 0, 1) := by decide +kernel
theorem dX6_layFraction_16 : decode cX6_layFraction 16 = .ok (.lload_n 3, 1) := by decide +kernel
theorem dX6_layFraction_17 : decode cX6_layFraction 17 = .ok (.lload 5, 2) := by decide +kernel
theorem dX6_layFraction_19 : decode cX6_layFraction 19 = .ok (.ldiv, 1) := by decide +kernel
theorem dX6_layFraction_20 : decode cX6_layFraction 20 = .ok (.putfield 190, 3) := by decide +kernel
theorem dX6_layFraction_23 : decode cX6_layFraction 23 = .ok (.return_, 1) := by decide +kernel
theorem dX6_told_0 : decode cX6_told 0 = .ok (.iload_n 1, 1) := by decide +kernel
theorem dX6_told_1 : decode cX6_told 1 = .ok (.ifCond .eq 10, 3) := by decide +kernel
theorem dX6_told_4 : decode cX6_told 4 = .ok (.aload_n 0, 1) := by decide +kernel
theorem dX6_told_5 : decode cX6_told 5 = .ok (.getfield 186, 3) := by decide +kernel
theorem dX6_told_8 : decode cX6_told 8 = .ok (.goto 7, 3) := by decide +kernel
theorem dX6_told_11 : decode cX6_told 11 = .ok (.aload_n 0, 1) := by decide +kernel
theorem dX6_told_12 : decode cX6_told 12 = .ok (.getfield 190, 3) := by decide +kernel
theorem dX6_told_15 : decode cX6_told 15 = .ok (.lreturn, 1) := by decide +kernel
set_option maxRecDepth 20000 in
theorem ggX6_numberOf_X6_determinant : GoodIn wsX6_numberOf wsX6_determinant := goodIn_r _ [6, 7, 8, 9, 10, 11, 12, 13, 14, 15, 16, 17, 18, 19, 20, 21, 22, 23, 24, 25, 26, 27, 28, 29, 30, 31, 32, 33, 34, 35, 36, 37, 38] (by decide +kernel) (by decide +kernel)
set_option maxRecDepth 20000 in
theorem gX6_numberOf_X6_determinant : GoodIn wsX6_numberOf (wsV RX6 193 RX6 yX6_determinant wsX6_determinant) := goodIn_app (goodIn_of _ (by decide +kernel)) ggX6_numberOf_X6_determinant
theorem dX6_numberOf_0 : decode cX6_numberOf 0 = .ok (.aload_n 0, 1) := by decide +kernel
theorem dX6_numberOf_1 : decode cX6_numberOf 1 = .ok (.getfield 54, 3) := by decide +kernel
theorem dX6_numberOf_4 : decode cX6_numberOf 4 = .ok (.iload_n 1, 1) := by decide +kernel
theorem dX6_numberOf_5 : decode cX6_numberOf 5 = .ok (.iaload, 1) := by decide +kernel
theorem dX6_numberOf_6 : decode cX6_numberOf 6 = .ok (.bipush (-9), 2) := by decide +kernel
theorem dX6_numberOf_8 : decode cX6_numberOf 8 = .ok (.if_icmp .ne 7, 3) := by decide +kernel
theorem dX6_numberOf_11 : decode cX6_numberOf 11 = .ok (.lconst 0, 1) := by decide +kernel
theorem dX6_numberOf_12 : decode cX6_numberOf 12 = .ok (.goto 13, 3) := by decide +kernel
theorem dX6_numberOf_15 : decode cX6_numberOf 15 = .ok (.aload_n 0, 1) := by decide +kernel
theorem dX6_numberOf_16 : decode cX6_numberOf 16 = .ok (.aload_n 0, 1) := by decide +kernel
theorem dX6_numberOf_17 : decode cX6_numberOf 17 = .ok (.getfield 54, 3) := by decide +kernel
theorem dX6_numberOf_20 : decode cX6_numberOf 20 = .ok (.iload_n 1, 1) := by decide +kernel
theorem dX6_numberOf_21 : decode cX6_numberOf 21 = .ok (.iaload, 1) := by decide +kernel
theorem dX6_numberOf_22 : decode cX6_numberOf 22 = .ok (.invokevirtual 193, 3) := by decide +kernel
theorem dX6_numberOf_25 : decode cX6_numberOf 25 = .ok (.lreturn, 1) := by decide +kernel
set_option maxRecDepth 20000 in
theorem ggX6_evened_X6_noStation : GoodIn wsX6_evened wsX6_noStation := goodIn_r _ [11, 12, 13, 14, 10, 15, 82, 83, 84, 85, 86, 87, 88, 89, 90, 91, 92, 93, 94, 95, 96, 97, 98, 99, 100, 101, 102, 103, 104, 105, 106, 107, 108, 109] (by decide +kernel) (by decide +kernel)
set_option maxRecDepth 20000 in
theorem gX6_evened_X6_noStation : GoodIn wsX6_evened (wsV RX6 128 RX6 yX6_noStation wsX6_noStation) := goodIn_app (goodIn_of _ (by decide +kernel)) ggX6_evened_X6_noStation
set_option maxRecDepth 20000 in
theorem ggX6_evened_X6_in : GoodIn wsX6_evened wsX6_in := goodIn_r _ [15] (by decide +kernel) (by decide +kernel)
set_option maxRecDepth 20000 in
theorem gX6_evened_X6_in : GoodIn wsX6_evened (va_wsS RX6 70 yX6_in wsX6_in) := goodIn_app (goodIn_of _ (by decide +kernel)) ggX6_evened_X6_in
set_option maxRecDepth 20000 in
theorem ggX6_evened_X6_all : GoodIn wsX6_evened wsX6_all := goodIn_r _ [18] (by decide +kernel) (by decide +kernel)
set_option maxRecDepth 20000 in
theorem gX6_evened_X6_all : GoodIn wsX6_evened (va_wsS RX6 150 yX6_all wsX6_all) := goodIn_app (goodIn_of _ (by decide +kernel)) ggX6_evened_X6_all
set_option maxRecDepth 20000 in
theorem ggX6_evened_X6_tiedBy : GoodIn wsX6_evened wsX6_tiedBy := goodIn_r _ [22, 23, 24, 25, 10, 26, 27, 28, 29, 30, 31, 32] (by decide +kernel) (by decide +kernel)
set_option maxRecDepth 20000 in
theorem gX6_evened_X6_tiedBy : GoodIn wsX6_evened (wsV RX6 154 RX6 yX6_tiedBy wsX6_tiedBy) := goodIn_app (goodIn_of _ (by decide +kernel)) ggX6_evened_X6_tiedBy
set_option maxRecDepth 20000 in
theorem ggX6_evened_X6_has : GoodIn wsX6_evened wsX6_has := goodIn_r _ [29] (by decide +kernel) (by decide +kernel)
set_option maxRecDepth 20000 in
theorem gX6_evened_X6_has : GoodIn wsX6_evened (va_wsS RX6 144 yX6_has wsX6_has) := goodIn_app (goodIn_of _ (by decide +kernel)) ggX6_evened_X6_has
set_option maxRecDepth 20000 in
theorem ggX6_evened_X6_layGram : GoodIn wsX6_evened wsX6_layGram := goodIn_r _ [36, 37, 38, 39, 40, 41, 42, 10, 43, 44, 27, 28, 29, 45, 46, 47, 48, 30, 31, 32, 49, 50, 51, 52, 53, 54, 55, 56, 57, 58, 59, 82, 83, 84, 85, 86, 87, 88, 89, 90, 91, 92, 93, 94, 95, 96, 97, 98, 99, 100, 101, 102, 103, 104, 105, 106, 107, 108, 109] (by decide +kernel) (by decide +kernel)
set_option maxRecDepth 20000 in
theorem gX6_evened_X6_layGram : GoodIn wsX6_evened (wsV RX6 203 RX6 yX6_layGram wsX6_layGram) := goodIn_app (goodIn_of _ (by decide +kernel)) ggX6_evened_X6_layGram
set_option maxRecDepth 20000 in
theorem ggX6_evened_X6_numberOf : GoodIn wsX6_evened wsX6_numberOf := goodIn_r _ [63, 39, 64, 65, 66, 10, 67, 44, 68, 38, 37, 82, 83, 84, 85, 86, 87, 88, 89, 90, 91, 92, 93, 94, 95, 96, 97, 98, 99, 100, 101, 102, 103, 104, 105, 106, 107, 108, 109] (by decide +kernel) (by decide +kernel)
set_option maxRecDepth 20000 in
theorem gX6_evened_X6_numberOf : GoodIn wsX6_evened (wsV RX6 207 RX6 yX6_numberOf wsX6_numberOf) := goodIn_app (goodIn_of _ (by decide +kernel)) ggX6_evened_X6_numberOf
set_option maxRecDepth 20000 in
theorem ggX6_evened_X6_determinant : GoodIn wsX6_evened wsX6_determinant := goodIn_r _ [67, 44, 68, 38, 37, 82, 83, 84, 85, 86, 87, 88, 89, 90, 91, 92, 93, 94, 95, 96, 97, 98, 99, 100, 101, 102, 103, 104, 105, 106, 107, 108, 109] (by decide +kernel) (by decide +kernel)
set_option maxRecDepth 20000 in
theorem gX6_evened_X6_determinant : GoodIn wsX6_evened (wsV RX6 193 RX6 yX6_determinant wsX6_determinant) := goodIn_app (goodIn_of _ (by decide +kernel)) ggX6_evened_X6_determinant
set_option maxRecDepth 20000 in
theorem ggX6_evened_X6_layFraction : GoodIn wsX6_evened wsX6_layFraction := goodIn_r _ [72, 73, 74, 75, 76, 10, 77, 82, 83, 84, 85, 86, 87, 88, 89, 90, 91, 92, 93, 94, 95, 96, 97, 98, 99, 100, 101, 102, 103, 104, 105, 106, 107, 108, 109] (by decide +kernel) (by decide +kernel)
set_option maxRecDepth 20000 in
theorem gX6_evened_X6_layFraction : GoodIn wsX6_evened (wsV RX6 210 RX6 yX6_layFraction wsX6_layFraction) := goodIn_app (goodIn_of _ (by decide +kernel)) ggX6_evened_X6_layFraction
set_option maxRecDepth 20000 in
theorem ggX6_evened_X6_told : GoodIn wsX6_evened wsX6_told := goodIn_r _ [81, 73, 74, 82, 83, 84, 85, 86, 87, 88, 89, 90, 91, 92, 93, 94, 95, 96, 97, 98, 99, 100, 101, 102, 103, 104, 105, 106, 107, 108, 109] (by decide +kernel) (by decide +kernel)
set_option maxRecDepth 20000 in
theorem gX6_evened_X6_told : GoodIn wsX6_evened (wsV RX6 214 RX6 yX6_told wsX6_told) := goodIn_app (goodIn_of _ (by decide +kernel)) ggX6_evened_X6_told
theorem dX6_evened_0 : decode cX6_evened 0 = .ok (.aload_n 0, 1) := by decide +kernel
theorem dX6_evened_1 : decode cX6_evened 1 = .ok (.iconst 0, 1) := by decide +kernel
theorem dX6_evened_2 : decode cX6_evened 2 = .ok (.putfield 67, 3) := by decide +kernel
theorem dX6_evened_5 : decode cX6_evened 5 = .ok (.aload_n 0, 1) := by decide +kernel
theorem dX6_evened_6 : decode cX6_evened 6 = .ok (.iload_n 1, 1) := by decide +kernel
theorem dX6_evened_7 : decode cX6_evened 7 = .ok (.invokevirtual 128, 3) := by decide +kernel
theorem dX6_evened_10 : decode cX6_evened 10 = .ok (.ifCond .eq 7, 3) := by decide +kernel
theorem dX6_evened_13 : decode cX6_evened 13 = .ok (.ldc2_w 197, 3) := by decide +kernel
theorem dX6_evened_16 : decode cX6_evened 16 = .ok (.lreturn, 1) := by decide +kernel
theorem dX6_evened_17 : decode cX6_evened 17 = .ok (.iload_n 2, 1) := by decide +kernel
theorem dX6_evened_18 : decode cX6_evened 18 = .ok (.i2l, 1) := by decide +kernel
theorem dX6_evened_19 : decode cX6_evened 19 = .ok (.lconst 0, 1) := by decide +kernel
theorem dX6_evened_20 : decode cX6_evened 20 = .ok (.ldc2_w 166, 3) := by decide +kernel
theorem dX6_evened_23 : decode cX6_evened 23 = .ok (.invokestatic 70, 3) := by decide +kernel
theorem dX6_evened_26 : decode cX6_evened 26 = .ok (.ifCond .ne 7, 3) := by decide +kernel
theorem dX6_evened_29 : decode cX6_evened 29 = .ok (.ldc2_w 199, 3) := by decide +kernel
theorem dX6_evened_32 : decode cX6_evened 32 = .ok (.lreturn, 1) := by decide +kernel
theorem dX6_evened_33 : decode cX6_evened 33 = .ok (.aload_n 0, 1) := by decide +kernel
theorem dX6_evened_34 : decode cX6_evened 34 = .ok (.aload_n 0, 1) := by decide +kernel
theorem dX6_evened_35 : decode cX6_evened 35 = .ok (.getfield 20, 3) := by decide +kernel
theorem dX6_evened_38 : decode cX6_evened 38 = .ok (.aload_n 0, 1) := by decide +kernel
theorem dX6_evened_39 : decode cX6_evened 39 = .ok (.getfield 20, 3) := by decide +kernel
theorem dX6_evened_42 : decode cX6_evened 42 = .ok (.invokestatic 150, 3) := by decide +kernel
theorem dX6_evened_45 : decode cX6_evened 45 = .ok (.invokevirtual 154, 3) := by decide +kernel
theorem dX6_evened_48 : decode cX6_evened 48 = .ok (.istore 4, 2) := by decide +kernel
theorem dX6_evened_50 : decode cX6_evened 50 = .ok (.iload 4, 2) := by decide +kernel
theorem dX6_evened_52 : decode cX6_evened 52 = .ok (.iload_n 1, 1) := by decide +kernel
theorem dX6_evened_53 : decode cX6_evened 53 = .ok (.invokestatic 144, 3) := by decide +kernel
theorem dX6_evened_56 : decode cX6_evened 56 = .ok (.ifCond .ne 7, 3) := by decide +kernel
theorem dX6_evened_59 : decode cX6_evened 59 = .ok (.ldc2_w 201, 3) := by decide +kernel
theorem dX6_evened_62 : decode cX6_evened 62 = .ok (.lreturn, 1) := by decide +kernel
theorem dX6_evened_63 : decode cX6_evened 63 = .ok (.aload_n 0, 1) := by decide +kernel
theorem dX6_evened_64 : decode cX6_evened 64 = .ok (.aload_n 0, 1) := by decide +kernel
theorem dX6_evened_65 : decode cX6_evened 65 = .ok (.getfield 20, 3) := by decide +kernel
theorem dX6_evened_68 : decode cX6_evened 68 = .ok (.aload_n 0, 1) := by decide +kernel
theorem dX6_evened_69 : decode cX6_evened 69 = .ok (.getfield 20, 3) := by decide +kernel
theorem dX6_evened_72 : decode cX6_evened 72 = .ok (.invokestatic 150, 3) := by decide +kernel
theorem dX6_evened_75 : decode cX6_evened 75 = .ok (.iload 4, 2) := by decide +kernel
theorem dX6_evened_77 : decode cX6_evened 77 = .ok (.iload_n 2, 1) := by decide +kernel
theorem dX6_evened_78 : decode cX6_evened 78 = .ok (.invokevirtual 203, 3) := by decide +kernel
theorem dX6_evened_81 : decode cX6_evened 81 = .ok (.aload_n 0, 1) := by decide +kernel
theorem dX6_evened_82 : decode cX6_evened 82 = .ok (.aload_n 0, 1) := by decide +kernel
theorem dX6_evened_83 : decode cX6_evened 83 = .ok (.iload_n 1, 1) := by decide +kernel
theorem dX6_evened_84 : decode cX6_evened 84 = .ok (.invokevirtual 207, 3) := by decide +kernel
theorem dX6_evened_87 : decode cX6_evened 87 = .ok (.aload_n 0, 1) := by decide +kernel
theorem dX6_evened_88 : decode cX6_evened 88 = .ok (.bipush (-9), 2) := by decide +kernel
theorem dX6_evened_90 : decode cX6_evened 90 = .ok (.invokevirtual 193, 3) := by decide +kernel
theorem dX6_evened_93 : decode cX6_evened 93 = .ok (.invokevirtual 210, 3) := by decide +kernel
theorem dX6_evened_96 : decode cX6_evened 96 = .ok (.aload_n 0, 1) := by decide +kernel
theorem dX6_evened_97 : decode cX6_evened 97 = .ok (.iload_n 3, 1) := by decide +kernel
theorem dX6_evened_98 : decode cX6_evened 98 = .ok (.invokevirtual 214, 3) := by decide +kernel
theorem dX6_evened_101 : decode cX6_evened 101 = .ok (.lreturn, 1) := by decide +kernel
set_option maxRecDepth 20000 in
theorem ggX6_rest_X6_noLeg : GoodIn wsX6_rest wsX6_noLeg := goodIn_r _ [11, 5, 12, 13, 10, 14, 81, 82, 83, 84, 85, 86, 87, 88, 89, 90, 91, 92, 93, 94, 95, 96, 97, 98, 99, 100, 101, 102, 103, 104, 105, 106, 107, 108] (by decide +kernel) (by decide +kernel)
set_option maxRecDepth 20000 in
theorem gX6_rest_X6_noLeg : GoodIn wsX6_rest (wsV RX6 113 RX6 yX6_noLeg wsX6_noLeg) := goodIn_app (goodIn_of _ (by decide +kernel)) ggX6_rest_X6_noLeg
set_option maxRecDepth 20000 in
theorem ggX6_rest_X6_in : GoodIn wsX6_rest wsX6_in := goodIn_r _ [14] (by decide +kernel) (by decide +kernel)
set_option maxRecDepth 20000 in
theorem gX6_rest_X6_in : GoodIn wsX6_rest (va_wsS RX6 70 yX6_in wsX6_in) := goodIn_app (goodIn_of _ (by decide +kernel)) ggX6_rest_X6_in
set_option maxRecDepth 20000 in
theorem ggX6_rest_X6_all : GoodIn wsX6_rest wsX6_all := goodIn_r _ [17] (by decide +kernel) (by decide +kernel)
set_option maxRecDepth 20000 in
theorem gX6_rest_X6_all : GoodIn wsX6_rest (va_wsS RX6 150 yX6_all wsX6_all) := goodIn_app (goodIn_of _ (by decide +kernel)) ggX6_rest_X6_all
set_option maxRecDepth 20000 in
theorem ggX6_rest_X6_tiedBy : GoodIn wsX6_rest wsX6_tiedBy := goodIn_r _ [21, 22, 23, 24, 10, 25, 26, 27, 28, 29, 30, 31] (by decide +kernel) (by decide +kernel)
set_option maxRecDepth 20000 in
theorem gX6_rest_X6_tiedBy : GoodIn wsX6_rest (wsV RX6 154 RX6 yX6_tiedBy wsX6_tiedBy) := goodIn_app (goodIn_of _ (by decide +kernel)) ggX6_rest_X6_tiedBy
set_option maxRecDepth 20000 in
theorem ggX6_rest_X6_isTiedLeg : GoodIn wsX6_rest wsX6_isTiedLeg := goodIn_r _ [35, 29, 30, 10, 31, 26, 27, 28] (by decide +kernel) (by decide +kernel)
set_option maxRecDepth 20000 in
theorem gX6_rest_X6_isTiedLeg : GoodIn wsX6_rest (wsV RX6 162 RX6 yX6_isTiedLeg wsX6_isTiedLeg) := goodIn_app (goodIn_of _ (by decide +kernel)) ggX6_rest_X6_isTiedLeg
set_option maxRecDepth 20000 in
theorem ggX6_rest_X6_layGram : GoodIn wsX6_rest wsX6_layGram := goodIn_r _ [39, 40, 41, 42, 43, 44, 45, 10, 46, 47, 26, 27, 28, 32, 33, 34, 35, 29, 30, 31, 48, 49, 50, 51, 52, 53, 54, 55, 56, 57, 58, 81, 82, 83, 84, 85, 86, 87, 88, 89, 90, 91, 92, 93, 94, 95, 96, 97, 98, 99, 100, 101, 102, 103, 104, 105, 106, 107, 108] (by decide +kernel) (by decide +kernel)
set_option maxRecDepth 20000 in
theorem gX6_rest_X6_layGram : GoodIn wsX6_rest (wsV RX6 203 RX6 yX6_layGram wsX6_layGram) := goodIn_app (goodIn_of _ (by decide +kernel)) ggX6_rest_X6_layGram
set_option maxRecDepth 20000 in
theorem ggX6_rest_X6_determinant : GoodIn wsX6_rest wsX6_determinant := goodIn_r _ [62, 47, 63, 41, 40, 81, 82, 83, 84, 85, 86, 87, 88, 89, 90, 91, 92, 93, 94, 95, 96, 97, 98, 99, 100, 101, 102, 103, 104, 105, 106, 107, 108] (by decide +kernel) (by decide +kernel)
set_option maxRecDepth 20000 in
theorem gX6_rest_X6_determinant : GoodIn wsX6_rest (wsV RX6 193 RX6 yX6_determinant wsX6_determinant) := goodIn_app (goodIn_of _ (by decide +kernel)) ggX6_rest_X6_determinant
set_option maxRecDepth 20000 in
theorem ggX6_rest_X6_stepOf : GoodIn wsX6_rest wsX6_stepOf := goodIn_r _ [51, 52, 29, 30, 10, 31, 53, 54, 55, 56, 57, 58, 81, 82, 83, 84, 85, 86, 87, 88, 89, 90, 91, 92, 93, 94, 95, 96, 97, 98, 99, 100, 101, 102, 103, 104, 105, 106, 107, 108] (by decide +kernel) (by decide +kernel)
set_option maxRecDepth 20000 in
theorem gX6_rest_X6_stepOf : GoodIn wsX6_rest (wsV RX6 119 RX6 yX6_stepOf wsX6_stepOf) := goodIn_app (goodIn_of _ (by decide +kernel)) ggX6_rest_X6_stepOf
set_option maxRecDepth 20000 in
theorem ggX6_rest_X6_of : GoodIn wsX6_rest wsX6_of := goodIn_r _ [31] (by decide +kernel) (by decide +kernel)
set_option maxRecDepth 20000 in
theorem gX6_rest_X6_of : GoodIn wsX6_rest (va_wsS RX6 103 yX6_of wsX6_of) := goodIn_app (goodIn_of _ (by decide +kernel)) ggX6_rest_X6_of
set_option maxRecDepth 20000 in
theorem ggX6_rest_X6_numberOf : GoodIn wsX6_rest wsX6_numberOf := goodIn_r _ [67, 42, 59, 60, 61, 10, 62, 47, 63, 41, 40, 81, 82, 83, 84, 85, 86, 87, 88, 89, 90, 91, 92, 93, 94, 95, 96, 97, 98, 99, 100, 101, 102, 103, 104, 105, 106, 107, 108] (by decide +kernel) (by decide +kernel)
set_option maxRecDepth 20000 in
theorem gX6_rest_X6_numberOf : GoodIn wsX6_rest (wsV RX6 207 RX6 yX6_numberOf wsX6_numberOf) := goodIn_app (goodIn_of _ (by decide +kernel)) ggX6_rest_X6_numberOf
set_option maxRecDepth 20000 in
theorem ggX6_rest_X6_layFraction : GoodIn wsX6_rest wsX6_layFraction := goodIn_r _ [71, 72, 73, 74, 75, 10, 76, 81, 82, 83, 84, 85, 86, 87, 88, 89, 90, 91, 92, 93, 94, 95, 96, 97, 98, 99, 100, 101, 102, 103, 104, 105, 106, 107, 108] (by decide +kernel) (by decide +kernel)
set_option maxRecDepth 20000 in
theorem gX6_rest_X6_layFraction : GoodIn wsX6_rest (wsV RX6 210 RX6 yX6_layFraction wsX6_layFraction) := goodIn_app (goodIn_of _ (by decide +kernel)) ggX6_rest_X6_layFraction
set_option maxRecDepth 20000 in
theorem ggX6_rest_X6_told : GoodIn wsX6_rest wsX6_told := goodIn_r _ [80, 72, 73, 81, 82, 83, 84, 85, 86, 87, 88, 89, 90, 91, 92, 93, 94, 95, 96, 97, 98, 99, 100, 101, 102, 103, 104, 105, 106, 107, 108] (by decide +kernel) (by decide +kernel)
set_option maxRecDepth 20000 in
theorem gX6_rest_X6_told : GoodIn wsX6_rest (wsV RX6 214 RX6 yX6_told wsX6_told) := goodIn_app (goodIn_of _ (by decide +kernel)) ggX6_rest_X6_told
theorem dX6_rest_0 : decode cX6_rest 0 = .ok (.aload_n 0, 1) := by decide +kernel
theorem dX6_rest_1 : decode cX6_rest 1 = .ok (.iconst 0, 1) := by decide +kernel
theorem dX6_rest_2 : decode cX6_rest 2 = .ok (.putfield 67, 3) := by decide +kernel
theorem dX6_rest_5 : decode cX6_rest 5 = .ok (.aload_n 0, 1) := by decide +kernel
theorem dX6_rest_6 : decode cX6_rest 6 = .ok (.iload_n 1, 1) := by decide +kernel
theorem dX6_rest_7 : decode cX6_rest 7 = .ok (.invokevirtual 113, 3) := by decide +kernel
theorem dX6_rest_10 : decode cX6_rest 10 = .ok (.ifCond .eq 7, 3) := by decide +kernel
theorem dX6_rest_13 : decode cX6_rest 13 = .ok (.ldc2_w 197, 3) := by decide +kernel
theorem dX6_rest_16 : decode cX6_rest 16 = .ok (.lreturn, 1) := by decide +kernel
theorem dX6_rest_17 : decode cX6_rest 17 = .ok (.iload_n 2, 1) := by decide +kernel
theorem dX6_rest_18 : decode cX6_rest 18 = .ok (.i2l, 1) := by decide +kernel
theorem dX6_rest_19 : decode cX6_rest 19 = .ok (.lconst 0, 1) := by decide +kernel
theorem dX6_rest_20 : decode cX6_rest 20 = .ok (.ldc2_w 166, 3) := by decide +kernel
theorem dX6_rest_23 : decode cX6_rest 23 = .ok (.invokestatic 70, 3) := by decide +kernel
theorem dX6_rest_26 : decode cX6_rest 26 = .ok (.ifCond .ne 7, 3) := by decide +kernel
theorem dX6_rest_29 : decode cX6_rest 29 = .ok (.ldc2_w 199, 3) := by decide +kernel
theorem dX6_rest_32 : decode cX6_rest 32 = .ok (.lreturn, 1) := by decide +kernel
theorem dX6_rest_33 : decode cX6_rest 33 = .ok (.aload_n 0, 1) := by decide +kernel
theorem dX6_rest_34 : decode cX6_rest 34 = .ok (.aload_n 0, 1) := by decide +kernel
theorem dX6_rest_35 : decode cX6_rest 35 = .ok (.getfield 20, 3) := by decide +kernel
theorem dX6_rest_38 : decode cX6_rest 38 = .ok (.aload_n 0, 1) := by decide +kernel
theorem dX6_rest_39 : decode cX6_rest 39 = .ok (.getfield 20, 3) := by decide +kernel
theorem dX6_rest_42 : decode cX6_rest 42 = .ok (.invokestatic 150, 3) := by decide +kernel
theorem dX6_rest_45 : decode cX6_rest 45 = .ok (.invokevirtual 154, 3) := by decide +kernel
theorem dX6_rest_48 : decode cX6_rest 48 = .ok (.istore 4, 2) := by decide +kernel
theorem dX6_rest_50 : decode cX6_rest 50 = .ok (.aload_n 0, 1) := by decide +kernel
theorem dX6_rest_51 : decode cX6_rest 51 = .ok (.aload_n 0, 1) := by decide +kernel
theorem dX6_rest_52 : decode cX6_rest 52 = .ok (.getfield 20, 3) := by decide +kernel
theorem dX6_rest_55 : decode cX6_rest 55 = .ok (.iload_n 1, 1) := by decide +kernel
theorem dX6_rest_56 : decode cX6_rest 56 = .ok (.iload 4, 2) := by decide +kernel
theorem dX6_rest_58 : decode cX6_rest 58 = .ok (.invokevirtual 162, 3) := by decide +kernel
theorem dX6_rest_61 : decode cX6_rest 61 = .ok (.ifCond .ne 7, 3) := by decide +kernel
theorem dX6_rest_64 : decode cX6_rest 64 = .ok (.ldc2_w 201, 3) := by decide +kernel
theorem dX6_rest_67 : decode cX6_rest 67 = .ok (.lreturn, 1) := by decide +kernel
theorem dX6_rest_68 : decode cX6_rest 68 = .ok (.aload_n 0, 1) := by decide +kernel
theorem dX6_rest_69 : decode cX6_rest 69 = .ok (.aload_n 0, 1) := by decide +kernel
theorem dX6_rest_70 : decode cX6_rest 70 = .ok (.getfield 20, 3) := by decide +kernel
theorem dX6_rest_73 : decode cX6_rest 73 = .ok (.aload_n 0, 1) := by decide +kernel
theorem dX6_rest_74 : decode cX6_rest 74 = .ok (.getfield 20, 3) := by decide +kernel
theorem dX6_rest_77 : decode cX6_rest 77 = .ok (.invokestatic 150, 3) := by decide +kernel
theorem dX6_rest_80 : decode cX6_rest 80 = .ok (.iload 4, 2) := by decide +kernel
theorem dX6_rest_82 : decode cX6_rest 82 = .ok (.iload_n 2, 1) := by decide +kernel
theorem dX6_rest_83 : decode cX6_rest 83 = .ok (.invokevirtual 203, 3) := by decide +kernel
theorem dX6_rest_86 : decode cX6_rest 86 = .ok (.aload_n 0, 1) := by decide +kernel
theorem dX6_rest_87 : decode cX6_rest 87 = .ok (.bipush (-9), 2) := by decide +kernel
theorem dX6_rest_89 : decode cX6_rest 89 = .ok (.invokevirtual 193, 3) := by decide +kernel
theorem dX6_rest_92 : decode cX6_rest 92 = .ok (.lstore 5, 2) := by decide +kernel
theorem dX6_rest_94 : decode cX6_rest 94 = .ok (.aload_n 0, 1) := by decide +kernel
theorem dX6_rest_95 : decode cX6_rest 95 = .ok (.lload 5, 2) := by decide +kernel
theorem dX6_rest_97 : decode cX6_rest 97 = .ok (.aload_n 0, 1) := by decide +kernel
theorem dX6_rest_98 : decode cX6_rest 98 = .ok (.aload_n 0, 1) := by decide +kernel
theorem dX6_rest_99 : decode cX6_rest 99 = .ok (.getfield 20, 3) := by decide +kernel
theorem dX6_rest_102 : decode cX6_rest 102 = .ok (.iload_n 1, 1) := by decide +kernel
theorem dX6_rest_103 : decode cX6_rest 103 = .ok (.iload_n 2, 1) := by decide +kernel
theorem dX6_rest_104 : decode cX6_rest 104 = .ok (.invokevirtual 119, 3) := by decide +kernel
theorem dX6_rest_107 : decode cX6_rest 107 = .ok (.i2l, 1) := by decide +kernel
theorem dX6_rest_108 : decode cX6_rest 108 = .ok (.lmul, 1) := by decide +kernel
theorem dX6_rest_109 : decode cX6_rest 109 = .ok (.aload_n 0, 1) := by decide +kernel
theorem dX6_rest_110 : decode cX6_rest 110 = .ok (.aload_n 0, 1) := by decide +kernel
theorem dX6_rest_111 : decode cX6_rest 111 = .ok (.getfield 20, 3) := by decide +kernel
theorem dX6_rest_114 : decode cX6_rest 114 = .ok (.iload_n 1, 1) := by decide +kernel
theorem dX6_rest_115 : decode cX6_rest 115 = .ok (.iconst 5, 1) := by decide +kernel
theorem dX6_rest_116 : decode cX6_rest 116 = .ok (.invokestatic 103, 3) := by decide +kernel
theorem dX6_rest_119 : decode cX6_rest 119 = .ok (.invokevirtual 207, 3) := by decide +kernel
theorem dX6_rest_122 : decode cX6_rest 122 = .ok (.lsub, 1) := by decide +kernel
theorem dX6_rest_123 : decode cX6_rest 123 = .ok (.aload_n 0, 1) := by decide +kernel
theorem dX6_rest_124 : decode cX6_rest 124 = .ok (.aload_n 0, 1) := by decide +kernel
theorem dX6_rest_125 : decode cX6_rest 125 = .ok (.getfield 20, 3) := by decide +kernel
theorem dX6_rest_128 : decode cX6_rest 128 = .ok (.iload_n 1, 1) := by decide +kernel
theorem dX6_rest_129 : decode cX6_rest 129 = .ok (.iconst 4, 1) := by decide +kernel
theorem dX6_rest_130 : decode cX6_rest 130 = .ok (.invokestatic 103, 3) := by decide +kernel
theorem dX6_rest_133 : decode cX6_rest 133 = .ok (.invokevirtual 207, 3) := by decide +kernel
theorem dX6_rest_136 : decode cX6_rest 136 = .ok (.ladd, 1) := by decide +kernel
theorem dX6_rest_137 : decode cX6_rest 137 = .ok (.lload 5, 2) := by decide +kernel
theorem dX6_rest_139 : decode cX6_rest 139 = .ok (.invokevirtual 210, 3) := by decide +kernel
theorem dX6_rest_142 : decode cX6_rest 142 = .ok (.aload_n 0, 1) := by decide +kernel
theorem dX6_rest_143 : decode cX6_rest 143 = .ok (.iload_n 3, 1) := by decide +kernel
theorem dX6_rest_144 : decode cX6_rest 144 = .ok (.invokevirtual 214, 3) := by decide +kernel
theorem dX6_rest_147 : decode cX6_rest 147 = .ok (.lreturn, 1) := by decide +kernel
set_option maxRecDepth 20000 in
theorem ggX6_laySquares_X6_layGram : GoodIn wsX6_laySquares wsX6_layGram := goodIn_r _ [7, 8, 2, 9, 10, 11, 12, 6, 13, 1, 14, 15, 16, 17, 18, 19, 20, 21, 22, 23, 24, 25, 26, 27, 28, 29, 30, 31, 32, 33, 34, 49, 50, 51, 52, 53, 54, 55, 56, 57, 58, 59, 60, 61, 62, 63, 64, 65, 66, 67, 68, 69, 70, 71, 72, 73, 74, 75, 76] (by decide +kernel) (by decide +kernel)
set_option maxRecDepth 20000 in
theorem gX6_laySquares_X6_layGram : GoodIn wsX6_laySquares (wsV RX6 203 RX6 yX6_layGram wsX6_layGram) := goodIn_app (goodIn_of _ (by decide +kernel)) ggX6_laySquares_X6_layGram
set_option maxRecDepth 20000 in
theorem ggX6_laySquares_X6_determinant : GoodIn wsX6_laySquares wsX6_determinant := goodIn_r _ [38, 1, 39, 2, 8, 49, 50, 51, 52, 53, 54, 55, 56, 57, 58, 59, 60, 61, 62, 63, 64, 65, 66, 67, 68, 69, 70, 71, 72, 73, 74, 75, 76] (by decide +kernel) (by decide +kernel)
set_option maxRecDepth 20000 in
theorem gX6_laySquares_X6_determinant : GoodIn wsX6_laySquares (wsV RX6 193 RX6 yX6_determinant wsX6_determinant) := goodIn_app (goodIn_of _ (by decide +kernel)) ggX6_laySquares_X6_determinant
set_option maxRecDepth 20000 in
theorem ggX6_laySquares_X6_stepOf : GoodIn wsX6_laySquares wsX6_stepOf := goodIn_r _ [27, 28, 21, 22, 6, 23, 29, 30, 31, 32, 33, 34, 49, 50, 51, 52, 53, 54, 55, 56, 57, 58, 59, 60, 61, 62, 63, 64, 65, 66, 67, 68, 69, 70, 71, 72, 73, 74, 75, 76] (by decide +kernel) (by decide +kernel)
set_option maxRecDepth 20000 in
theorem gX6_laySquares_X6_stepOf : GoodIn wsX6_laySquares (wsV RX6 119 RX6 yX6_stepOf wsX6_stepOf) := goodIn_app (goodIn_of _ (by decide +kernel)) ggX6_laySquares_X6_stepOf
set_option maxRecDepth 20000 in
theorem ggX6_laySquares_X6_has : GoodIn wsX6_laySquares wsX6_has := goodIn_r _ [16] (by decide +kernel) (by decide +kernel)
set_option maxRecDepth 20000 in
theorem gX6_laySquares_X6_has : GoodIn wsX6_laySquares (va_wsS RX6 144 yX6_has wsX6_has) := goodIn_app (goodIn_of _ (by decide +kernel)) ggX6_laySquares_X6_has
set_option maxRecDepth 20000 in
theorem ggX6_laySquares_X6_isTiedLeg : GoodIn wsX6_laySquares wsX6_isTiedLeg := goodIn_r _ [20, 21, 22, 6, 23, 14, 15, 16] (by decide +kernel) (by decide +kernel)
set_option maxRecDepth 20000 in
theorem gX6_laySquares_X6_isTiedLeg : GoodIn wsX6_laySquares (wsV RX6 162 RX6 yX6_isTiedLeg wsX6_isTiedLeg) := goodIn_app (goodIn_of _ (by decide +kernel)) ggX6_laySquares_X6_isTiedLeg
set_option maxRecDepth 20000 in
theorem ggX6_laySquares_X6_layFraction : GoodIn wsX6_laySquares wsX6_layFraction := goodIn_r _ [43, 44, 45, 46, 47, 6, 48, 49, 50, 51, 52, 53, 54, 55, 56, 57, 58, 59, 60, 61, 62, 63, 64, 65, 66, 67, 68, 69, 70, 71, 72, 73, 74, 75, 76] (by decide +kernel) (by decide +kernel)
set_option maxRecDepth 20000 in
theorem gX6_laySquares_X6_layFraction : GoodIn wsX6_laySquares (wsV RX6 210 RX6 yX6_layFraction wsX6_layFraction) := goodIn_app (goodIn_of _ (by decide +kernel)) ggX6_laySquares_X6_layFraction
theorem dX6_laySquares_0 : decode cX6_laySquares 0 = .ok (.lconst 0, 1) := by decide +kernel
theorem dX6_laySquares_1 : decode cX6_laySquares 1 = .ok (.lstore 4, 2) := by decide +kernel
theorem dX6_laySquares_3 : decode cX6_laySquares 3 = .ok (.lconst 1, 1) := by decide +kernel
theorem dX6_laySquares_4 : decode cX6_laySquares 4 = .ok (.lstore 6, 2) := by decide +kernel
theorem dX6_laySquares_6 : decode cX6_laySquares 6 = .ok (.iconst 0, 1) := by decide +kernel
theorem dX6_laySquares_7 : decode cX6_laySquares 7 = .ok (.istore 8, 2) := by decide +kernel
theorem dX6_laySquares_9 : decode cX6_laySquares 9 = .ok (.iload 8, 2) := by decide +kernel
theorem dX6_laySquares_11 : decode cX6_laySquares 11 = .ok (.iconst 3, 1) := by decide +kernel
theorem dX6_laySquares_12 : decode cX6_laySquares 12 = .ok (.if_icmp .ge 129, 3) := by decide +kernel
theorem dX6_laySquares_15 : decode cX6_laySquares 15 = .ok (.aload_n 0, 1) := by decide +kernel
theorem dX6_laySquares_16 : decode cX6_laySquares 16 = .ok (.aload_n 1, 1) := by decide +kernel
theorem dX6_laySquares_17 : decode cX6_laySquares 17 = .ok (.iload_n 2, 1) := by decide +kernel
theorem dX6_laySquares_18 : decode cX6_laySquares 18 = .ok (.iload_n 3, 1) := by decide +kernel
theorem dX6_laySquares_19 : decode cX6_laySquares 19 = .ok (.iload 8, 2) := by decide +kernel
theorem dX6_laySquares_21 : decode cX6_laySquares 21 = .ok (.invokevirtual 203, 3) := by decide +kernel
theorem dX6_laySquares_24 : decode cX6_laySquares 24 = .ok (.aload_n 0, 1) := by decide +kernel
theorem dX6_laySquares_25 : decode cX6_laySquares 25 = .ok (.bipush (-9), 2) := by decide +kernel
theorem dX6_laySquares_27 : decode cX6_laySquares 27 = .ok (.invokevirtual 193, 3) := by decide +kernel
theorem dX6_laySquares_30 : decode cX6_laySquares 30 = .ok (.lstore 6, 2) := by decide +kernel
theorem dX6_laySquares_32 : decode cX6_laySquares 32 = .ok (.iconst 0, 1) := by decide +kernel
theorem dX6_laySquares_33 : decode cX6_laySquares 33 = .ok (.istore 9, 2) := by decide +kernel
theorem dX6_laySquares_35 : decode cX6_laySquares 35 = .ok (.iload 9, 2) := by decide +kernel
theorem dX6_laySquares_37 : decode cX6_laySquares 37 = .ok (.aload_n 1, 1) := by decide +kernel
theorem dX6_laySquares_38 : decode cX6_laySquares 38 = .ok (.iconst 0, 1) := by decide +kernel
theorem dX6_laySquares_39 : decode cX6_laySquares 39 = .ok (.iaload, 1) := by decide +kernel
theorem dX6_laySquares_40 : decode cX6_laySquares 40 = .ok (.if_icmp .ge 58, 3) := by decide +kernel
theorem dX6_laySquares_43 : decode cX6_laySquares 43 = .ok (.aload_n 0, 1) := by decide +kernel
theorem dX6_laySquares_44 : decode cX6_laySquares 44 = .ok (.aload_n 1, 1) := by decide +kernel
theorem dX6_laySquares_45 : decode cX6_laySquares 45 = .ok (.iload 9, 2) := by decide +kernel
theorem dX6_laySquares_47 : decode cX6_laySquares 47 = .ok (.iload 8, 2) := by decide +kernel
theorem dX6_laySquares_49 : decode cX6_laySquares 49 = .ok (.invokevirtual 119, 3) := by decide +kernel
theorem dX6_laySquares_52 : decode cX6_laySquares 52 = .ok (.i2l, 1) := by decide +kernel
theorem dX6_laySquares_53 : decode cX6_laySquares 53 = .ok (.lstore 10, 2) := by decide +kernel
theorem dX6_laySquares_55 : decode cX6_laySquares 55 = .ok (.lload 4, 2) := by decide +kernel
theorem dX6_laySquares_57 : decode cX6_laySquares 57 = .ok (.iload_n 2, 1) := by decide +kernel
theorem dX6_laySquares_58 : decode cX6_laySquares 58 = .ok (.iload 9, 2) := by decide +kernel
theorem dX6_laySquares_60 : decode cX6_laySquares 60 = .ok (.invokestatic 144, 3) := by decide +kernel
theorem dX6_laySquares_63 : decode cX6_laySquares 63 = .ok (.ifCond .eq 25, 3) := by decide +kernel
theorem dX6_laySquares_66 : decode cX6_laySquares 66 = .ok (.aload_n 0, 1) := by decide +kernel
theorem dX6_laySquares_67 : decode cX6_laySquares 67 = .ok (.aload_n 1, 1) := by decide +kernel
theorem dX6_laySquares_68 : decode cX6_laySquares 68 = .ok (.iload 9, 2) := by decide +kernel
theorem dX6_laySquares_70 : decode cX6_laySquares 70 = .ok (.iload_n 3, 1) := by decide +kernel
theorem dX6_laySquares_71 : decode cX6_laySquares 71 = .ok (.invokevirtual 162, 3) := by decide +kernel
theorem dX6_laySquares_74 : decode cX6_laySquares 74 = .ok (.ifCond .eq 14, 3) := by decide +kernel
theorem dX6_laySquares_77 : decode cX6_laySquares 77 = .ok (.lload 6, 2) := by decide +kernel
theorem dX6_laySquares_79 : decode cX6_laySquares 79 = .ok (.lload 10, 2) := by decide +kernel
theorem dX6_laySquares_81 : decode cX6_laySquares 81 = .ok (.lmul, 1) := by decide +kernel
theorem dX6_laySquares_82 : decode cX6_laySquares 82 = .ok (.lload 10, 2) := by decide +kernel
theorem dX6_laySquares_84 : decode cX6_laySquares 84 = .ok (.lmul, 1) := by decide +kernel
theorem dX6_laySquares_85 : decode cX6_laySquares 85 = .ok (.goto 4, 3) := by decide +kernel
theorem dX6_laySquares_88 : decode cX6_laySquares 88 = .ok (.lconst 0, 1) := by decide +kernel
theorem dX6_laySquares_89 : decode cX6_laySquares 89 = .ok (.ladd, 1) := by decide +kernel
theorem dX6_laySquares_90 : decode cX6_laySquares 90 = .ok (.lstore 4, 2) := by decide +kernel
theorem dX6_laySquares_92 : decode cX6_laySquares 92 = .ok (.iinc 9 1, 3) := by decide +kernel
theorem dX6_laySquares_95 : decode cX6_laySquares 95 = .ok (.goto (-60), 3) := by decide +kernel
theorem dX6_laySquares_98 : decode cX6_laySquares 98 = .ok (.iconst 0, 1) := by decide +kernel
theorem dX6_laySquares_99 : decode cX6_laySquares 99 = .ok (.istore 9, 2) := by decide +kernel
theorem dX6_laySquares_101 : decode cX6_laySquares 101 = .ok (.iload 9, 2) := by decide +kernel
theorem dX6_laySquares_103 : decode cX6_laySquares 103 = .ok (.aload_n 0, 1) := by decide +kernel
theorem dX6_laySquares_104 : decode cX6_laySquares 104 = .ok (.getfield 175, 3) := by decide +kernel
theorem dX6_laySquares_107 : decode cX6_laySquares 107 = .ok (.if_icmp .ge 28, 3) := by decide +kernel
theorem dX6_laySquares_110 : decode cX6_laySquares 110 = .ok (.lload 4, 2) := by decide +kernel
theorem dX6_laySquares_112 : decode cX6_laySquares 112 = .ok (.aload_n 0, 1) := by decide +kernel
theorem dX6_laySquares_113 : decode cX6_laySquares 113 = .ok (.getfield 61, 3) := by decide +kernel
theorem dX6_laySquares_116 : decode cX6_laySquares 116 = .ok (.iload 9, 2) := by decide +kernel
theorem dX6_laySquares_118 : decode cX6_laySquares 118 = .ok (.laload, 1) := by decide +kernel
theorem dX6_laySquares_119 : decode cX6_laySquares 119 = .ok (.aload_n 0, 1) := by decide +kernel
theorem dX6_laySquares_120 : decode cX6_laySquares 120 = .ok (.iload 9, 2) := by decide +kernel
theorem dX6_laySquares_122 : decode cX6_laySquares 122 = .ok (.invokevirtual 193, 3) := by decide +kernel
theorem dX6_laySquares_125 : decode cX6_laySquares 125 = .ok (.lmul, 1) := by decide +kernel
theorem dX6_laySquares_126 : decode cX6_laySquares 126 = .ok (.lsub, 1) := by decide +kernel
theorem dX6_laySquares_127 : decode cX6_laySquares 127 = .ok (.lstore 4, 2) := by decide +kernel
theorem dX6_laySquares_129 : decode cX6_laySquares 129 = .ok (.iinc 9 1, 3) := by decide +kernel
theorem dX6_laySquares_132 : decode cX6_laySquares 132 = .ok (.goto (-31), 3) := by decide +kernel
theorem dX6_laySquares_135 : decode cX6_laySquares 135 = .ok (.iinc 8 1, 3) := by decide +kernel
theorem dX6_laySquares_138 : decode cX6_laySquares 138 = .ok (.goto (-129), 3) := by decide +kernel
theorem dX6_laySquares_141 : decode cX6_laySquares 141 = .ok (.aload_n 0, 1) := by decide +kernel
theorem dX6_laySquares_142 : decode cX6_laySquares 142 = .ok (.lload 4, 2) := by decide +kernel
theorem dX6_laySquares_144 : decode cX6_laySquares 144 = .ok (.lload 6, 2) := by decide +kernel
theorem dX6_laySquares_146 : decode cX6_laySquares 146 = .ok (.invokevirtual 210, 3) := by decide +kernel
theorem dX6_laySquares_149 : decode cX6_laySquares 149 = .ok (.return_, 1) := by decide +kernel
set_option maxRecDepth 20000 in
theorem ggX6_squares_X6_all : GoodIn wsX6_squares wsX6_all := goodIn_r _ [6] (by decide +kernel) (by decide +kernel)
set_option maxRecDepth 20000 in
theorem gX6_squares_X6_all : GoodIn wsX6_squares (va_wsS RX6 150 yX6_all wsX6_all) := goodIn_app (goodIn_of _ (by decide +kernel)) ggX6_squares_X6_all
set_option maxRecDepth 20000 in
theorem ggX6_squares_X6_tiedBy : GoodIn wsX6_squares wsX6_tiedBy := goodIn_r _ [10, 11, 12, 13, 5, 14, 15, 16, 17, 18, 19, 20] (by decide +kernel) (by decide +kernel)
set_option maxRecDepth 20000 in
theorem gX6_squares_X6_tiedBy : GoodIn wsX6_squares (wsV RX6 154 RX6 yX6_tiedBy wsX6_tiedBy) := goodIn_app (goodIn_of _ (by decide +kernel)) ggX6_squares_X6_tiedBy
set_option maxRecDepth 20000 in
theorem ggX6_squares_X6_laySquares : GoodIn wsX6_squares wsX6_laySquares := goodIn_r _ [24, 25, 26, 27, 28, 29, 5, 30, 31, 32, 33, 34, 35, 36, 15, 16, 17, 37, 38, 39, 40, 18, 19, 20, 41, 42, 43, 44, 45, 46, 47, 48, 49, 50, 51, 52, 53, 54, 55, 56, 57, 58, 59, 60, 61, 62, 63, 64, 65, 70, 71, 72, 73, 74, 75, 76, 77, 78, 79, 80, 81, 82, 83, 84, 85, 86, 87, 88, 89, 90, 91, 92, 93, 94, 95, 96, 97] (by decide +kernel) (by decide +kernel)
set_option maxRecDepth 20000 in
theorem gX6_squares_X6_laySquares : GoodIn wsX6_squares (wsV RX6 218 RX6 yX6_laySquares wsX6_laySquares) := goodIn_app (goodIn_of _ (by decide +kernel)) ggX6_squares_X6_laySquares
set_option maxRecDepth 20000 in
theorem ggX6_squares_X6_told : GoodIn wsX6_squares wsX6_told := goodIn_r _ [69, 61, 62, 70, 71, 72, 73, 74, 75, 76, 77, 78, 79, 80, 81, 82, 83, 84, 85, 86, 87, 88, 89, 90, 91, 92, 93, 94, 95, 96, 97] (by decide +kernel) (by decide +kernel)
set_option maxRecDepth 20000 in
theorem gX6_squares_X6_told : GoodIn wsX6_squares (wsV RX6 214 RX6 yX6_told wsX6_told) := goodIn_app (goodIn_of _ (by decide +kernel)) ggX6_squares_X6_told
theorem dX6_squares_0 : decode cX6_squares 0 = .ok (.aload_n 0, 1) := by decide +kernel
theorem dX6_squares_1 : decode cX6_squares 1 = .ok (.iconst 0, 1) := by decide +kernel
theorem dX6_squares_2 : decode cX6_squares 2 = .ok (.putfield 67, 3) := by decide +kernel
theorem dX6_squares_5 : decode cX6_squares 5 = .ok (.aload_n 0, 1) := by decide +kernel
theorem dX6_squares_6 : decode cX6_squares 6 = .ok (.aload_n 0, 1) := by decide +kernel
theorem dX6_squares_7 : decode cX6_squares 7 = .ok (.getfield 20, 3) := by decide +kernel
theorem dX6_squares_10 : decode cX6_squares 10 = .ok (.aload_n 0, 1) := by decide +kernel
theorem dX6_squares_11 : decode cX6_squares 11 = .ok (.getfield 20, 3) := by decide +kernel
theorem dX6_squares_14 : decode cX6_squares 14 = .ok (.invokestatic 150, 3) := by decide +kernel
theorem dX6_squares_17 : decode cX6_squares 17 = .ok (.aload_n 0, 1) := by decide +kernel
theorem dX6_squares_18 : decode cX6_squares 18 = .ok (.aload_n 0, 1) := by decide +kernel
theorem dX6_squares_19 : decode cX6_squares 19 = .ok (.getfield 20, 3) := by decide +kernel
theorem dX6_squares_22 : decode cX6_squares 22 = .ok (.aload_n 0, 1) := by decide +kernel
theorem dX6_squares_23 : decode cX6_squares 23 = .ok (.getfield 20, 3) := by decide +kernel
theorem dX6_squares_26 : decode cX6_squares 26 = .ok (.invokestatic 150, 3) := by decide +kernel
theorem dX6_squares_29 : decode cX6_squares 29 = .ok (.invokevirtual 154, 3) := by decide +kernel
theorem dX6_squares_32 : decode cX6_squares 32 = .ok (.invokevirtual 218, 3) := by decide +kernel
theorem dX6_squares_35 : decode cX6_squares 35 = .ok (.aload_n 0, 1) := by decide +kernel
theorem dX6_squares_36 : decode cX6_squares 36 = .ok (.iload_n 1, 1) := by decide +kernel
theorem dX6_squares_37 : decode cX6_squares 37 = .ok (.invokevirtual 214, 3) := by decide +kernel
theorem dX6_squares_40 : decode cX6_squares 40 = .ok (.lreturn, 1) := by decide +kernel
set_option maxRecDepth 20000 in
theorem ggX6_blunder_X6_all : GoodIn wsX6_blunder wsX6_all := goodIn_r _ [7] (by decide +kernel) (by decide +kernel)
set_option maxRecDepth 20000 in
theorem gX6_blunder_X6_all : GoodIn wsX6_blunder (va_wsS RX6 150 yX6_all wsX6_all) := goodIn_app (goodIn_of _ (by decide +kernel)) ggX6_blunder_X6_all
set_option maxRecDepth 20000 in
theorem ggX6_blunder_X6_tiedBy : GoodIn wsX6_blunder wsX6_tiedBy := goodIn_r _ [11, 12, 13, 14, 6, 15, 16, 17, 18, 19, 20, 21] (by decide +kernel) (by decide +kernel)
set_option maxRecDepth 20000 in
theorem gX6_blunder_X6_tiedBy : GoodIn wsX6_blunder (wsV RX6 154 RX6 yX6_tiedBy wsX6_tiedBy) := goodIn_app (goodIn_of _ (by decide +kernel)) ggX6_blunder_X6_tiedBy
set_option maxRecDepth 20000 in
theorem ggX6_blunder_X6_laySquares : GoodIn wsX6_blunder wsX6_laySquares := goodIn_r _ [25, 26, 27, 28, 29, 30, 6, 31, 32, 33, 34, 35, 36, 37, 16, 17, 18, 38, 39, 40, 41, 19, 20, 21, 42, 43, 44, 45, 46, 47, 48, 49, 50, 51, 52, 53, 54, 55, 56, 57, 58, 59, 60, 61, 2, 3, 62, 63, 64, 65, 66, 67, 68, 69, 70, 71, 72, 73, 74, 75, 76, 77, 78, 79, 80, 81, 82, 83, 84, 85, 86, 87, 88, 89, 90, 91, 92] (by decide +kernel) (by decide +kernel)
set_option maxRecDepth 20000 in
theorem gX6_blunder_X6_laySquares : GoodIn wsX6_blunder (wsV RX6 218 RX6 yX6_laySquares wsX6_laySquares) := goodIn_app (goodIn_of _ (by decide +kernel)) ggX6_blunder_X6_laySquares
theorem dX6_blunder_0 : decode cX6_blunder 0 = .ok (.aload_n 0, 1) := by decide +kernel
theorem dX6_blunder_1 : decode cX6_blunder 1 = .ok (.aload_n 0, 1) := by decide +kernel
theorem dX6_blunder_2 : decode cX6_blunder 2 = .ok (.getfield 20, 3) := by decide +kernel
theorem dX6_blunder_5 : decode cX6_blunder 5 = .ok (.aload_n 0, 1) := by decide +kernel
theorem dX6_blunder_6 : decode cX6_blunder 6 = .ok (.getfield 20, 3) := by decide +kernel
theorem dX6_blunder_9 : decode cX6_blunder 9 = .ok (.invokestatic 150, 3) := by decide +kernel
theorem dX6_blunder_12 : decode cX6_blunder 12 = .ok (.invokevirtual 154, 3) := by decide +kernel
theorem dX6_blunder_15 : decode cX6_blunder 15 = .ok (.istore_n 1, 1) := by decide +kernel
theorem dX6_blunder_16 : decode cX6_blunder 16 = .ok (.bipush (-9), 2) := by decide +kernel
theorem dX6_blunder_18 : decode cX6_blunder 18 = .ok (.istore_n 2, 1) := by decide +kernel
theorem dX6_blunder_19 : decode cX6_blunder 19 = .ok (.lconst 0, 1) := by decide +kernel
theorem dX6_blunder_20 : decode cX6_blunder 20 = .ok (.lstore_n 3, 1) := by decide +kernel
theorem dX6_blunder_21 : decode cX6_blunder 21 = .ok (.lconst 1, 1) := by decide +kernel
theorem dX6_blunder_22 : decode cX6_blunder 22 = .ok (.lstore 5, 2) := by decide +kernel
theorem dX6_blunder_24 : decode cX6_blunder 24 = .ok (.iconst 0, 1) := by decide +kernel
theorem dX6_blunder_25 : decode cX6_blunder 25 = .ok (.istore 7, 2) := by decide +kernel
theorem dX6_blunder_27 : decode cX6_blunder 27 = .ok (.iload 7, 2) := by decide +kernel
theorem dX6_blunder_29 : decode cX6_blunder 29 = .ok (.aload_n 0, 1) := by decide +kernel
theorem dX6_blunder_30 : decode cX6_blunder 30 = .ok (.getfield 20, 3) := by decide +kernel
theorem dX6_blunder_33 : decode cX6_blunder 33 = .ok (.iconst 0, 1) := by decide +kernel
theorem dX6_blunder_34 : decode cX6_blunder 34 = .ok (.iaload, 1) := by decide +kernel
theorem dX6_blunder_35 : decode cX6_blunder 35 = .ok (.if_icmp .ge 87, 3) := by decide +kernel
theorem dX6_blunder_38 : decode cX6_blunder 38 = .ok (.aload_n 0, 1) := by decide +kernel
theorem dX6_blunder_39 : decode cX6_blunder 39 = .ok (.getfield 20, 3) := by decide +kernel
theorem dX6_blunder_42 : decode cX6_blunder 42 = .ok (.invokestatic 150, 3) := by decide +kernel
theorem dX6_blunder_45 : decode cX6_blunder 45 = .ok (.iconst 1, 1) := by decide +kernel
theorem dX6_blunder_46 : decode cX6_blunder 46 = .ok (.iload 7, 2) := by decide +kernel
theorem dX6_blunder_48 : decode cX6_blunder 48 = .ok (.ishl, 1) := by decide +kernel
theorem dX6_blunder_49 : decode cX6_blunder 49 = .ok (.iconst (-1), 1) := by decide +kernel
theorem dX6_blunder_50 : decode cX6_blunder 50 = .ok (.ixor, 1) := by decide +kernel
theorem dX6_blunder_51 : decode cX6_blunder 51 = .ok (.iand, 1) := by decide +kernel
theorem dX6_blunder_52 : decode cX6_blunder 52 = .ok (.istore 8, 2) := by decide +kernel
theorem dX6_blunder_54 : decode cX6_blunder 54 = .ok (.aload_n 0, 1) := by decide +kernel
theorem dX6_blunder_55 : decode cX6_blunder 55 = .ok (.aload_n 0, 1) := by decide +kernel
theorem dX6_blunder_56 : decode cX6_blunder 56 = .ok (.getfield 20, 3) := by decide +kernel
theorem dX6_blunder_59 : decode cX6_blunder 59 = .ok (.iload 8, 2) := by decide +kernel
theorem dX6_blunder_61 : decode cX6_blunder 61 = .ok (.invokevirtual 154, 3) := by decide +kernel
theorem dX6_blunder_64 : decode cX6_blunder 64 = .ok (.iload_n 1, 1) := by decide +kernel
theorem dX6_blunder_65 : decode cX6_blunder 65 = .ok (.if_icmp .ne 51, 3) := by decide +kernel
theorem dX6_blunder_68 : decode cX6_blunder 68 = .ok (.aload_n 0, 1) := by decide +kernel
theorem dX6_blunder_69 : decode cX6_blunder 69 = .ok (.aload_n 0, 1) := by decide +kernel
theorem dX6_blunder_70 : decode cX6_blunder 70 = .ok (.getfield 20, 3) := by decide +kernel
theorem dX6_blunder_73 : decode cX6_blunder 73 = .ok (.iload 8, 2) := by decide +kernel
theorem dX6_blunder_75 : decode cX6_blunder 75 = .ok (.iload_n 1, 1) := by decide +kernel
theorem dX6_blunder_76 : decode cX6_blunder 76 = .ok (.invokevirtual 218, 3) := by decide +kernel
theorem dX6_blunder_79 : decode cX6_blunder 79 = .ok (.iload_n 2, 1) := by decide +kernel
theorem dX6_blunder_80 : decode cX6_blunder 80 = .ok (.bipush (-9), 2) := by decide +kernel
theorem dX6_blunder_82 : decode cX6_blunder 82 = .ok (.if_icmp .eq 20, 3) := by decide +kernel
theorem dX6_blunder_85 : decode cX6_blunder 85 = .ok (.aload_n 0, 1) := by decide +kernel
theorem dX6_blunder_86 : decode cX6_blunder 86 = .ok (.getfield 186, 3) := by decide +kernel
theorem dX6_blunder_89 : decode cX6_blunder 89 = .ok (.lload 5, 2) := by decide +kernel
theorem dX6_blunder_91 : decode cX6_blunder 91 = .ok (.lmul, 1) := by decide +kernel
theorem dX6_blunder_92 : decode cX6_blunder 92 = .ok (.lload_n 3, 1) := by decide +kernel
theorem dX6_blunder_93 : decode cX6_blunder 93 = .ok (.aload_n 0, 1) := by decide +kernel
theorem dX6_blunder_94 : decode cX6_blunder 94 = .ok (.getfield 190, 3) := by decide +kernel
theorem dX6_blunder_97 : decode cX6_blunder 97 = .ok (.lmul, 1) := by decide +kernel
theorem dX6_blunder_98 : decode cX6_blunder 98 = .ok (.lcmp, 1) := by decide +kernel
theorem dX6_blunder_99 : decode cX6_blunder 99 = .ok (.ifCond .ge 17, 3) := by decide +kernel
theorem dX6_blunder_102 : decode cX6_blunder 102 = .ok (.iload 7, 2) := by decide +kernel
theorem dX6_blunder_104 : decode cX6_blunder 104 = .ok (.istore_n 2, 1) := by decide +kernel
theorem dX6_blunder_105 : decode cX6_blunder 105 = .ok (.aload_n 0, 1) := by decide +kernel
theorem dX6_blunder_106 : decode cX6_blunder 106 = .ok (.getfield 186, 3) := by decide +kernel
theorem dX6_blunder_109 : decode cX6_blunder 109 = .ok (.lstore_n 3, 1) := by decide +kernel
theorem dX6_blunder_110 : decode cX6_blunder 110 = .ok (.aload_n 0, 1) := by decide +kernel
theorem dX6_blunder_111 : decode cX6_blunder 111 = .ok (.getfield 190, 3) := by decide +kernel
theorem dX6_blunder_114 : decode cX6_blunder 114 = .ok (.lstore 5, 2) := by decide +kernel
theorem dX6_blunder_116 : decode cX6_blunder 116 = .ok (.iinc 7 1, 3) := by decide +kernel
theorem dX6_blunder_119 : decode cX6_blunder 119 = .ok (.goto (-92), 3) := by decide +kernel
theorem dX6_blunder_122 : decode cX6_blunder 122 = .ok (.iload_n 2, 1) := by decide +kernel
theorem dX6_blunder_123 : decode cX6_blunder 123 = .ok (.ireturn, 1) := by decide +kernel
set_option maxRecDepth 20000 in
theorem ggX6_clearOnes_X6_all : GoodIn wsX6_clearOnes wsX6_all := goodIn_r _ [6] (by decide +kernel) (by decide +kernel)
set_option maxRecDepth 20000 in
theorem gX6_clearOnes_X6_all : GoodIn wsX6_clearOnes (va_wsS RX6 150 yX6_all wsX6_all) := goodIn_app (goodIn_of _ (by decide +kernel)) ggX6_clearOnes_X6_all
set_option maxRecDepth 20000 in
theorem ggX6_clearOnes_X6_tiedBy : GoodIn wsX6_clearOnes wsX6_tiedBy := goodIn_r _ [10, 11, 12, 13, 5, 14, 15, 16, 17, 18, 19, 20] (by decide +kernel) (by decide +kernel)
set_option maxRecDepth 20000 in
theorem gX6_clearOnes_X6_tiedBy : GoodIn wsX6_clearOnes (wsV RX6 154 RX6 yX6_tiedBy wsX6_tiedBy) := goodIn_app (goodIn_of _ (by decide +kernel)) ggX6_clearOnes_X6_tiedBy
set_option maxRecDepth 20000 in
theorem ggX6_clearOnes_X6_laySquares : GoodIn wsX6_clearOnes wsX6_laySquares := goodIn_r _ [24, 25, 26, 27, 28, 29, 5, 30, 31, 32, 33, 34, 35, 36, 15, 16, 17, 37, 38, 39, 40, 18, 19, 20, 41, 42, 43, 44, 45, 46, 47, 48, 49, 50, 51, 52, 53, 54, 55, 56, 57, 58, 59, 60, 2, 61, 62, 63, 64, 65, 66, 67, 68, 69, 70, 71, 72, 73, 74, 75, 76, 77, 78, 79, 80, 81, 82, 83, 84, 85, 86, 87, 88, 89, 90, 91, 92] (by decide +kernel) (by decide +kernel)
set_option maxRecDepth 20000 in
theorem gX6_clearOnes_X6_laySquares : GoodIn wsX6_clearOnes (wsV RX6 218 RX6 yX6_laySquares wsX6_laySquares) := goodIn_app (goodIn_of _ (by decide +kernel)) ggX6_clearOnes_X6_laySquares
theorem dX6_clearOnes_0 : decode cX6_clearOnes 0 = .ok (.aload_n 0, 1) := by decide +kernel
theorem dX6_clearOnes_1 : decode cX6_clearOnes 1 = .ok (.aload_n 0, 1) := by decide +kernel
theorem dX6_clearOnes_2 : decode cX6_clearOnes 2 = .ok (.getfield 20, 3) := by decide +kernel
theorem dX6_clearOnes_5 : decode cX6_clearOnes 5 = .ok (.aload_n 0, 1) := by decide +kernel
theorem dX6_clearOnes_6 : decode cX6_clearOnes 6 = .ok (.getfield 20, 3) := by decide +kernel
theorem dX6_clearOnes_9 : decode cX6_clearOnes 9 = .ok (.invokestatic 150, 3) := by decide +kernel
theorem dX6_clearOnes_12 : decode cX6_clearOnes 12 = .ok (.invokevirtual 154, 3) := by decide +kernel
theorem dX6_clearOnes_15 : decode cX6_clearOnes 15 = .ok (.istore_n 1, 1) := by decide +kernel
theorem dX6_clearOnes_16 : decode cX6_clearOnes 16 = .ok (.iconst 0, 1) := by decide +kernel
theorem dX6_clearOnes_17 : decode cX6_clearOnes 17 = .ok (.istore_n 2, 1) := by decide +kernel
theorem dX6_clearOnes_18 : decode cX6_clearOnes 18 = .ok (.iconst 0, 1) := by decide +kernel
theorem dX6_clearOnes_19 : decode cX6_clearOnes 19 = .ok (.istore_n 3, 1) := by decide +kernel
theorem dX6_clearOnes_20 : decode cX6_clearOnes 20 = .ok (.iload_n 3, 1) := by decide +kernel
theorem dX6_clearOnes_21 : decode cX6_clearOnes 21 = .ok (.aload_n 0, 1) := by decide +kernel
theorem dX6_clearOnes_22 : decode cX6_clearOnes 22 = .ok (.getfield 20, 3) := by decide +kernel
theorem dX6_clearOnes_25 : decode cX6_clearOnes 25 = .ok (.iconst 0, 1) := by decide +kernel
theorem dX6_clearOnes_26 : decode cX6_clearOnes 26 = .ok (.iaload, 1) := by decide +kernel
theorem dX6_clearOnes_27 : decode cX6_clearOnes 27 = .ok (.if_icmp .ge 68, 3) := by decide +kernel
theorem dX6_clearOnes_30 : decode cX6_clearOnes 30 = .ok (.aload_n 0, 1) := by decide +kernel
theorem dX6_clearOnes_31 : decode cX6_clearOnes 31 = .ok (.getfield 20, 3) := by decide +kernel
theorem dX6_clearOnes_34 : decode cX6_clearOnes 34 = .ok (.invokestatic 150, 3) := by decide +kernel
theorem dX6_clearOnes_37 : decode cX6_clearOnes 37 = .ok (.iconst 1, 1) := by decide +kernel
theorem dX6_clearOnes_38 : decode cX6_clearOnes 38 = .ok (.iload_n 3, 1) := by decide +kernel
theorem dX6_clearOnes_39 : decode cX6_clearOnes 39 = .ok (.ishl, 1) := by decide +kernel
theorem dX6_clearOnes_40 : decode cX6_clearOnes 40 = .ok (.iconst (-1), 1) := by decide +kernel
theorem dX6_clearOnes_41 : decode cX6_clearOnes 41 = .ok (.ixor, 1) := by decide +kernel
theorem dX6_clearOnes_42 : decode cX6_clearOnes 42 = .ok (.iand, 1) := by decide +kernel
theorem dX6_clearOnes_43 : decode cX6_clearOnes 43 = .ok (.istore 4, 2) := by decide +kernel
theorem dX6_clearOnes_45 : decode cX6_clearOnes 45 = .ok (.aload_n 0, 1) := by decide +kernel
theorem dX6_clearOnes_46 : decode cX6_clearOnes 46 = .ok (.aload_n 0, 1) := by decide +kernel
theorem dX6_clearOnes_47 : decode cX6_clearOnes 47 = .ok (.getfield 20, 3) := by decide +kernel
theorem dX6_clearOnes_50 : decode cX6_clearOnes 50 = .ok (.iload 4, 2) := by decide +kernel
theorem dX6_clearOnes_52 : decode cX6_clearOnes 52 = .ok (.invokevirtual 154, 3) := by decide +kernel
theorem dX6_clearOnes_55 : decode cX6_clearOnes 55 = .ok (.iload_n 1, 1) := by decide +kernel
theorem dX6_clearOnes_56 : decode cX6_clearOnes 56 = .ok (.if_icmp .ne 33, 3) := by decide +kernel
theorem dX6_clearOnes_59 : decode cX6_clearOnes 59 = .ok (.aload_n 0, 1) := by decide +kernel
theorem dX6_clearOnes_60 : decode cX6_clearOnes 60 = .ok (.aload_n 0, 1) := by decide +kernel
theorem dX6_clearOnes_61 : decode cX6_clearOnes 61 = .ok (.getfield 20, 3) := by decide +kernel
theorem dX6_clearOnes_64 : decode cX6_clearOnes 64 = .ok (.iload 4, 2) := by decide +kernel
theorem dX6_clearOnes_66 : decode cX6_clearOnes 66 = .ok (.iload_n 1, 1) := by decide +kernel
theorem dX6_clearOnes_67 : decode cX6_clearOnes 67 = .ok (.invokevirtual 218, 3) := by decide +kernel
theorem dX6_clearOnes_70 : decode cX6_clearOnes 70 = .ok (.iload_n 2, 1) := by decide +kernel
theorem dX6_clearOnes_71 : decode cX6_clearOnes 71 = .ok (.aload_n 0, 1) := by decide +kernel
theorem dX6_clearOnes_72 : decode cX6_clearOnes 72 = .ok (.getfield 186, 3) := by decide +kernel
theorem dX6_clearOnes_75 : decode cX6_clearOnes 75 = .ok (.lconst 0, 1) := by decide +kernel
theorem dX6_clearOnes_76 : decode cX6_clearOnes 76 = .ok (.lcmp, 1) := by decide +kernel
theorem dX6_clearOnes_77 : decode cX6_clearOnes 77 = .ok (.ifCond .ne 9, 3) := by decide +kernel
theorem dX6_clearOnes_80 : decode cX6_clearOnes 80 = .ok (.iconst 1, 1) := by decide +kernel
theorem dX6_clearOnes_81 : decode cX6_clearOnes 81 = .ok (.iload_n 3, 1) := by decide +kernel
theorem dX6_clearOnes_82 : decode cX6_clearOnes 82 = .ok (.ishl, 1) := by decide +kernel
theorem dX6_clearOnes_83 : decode cX6_clearOnes 83 = .ok (.goto 4, 3) := by decide +kernel
theorem dX6_clearOnes_86 : decode cX6_clearOnes 86 = .ok (.iconst 0, 1) := by decide +kernel
theorem dX6_clearOnes_87 : decode cX6_clearOnes 87 = .ok (.ior, 1) := by decide +kernel
theorem dX6_clearOnes_88 : decode cX6_clearOnes 88 = .ok (.istore_n 2, 1) := by decide +kernel
theorem dX6_clearOnes_89 : decode cX6_clearOnes 89 = .ok (.iinc 3 1, 3) := by decide +kernel
theorem dX6_clearOnes_92 : decode cX6_clearOnes 92 = .ok (.goto (-72), 3) := by decide +kernel
theorem dX6_clearOnes_95 : decode cX6_clearOnes 95 = .ok (.iload_n 2, 1) := by decide +kernel
theorem dX6_clearOnes_96 : decode cX6_clearOnes 96 = .ok (.ireturn, 1) := by decide +kernel
set_option maxRecDepth 20000 in
theorem ggX6_ask_X6_all : GoodIn wsX6_ask wsX6_all := goodIn_r _ [6] (by decide +kernel) (by decide +kernel)
set_option maxRecDepth 20000 in
theorem gX6_ask_X6_all : GoodIn wsX6_ask (va_wsS RX6 150 yX6_all wsX6_all) := goodIn_app (goodIn_of _ (by decide +kernel)) ggX6_ask_X6_all
set_option maxRecDepth 20000 in
theorem ggX6_ask_X6_tiedBy : GoodIn wsX6_ask wsX6_tiedBy := goodIn_r _ [10, 11, 12, 13, 5, 14, 15, 16, 17, 18, 19, 20] (by decide +kernel) (by decide +kernel)
set_option maxRecDepth 20000 in
theorem gX6_ask_X6_tiedBy : GoodIn wsX6_ask (wsV RX6 154 RX6 yX6_tiedBy wsX6_tiedBy) := goodIn_app (goodIn_of _ (by decide +kernel)) ggX6_ask_X6_tiedBy
set_option maxRecDepth 20000 in
theorem ggX6_ask_X6_loops : GoodIn wsX6_ask wsX6_loops := goodIn_r _ [24, 3, 4, 5, 6, 7, 8, 9, 10, 11, 12, 13, 14, 15, 16, 17, 18, 19, 20, 25, 26, 27, 28, 29, 30, 31] (by decide +kernel) (by decide +kernel)
set_option maxRecDepth 20000 in
theorem gX6_ask_X6_loops : GoodIn wsX6_ask (wsV RX6 222 RX6 yX6_loops wsX6_loops) := goodIn_app (goodIn_of _ (by decide +kernel)) ggX6_ask_X6_loops
set_option maxRecDepth 20000 in
theorem ggX6_ask_X6_blunder : GoodIn wsX6_ask wsX6_blunder := goodIn_r _ [35, 2, 36, 37, 3, 4, 5, 6, 7, 8, 9, 10, 11, 12, 13, 14, 15, 16, 17, 18, 19, 20, 38, 39, 40, 41, 42, 43, 44, 45, 46, 47, 48, 49, 50, 51, 52, 53, 28, 29, 30, 31, 54, 55, 56, 57, 58, 59, 60, 61, 62, 63, 64, 65, 66, 67, 68, 69, 70, 71, 72, 73, 74, 75, 76, 81, 82, 83, 84, 85, 86, 87, 88, 89, 90, 91, 92, 93, 94, 95, 96, 97, 98, 99, 100, 101, 102, 103, 104, 105, 106, 107, 108] (by decide +kernel) (by decide +kernel)
set_option maxRecDepth 20000 in
theorem gX6_ask_X6_blunder : GoodIn wsX6_ask (wsV RX6 225 RX6 yX6_blunder wsX6_blunder) := goodIn_app (goodIn_of _ (by decide +kernel)) ggX6_ask_X6_blunder
set_option maxRecDepth 20000 in
theorem ggX6_ask_X6_clearOnes : GoodIn wsX6_ask wsX6_clearOnes := goodIn_r _ [80, 2, 36, 3, 4, 5, 6, 7, 8, 9, 10, 11, 12, 13, 14, 15, 16, 17, 18, 19, 20, 38, 39, 40, 41, 42, 43, 44, 45, 46, 47, 48, 49, 50, 51, 52, 53, 28, 29, 30, 31, 54, 55, 56, 57, 58, 59, 60, 61, 62, 63, 64, 65, 66, 67, 68, 69, 70, 71, 72, 73, 37, 74, 75, 76, 81, 82, 83, 84, 85, 86, 87, 88, 89, 90, 91, 92, 93, 94, 95, 96, 97, 98, 99, 100, 101, 102, 103, 104, 105, 106, 107, 108] (by decide +kernel) (by decide +kernel)
set_option maxRecDepth 20000 in
theorem gX6_ask_X6_clearOnes : GoodIn wsX6_ask (wsV RX6 228 RX6 yX6_clearOnes wsX6_clearOnes) := goodIn_app (goodIn_of _ (by decide +kernel)) ggX6_ask_X6_clearOnes
theorem dX6_ask_0 : decode cX6_ask 0 = .ok (.aload_n 0, 1) := by decide +kernel
theorem dX6_ask_1 : decode cX6_ask 1 = .ok (.iconst 0, 1) := by decide +kernel
theorem dX6_ask_2 : decode cX6_ask 2 = .ok (.putfield 67, 3) := by decide +kernel
theorem dX6_ask_5 : decode cX6_ask 5 = .ok (.iload_n 1, 1) := by decide +kernel
theorem dX6_ask_6 : decode cX6_ask 6 = .ok (.tableswitch 65 0 3 #[30, 46, 55, 60], 30) := by decide +kernel
theorem dX6_ask_36 : decode cX6_ask 36 = .ok (.aload_n 0, 1) := by decide +kernel
theorem dX6_ask_37 : decode cX6_ask 37 = .ok (.aload_n 0, 1) := by decide +kernel
theorem dX6_ask_38 : decode cX6_ask 38 = .ok (.getfield 20, 3) := by decide +kernel
theorem dX6_ask_41 : decode cX6_ask 41 = .ok (.aload_n 0, 1) := by decide +kernel
theorem dX6_ask_42 : decode cX6_ask 42 = .ok (.getfield 20, 3) := by decide +kernel
theorem dX6_ask_45 : decode cX6_ask 45 = .ok (.invokestatic 150, 3) := by decide +kernel
theorem dX6_ask_48 : decode cX6_ask 48 = .ok (.invokevirtual 154, 3) := by decide +kernel
theorem dX6_ask_51 : decode cX6_ask 51 = .ok (.ireturn, 1) := by decide +kernel
theorem dX6_ask_52 : decode cX6_ask 52 = .ok (.aload_n 0, 1) := by decide +kernel
theorem dX6_ask_53 : decode cX6_ask 53 = .ok (.aload_n 0, 1) := by decide +kernel
theorem dX6_ask_54 : decode cX6_ask 54 = .ok (.getfield 20, 3) := by decide +kernel
theorem dX6_ask_57 : decode cX6_ask 57 = .ok (.invokevirtual 222, 3) := by decide +kernel
theorem dX6_ask_60 : decode cX6_ask 60 = .ok (.ireturn, 1) := by decide +kernel
theorem dX6_ask_61 : decode cX6_ask 61 = .ok (.aload_n 0, 1) := by decide +kernel
theorem dX6_ask_62 : decode cX6_ask 62 = .ok (.invokevirtual 225, 3) := by decide +kernel
theorem dX6_ask_65 : decode cX6_ask 65 = .ok (.ireturn, 1) := by decide +kernel
theorem dX6_ask_66 : decode cX6_ask 66 = .ok (.aload_n 0, 1) := by decide +kernel
theorem dX6_ask_67 : decode cX6_ask 67 = .ok (.invokevirtual 228, 3) := by decide +kernel
theorem dX6_ask_70 : decode cX6_ask 70 = .ok (.ireturn, 1) := by decide +kernel
theorem dX6_ask_71 : decode cX6_ask 71 = .ok (.bipush (-2), 2) := by decide +kernel
theorem dX6_ask_73 : decode cX6_ask 73 = .ok (.ireturn, 1) := by decide +kernel
set_option maxRecDepth 20000 in
theorem ggX6_openOnes_X6_all : GoodIn wsX6_openOnes wsX6_all := goodIn_r _ [4] (by decide +kernel) (by decide +kernel)
set_option maxRecDepth 20000 in
theorem gX6_openOnes_X6_all : GoodIn wsX6_openOnes (va_wsS RX6 150 yX6_all wsX6_all) := goodIn_app (goodIn_of _ (by decide +kernel)) ggX6_openOnes_X6_all
theorem dX6_openOnes_0 : decode cX6_openOnes 0 = .ok (.aload_n 0, 1) := by decide +kernel
theorem dX6_openOnes_1 : decode cX6_openOnes 1 = .ok (.invokestatic 150, 3) := by decide +kernel
theorem dX6_openOnes_4 : decode cX6_openOnes 4 = .ok (.aload_n 0, 1) := by decide +kernel
theorem dX6_openOnes_5 : decode cX6_openOnes 5 = .ok (.iconst 1, 1) := by decide +kernel
theorem dX6_openOnes_6 : decode cX6_openOnes 6 = .ok (.iaload, 1) := by decide +kernel
theorem dX6_openOnes_7 : decode cX6_openOnes 7 = .ok (.iconst (-1), 1) := by decide +kernel
theorem dX6_openOnes_8 : decode cX6_openOnes 8 = .ok (.ixor, 1) := by decide +kernel
theorem dX6_openOnes_9 : decode cX6_openOnes 9 = .ok (.iand, 1) := by decide +kernel
theorem dX6_openOnes_10 : decode cX6_openOnes 10 = .ok (.ireturn, 1) := by decide +kernel
set_option maxRecDepth 20000 in
theorem ggX6_from_X6_of : GoodIn wsX6_from wsX6_of := goodIn_r _ [4] (by decide +kernel) (by decide +kernel)
set_option maxRecDepth 20000 in
theorem gX6_from_X6_of : GoodIn wsX6_from (va_wsS RX6 103 yX6_of wsX6_of) := goodIn_app (goodIn_of _ (by decide +kernel)) ggX6_from_X6_of
set_option maxRecDepth 20000 in
theorem ggX6_from_X6_has : GoodIn wsX6_from wsX6_has := goodIn_r _ [7] (by decide +kernel) (by decide +kernel)
set_option maxRecDepth 20000 in
theorem gX6_from_X6_has : GoodIn wsX6_from (va_wsS RX6 144 yX6_has wsX6_has) := goodIn_app (goodIn_of _ (by decide +kernel)) ggX6_from_X6_has
theorem dX6_from_0 : decode cX6_from 0 = .ok (.iconst 1, 1) := by decide +kernel
theorem dX6_from_1 : decode cX6_from 1 = .ok (.iload_n 3, 1) := by decide +kernel
theorem dX6_from_2 : decode cX6_from 2 = .ok (.ishl, 1) := by decide +kernel
theorem dX6_from_3 : decode cX6_from 3 = .ok (.istore 5, 2) := by decide +kernel
theorem dX6_from_5 : decode cX6_from 5 = .ok (.iconst 0, 1) := by decide +kernel
theorem dX6_from_6 : decode cX6_from 6 = .ok (.istore 6, 2) := by decide +kernel
theorem dX6_from_8 : decode cX6_from 8 = .ok (.iload 6, 2) := by decide +kernel
theorem dX6_from_10 : decode cX6_from 10 = .ok (.bipush 6, 2) := by decide +kernel
theorem dX6_from_12 : decode cX6_from 12 = .ok (.if_icmp .ge 117, 3) := by decide +kernel
theorem dX6_from_15 : decode cX6_from 15 = .ok (.iconst 0, 1) := by decide +kernel
theorem dX6_from_16 : decode cX6_from 16 = .ok (.istore 7, 2) := by decide +kernel
theorem dX6_from_18 : decode cX6_from 18 = .ok (.iload 7, 2) := by decide +kernel
theorem dX6_from_20 : decode cX6_from 20 = .ok (.aload_n 1, 1) := by decide +kernel
theorem dX6_from_21 : decode cX6_from 21 = .ok (.iconst 0, 1) := by decide +kernel
theorem dX6_from_22 : decode cX6_from 22 = .ok (.iaload, 1) := by decide +kernel
theorem dX6_from_23 : decode cX6_from 23 = .ok (.if_icmp .ge 100, 3) := by decide +kernel
theorem dX6_from_26 : decode cX6_from 26 = .ok (.iload 5, 2) := by decide +kernel
theorem dX6_from_28 : decode cX6_from 28 = .ok (.aload_n 1, 1) := by decide +kernel
theorem dX6_from_29 : decode cX6_from 29 = .ok (.iload 7, 2) := by decide +kernel
theorem dX6_from_31 : decode cX6_from 31 = .ok (.iconst 4, 1) := by decide +kernel
theorem dX6_from_32 : decode cX6_from 32 = .ok (.invokestatic 103, 3) := by decide +kernel
theorem dX6_from_35 : decode cX6_from 35 = .ok (.invokestatic 144, 3) := by decide +kernel
theorem dX6_from_38 : decode cX6_from 38 = .ok (.ifCond .ne 18, 3) := by decide +kernel
theorem dX6_from_41 : decode cX6_from 41 = .ok (.iload 5, 2) := by decide +kernel
theorem dX6_from_43 : decode cX6_from 43 = .ok (.aload_n 1, 1) := by decide +kernel
theorem dX6_from_44 : decode cX6_from 44 = .ok (.iload 7, 2) := by decide +kernel
theorem dX6_from_46 : decode cX6_from 46 = .ok (.iconst 5, 1) := by decide +kernel
theorem dX6_from_47 : decode cX6_from 47 = .ok (.invokestatic 103, 3) := by decide +kernel
theorem dX6_from_50 : decode cX6_from 50 = .ok (.invokestatic 144, 3) := by decide +kernel
theorem dX6_from_53 : decode cX6_from 53 = .ok (.ifCond .eq 7, 3) := by decide +kernel
theorem dX6_from_56 : decode cX6_from 56 = .ok (.iconst 1, 1) := by decide +kernel
theorem dX6_from_57 : decode cX6_from 57 = .ok (.goto 4, 3) := by decide +kernel
theorem dX6_from_60 : decode cX6_from 60 = .ok (.iconst 0, 1) := by decide +kernel
theorem dX6_from_61 : decode cX6_from 61 = .ok (.istore 8, 2) := by decide +kernel
theorem dX6_from_63 : decode cX6_from 63 = .ok (.iload 5, 2) := by decide +kernel
theorem dX6_from_65 : decode cX6_from 65 = .ok (.iload_n 2, 1) := by decide +kernel
theorem dX6_from_66 : decode cX6_from 66 = .ok (.iload 7, 2) := by decide +kernel
theorem dX6_from_68 : decode cX6_from 68 = .ok (.invokestatic 144, 3) := by decide +kernel
theorem dX6_from_71 : decode cX6_from 71 = .ok (.ifCond .eq 42, 3) := by decide +kernel
theorem dX6_from_74 : decode cX6_from 74 = .ok (.aload_n 1, 1) := by decide +kernel
theorem dX6_from_75 : decode cX6_from 75 = .ok (.iload 7, 2) := by decide +kernel
theorem dX6_from_77 : decode cX6_from 77 = .ok (.iconst 3, 1) := by decide +kernel
theorem dX6_from_78 : decode cX6_from 78 = .ok (.invokestatic 103, 3) := by decide +kernel
theorem dX6_from_81 : decode cX6_from 81 = .ok (.iload 4, 2) := by decide +kernel
theorem dX6_from_83 : decode cX6_from 83 = .ok (.if_icmp .lt 30, 3) := by decide +kernel
theorem dX6_from_86 : decode cX6_from 86 = .ok (.iload 8, 2) := by decide +kernel
theorem dX6_from_88 : decode cX6_from 88 = .ok (.ifCond .eq 25, 3) := by decide +kernel
theorem dX6_from_91 : decode cX6_from 91 = .ok (.iconst 1, 1) := by decide +kernel
theorem dX6_from_92 : decode cX6_from 92 = .ok (.aload_n 1, 1) := by decide +kernel
theorem dX6_from_93 : decode cX6_from 93 = .ok (.iload 7, 2) := by decide +kernel
theorem dX6_from_95 : decode cX6_from 95 = .ok (.iconst 4, 1) := by decide +kernel
theorem dX6_from_96 : decode cX6_from 96 = .ok (.invokestatic 103, 3) := by decide +kernel
theorem dX6_from_99 : decode cX6_from 99 = .ok (.ishl, 1) := by decide +kernel
theorem dX6_from_100 : decode cX6_from 100 = .ok (.iconst 1, 1) := by decide +kernel
theorem dX6_from_101 : decode cX6_from 101 = .ok (.aload_n 1, 1) := by decide +kernel
theorem dX6_from_102 : decode cX6_from 102 = .ok (.iload 7, 2) := by decide +kernel
theorem dX6_from_104 : decode cX6_from 104 = .ok (.iconst 5, 1) := by decide +kernel
theorem dX6_from_105 : decode cX6_from 105 = .ok (.invokestatic 103, 3) := by decide +kernel
theorem dX6_from_108 : decode cX6_from 108 = .ok (.ishl, 1) := by decide +kernel
theorem dX6_from_109 : decode cX6_from 109 = .ok (.ior, 1) := by decide +kernel
theorem dX6_from_110 : decode cX6_from 110 = .ok (.goto 4, 3) := by decide +kernel
theorem dX6_from_113 : decode cX6_from 113 = .ok (.iconst 0, 1) := by decide +kernel
theorem dX6_from_114 : decode cX6_from 114 = .ok (.ior, 1) := by decide +kernel
theorem dX6_from_115 : decode cX6_from 115 = .ok (.istore 5, 2) := by decide +kernel
theorem dX6_from_117 : decode cX6_from 117 = .ok (.iinc 7 1, 3) := by decide +kernel
theorem dX6_from_120 : decode cX6_from 120 = .ok (.goto (-102), 3) := by decide +kernel
theorem dX6_from_123 : decode cX6_from 123 = .ok (.iinc 6 1, 3) := by decide +kernel
theorem dX6_from_126 : decode cX6_from 126 = .ok (.goto (-118), 3) := by decide +kernel
theorem dX6_from_129 : decode cX6_from 129 = .ok (.iload 5, 2) := by decide +kernel
theorem dX6_from_131 : decode cX6_from 131 = .ok (.ireturn, 1) := by decide +kernel
set_option maxRecDepth 20000 in
theorem ggX6_widestBy_X6_from : GoodIn wsX6_widestBy wsX6_from := goodIn_r _ [5, 6, 7, 4, 8, 9, 10, 11] (by decide +kernel) (by decide +kernel)
set_option maxRecDepth 20000 in
theorem gX6_widestBy_X6_from : GoodIn wsX6_widestBy (wsV RX6 231 RX6 yX6_from wsX6_from) := goodIn_app (goodIn_of _ (by decide +kernel)) ggX6_widestBy_X6_from
set_option maxRecDepth 20000 in
theorem ggX6_widestBy_X6_has : GoodIn wsX6_widestBy wsX6_has := goodIn_r _ [11] (by decide +kernel) (by decide +kernel)
set_option maxRecDepth 20000 in
theorem gX6_widestBy_X6_has : GoodIn wsX6_widestBy (va_wsS RX6 144 yX6_has wsX6_has) := goodIn_app (goodIn_of _ (by decide +kernel)) ggX6_widestBy_X6_has
theorem dX6_widestBy_0 : decode cX6_widestBy 0 = .ok (.iload_n 3, 1) := by decide +kernel
theorem dX6_widestBy_1 : decode cX6_widestBy 1 = .ok (.iload 4, 2) := by decide +kernel
theorem dX6_widestBy_3 : decode cX6_widestBy 3 = .ok (.if_icmp .ne 8, 3) := by decide +kernel
theorem dX6_widestBy_6 : decode cX6_widestBy 6 = .ok (.bipush 10, 2) := by decide +kernel
theorem dX6_widestBy_8 : decode cX6_widestBy 8 = .ok (.goto 5, 3) := by decide +kernel
theorem dX6_widestBy_11 : decode cX6_widestBy 11 = .ok (.bipush 9, 2) := by decide +kernel
theorem dX6_widestBy_13 : decode cX6_widestBy 13 = .ok (.istore 5, 2) := by decide +kernel
theorem dX6_widestBy_15 : decode cX6_widestBy 15 = .ok (.iload 5, 2) := by decide +kernel
theorem dX6_widestBy_17 : decode cX6_widestBy 17 = .ok (.ifCond .le 32, 3) := by decide +kernel
theorem dX6_widestBy_20 : decode cX6_widestBy 20 = .ok (.iload_n 3, 1) := by decide +kernel
theorem dX6_widestBy_21 : decode cX6_widestBy 21 = .ok (.iload 4, 2) := by decide +kernel
theorem dX6_widestBy_23 : decode cX6_widestBy 23 = .ok (.if_icmp .eq 26, 3) := by decide +kernel
theorem dX6_widestBy_26 : decode cX6_widestBy 26 = .ok (.aload_n 0, 1) := by decide +kernel
theorem dX6_widestBy_27 : decode cX6_widestBy 27 = .ok (.aload_n 1, 1) := by decide +kernel
theorem dX6_widestBy_28 : decode cX6_widestBy 28 = .ok (.iload_n 2, 1) := by decide +kernel
theorem dX6_widestBy_29 : decode cX6_widestBy 29 = .ok (.iload_n 3, 1) := by decide +kernel
theorem dX6_widestBy_30 : decode cX6_widestBy 30 = .ok (.iload 5, 2) := by decide +kernel
theorem dX6_widestBy_32 : decode cX6_widestBy 32 = .ok (.invokevirtual 231, 3) := by decide +kernel
theorem dX6_widestBy_35 : decode cX6_widestBy 35 = .ok (.iload 4, 2) := by decide +kernel
theorem dX6_widestBy_37 : decode cX6_widestBy 37 = .ok (.invokestatic 144, 3) := by decide +kernel
theorem dX6_widestBy_40 : decode cX6_widestBy 40 = .ok (.ifCond .ne 9, 3) := by decide +kernel
theorem dX6_widestBy_43 : decode cX6_widestBy 43 = .ok (.iinc 5 (-1), 3) := by decide +kernel
theorem dX6_widestBy_46 : decode cX6_widestBy 46 = .ok (.goto (-31), 3) := by decide +kernel
theorem dX6_widestBy_49 : decode cX6_widestBy 49 = .ok (.iload 5, 2) := by decide +kernel
theorem dX6_widestBy_51 : decode cX6_widestBy 51 = .ok (.ireturn, 1) := by decide +kernel
set_option maxRecDepth 20000 in
theorem ggX6_widest_X6_noStation : GoodIn wsX6_widest wsX6_noStation := goodIn_r _ [7, 8, 9, 10, 6, 11, 32, 33, 34, 35, 36, 37, 38, 39, 40, 41, 42, 43, 44, 45, 46, 47, 48, 49, 50, 51, 52, 53, 54, 55, 56, 57, 58, 59] (by decide +kernel) (by decide +kernel)
set_option maxRecDepth 20000 in
theorem gX6_widest_X6_noStation : GoodIn wsX6_widest (wsV RX6 128 RX6 yX6_noStation wsX6_noStation) := goodIn_app (goodIn_of _ (by decide +kernel)) ggX6_widest_X6_noStation
set_option maxRecDepth 20000 in
theorem ggX6_widest_X6_openOnes : GoodIn wsX6_widest wsX6_openOnes := goodIn_r _ [14, 15, 16, 6, 17] (by decide +kernel) (by decide +kernel)
set_option maxRecDepth 20000 in
theorem gX6_widest_X6_openOnes : GoodIn wsX6_widest (va_wsS RX6 235 yX6_openOnes wsX6_openOnes) := goodIn_app (goodIn_of _ (by decide +kernel)) ggX6_widest_X6_openOnes
set_option maxRecDepth 20000 in
theorem ggX6_widest_X6_widestBy : GoodIn wsX6_widest wsX6_widestBy := goodIn_r _ [21, 22, 23, 24, 6, 25, 26, 27, 28, 29, 30, 31] (by decide +kernel) (by decide +kernel)
set_option maxRecDepth 20000 in
theorem gX6_widest_X6_widestBy : GoodIn wsX6_widest (wsV RX6 238 RX6 yX6_widestBy wsX6_widestBy) := goodIn_app (goodIn_of _ (by decide +kernel)) ggX6_widest_X6_widestBy
theorem dX6_widest_0 : decode cX6_widest 0 = .ok (.aload_n 0, 1) := by decide +kernel
theorem dX6_widest_1 : decode cX6_widest 1 = .ok (.iconst 0, 1) := by decide +kernel
theorem dX6_widest_2 : decode cX6_widest 2 = .ok (.putfield 67, 3) := by decide +kernel
theorem dX6_widest_5 : decode cX6_widest 5 = .ok (.aload_n 0, 1) := by decide +kernel
theorem dX6_widest_6 : decode cX6_widest 6 = .ok (.iload_n 1, 1) := by decide +kernel
theorem dX6_widest_7 : decode cX6_widest 7 = .ok (.invokevirtual 128, 3) := by decide +kernel
theorem dX6_widest_10 : decode cX6_widest 10 = .ok (.ifCond .ne 11, 3) := by decide +kernel
theorem dX6_widest_13 : decode cX6_widest 13 = .ok (.aload_n 0, 1) := by decide +kernel
theorem dX6_widest_14 : decode cX6_widest 14 = .ok (.iload_n 2, 1) := by decide +kernel
theorem dX6_widest_15 : decode cX6_widest 15 = .ok (.invokevirtual 128, 3) := by decide +kernel
theorem dX6_widest_18 : decode cX6_widest 18 = .ok (.ifCond .eq 7, 3) := by decide +kernel
theorem dX6_widest_21 : decode cX6_widest 21 = .ok (.iconst (-1), 1) := by decide +kernel
theorem dX6_widest_22 : decode cX6_widest 22 = .ok (.goto 20, 3) := by decide +kernel
theorem dX6_widest_25 : decode cX6_widest 25 = .ok (.aload_n 0, 1) := by decide +kernel
theorem dX6_widest_26 : decode cX6_widest 26 = .ok (.aload_n 0, 1) := by decide +kernel
theorem dX6_widest_27 : decode cX6_widest 27 = .ok (.getfield 20, 3) := by decide +kernel
theorem dX6_widest_30 : decode cX6_widest 30 = .ok (.aload_n 0, 1) := by decide +kernel
theorem dX6_widest_31 : decode cX6_widest 31 = .ok (.getfield 20, 3) := by decide +kernel
theorem dX6_widest_34 : decode cX6_widest 34 = .ok (.invokestatic 235, 3) := by decide +kernel
theorem dX6_widest_37 : decode cX6_widest 37 = .ok (.iload_n 1, 1) := by decide +kernel
theorem dX6_widest_38 : decode cX6_widest 38 = .ok (.iload_n 2, 1) := by decide +kernel
theorem dX6_widest_39 : decode cX6_widest 39 = .ok (.invokevirtual 238, 3) := by decide +kernel
theorem dX6_widest_42 : decode cX6_widest 42 = .ok (.ireturn, 1) := by decide +kernel
set_option maxRecDepth 20000 in
theorem ggX6_come_X6_in : GoodIn wsX6_come wsX6_in := goodIn_r _ [7] (by decide +kernel) (by decide +kernel)
set_option maxRecDepth 20000 in
theorem gX6_come_X6_in : GoodIn wsX6_come (va_wsS RX6 70 yX6_in wsX6_in) := goodIn_app (goodIn_of _ (by decide +kernel)) ggX6_come_X6_in
set_option maxRecDepth 20000 in
theorem ggX6_come_X6_openOnes : GoodIn wsX6_come wsX6_openOnes := goodIn_r _ [10, 11, 12, 6, 13] (by decide +kernel) (by decide +kernel)
set_option maxRecDepth 20000 in
theorem gX6_come_X6_openOnes : GoodIn wsX6_come (va_wsS RX6 235 yX6_openOnes wsX6_openOnes) := goodIn_app (goodIn_of _ (by decide +kernel)) ggX6_come_X6_openOnes
set_option maxRecDepth 20000 in
theorem ggX6_come_X6_reached : GoodIn wsX6_come wsX6_reached := goodIn_r _ [17, 18, 19, 6, 20, 21, 22, 23] (by decide +kernel) (by decide +kernel)
set_option maxRecDepth 20000 in
theorem gX6_come_X6_reached : GoodIn wsX6_come (wsV RX6 147 RX6 yX6_reached wsX6_reached) := goodIn_app (goodIn_of _ (by decide +kernel)) ggX6_come_X6_reached
theorem dX6_come_0 : decode cX6_come 0 = .ok (.aload_n 0, 1) := by decide +kernel
theorem dX6_come_1 : decode cX6_come 1 = .ok (.iconst 0, 1) := by decide +kernel
theorem dX6_come_2 : decode cX6_come 2 = .ok (.putfield 67, 3) := by decide +kernel
theorem dX6_come_5 : decode cX6_come 5 = .ok (.iload_n 1, 1) := by decide +kernel
theorem dX6_come_6 : decode cX6_come 6 = .ok (.i2l, 1) := by decide +kernel
theorem dX6_come_7 : decode cX6_come 7 = .ok (.lconst 1, 1) := by decide +kernel
theorem dX6_come_8 : decode cX6_come 8 = .ok (.ldc2_w 117, 3) := by decide +kernel
theorem dX6_come_11 : decode cX6_come 11 = .ok (.invokestatic 70, 3) := by decide +kernel
theorem dX6_come_14 : decode cX6_come 14 = .ok (.ifCond .eq 22, 3) := by decide +kernel
theorem dX6_come_17 : decode cX6_come 17 = .ok (.aload_n 0, 1) := by decide +kernel
theorem dX6_come_18 : decode cX6_come 18 = .ok (.aload_n 0, 1) := by decide +kernel
theorem dX6_come_19 : decode cX6_come 19 = .ok (.getfield 20, 3) := by decide +kernel
theorem dX6_come_22 : decode cX6_come 22 = .ok (.aload_n 0, 1) := by decide +kernel
theorem dX6_come_23 : decode cX6_come 23 = .ok (.getfield 20, 3) := by decide +kernel
theorem dX6_come_26 : decode cX6_come 26 = .ok (.invokestatic 235, 3) := by decide +kernel
theorem dX6_come_29 : decode cX6_come 29 = .ok (.iload_n 1, 1) := by decide +kernel
theorem dX6_come_30 : decode cX6_come 30 = .ok (.invokevirtual 147, 3) := by decide +kernel
theorem dX6_come_33 : decode cX6_come 33 = .ok (.goto 5, 3) := by decide +kernel
theorem dX6_come_36 : decode cX6_come 36 = .ok (.bipush (-2), 2) := by decide +kernel
theorem dX6_come_38 : decode cX6_come 38 = .ok (.ireturn, 1) := by decide +kernel
set_option maxRecDepth 20000 in
theorem ggX6_must_X6_noStation : GoodIn wsX6_must wsX6_noStation := goodIn_r _ [7, 8, 9, 10, 6, 11, 32, 33, 34, 35, 36, 37, 38, 39, 40, 41, 42, 43, 44, 45, 46, 47, 48, 49, 50, 51, 52, 53, 54, 55, 56, 57, 58, 59] (by decide +kernel) (by decide +kernel)
set_option maxRecDepth 20000 in
theorem gX6_must_X6_noStation : GoodIn wsX6_must (wsV RX6 128 RX6 yX6_noStation wsX6_noStation) := goodIn_app (goodIn_of _ (by decide +kernel)) ggX6_must_X6_noStation
set_option maxRecDepth 20000 in
theorem ggX6_must_X6_openOnes : GoodIn wsX6_must wsX6_openOnes := goodIn_r _ [14, 15, 16, 6, 17] (by decide +kernel) (by decide +kernel)
set_option maxRecDepth 20000 in
theorem gX6_must_X6_openOnes : GoodIn wsX6_must (va_wsS RX6 235 yX6_openOnes wsX6_openOnes) := goodIn_app (goodIn_of _ (by decide +kernel)) ggX6_must_X6_openOnes
set_option maxRecDepth 20000 in
theorem ggX6_must_X6_tiedBy : GoodIn wsX6_must wsX6_tiedBy := goodIn_r _ [21, 22, 23, 24, 6, 25, 26, 27, 28, 29, 30, 31] (by decide +kernel) (by decide +kernel)
set_option maxRecDepth 20000 in
theorem gX6_must_X6_tiedBy : GoodIn wsX6_must (wsV RX6 154 RX6 yX6_tiedBy wsX6_tiedBy) := goodIn_app (goodIn_of _ (by decide +kernel)) ggX6_must_X6_tiedBy
set_option maxRecDepth 20000 in
theorem ggX6_must_X6_has : GoodIn wsX6_must wsX6_has := goodIn_r _ [28] (by decide +kernel) (by decide +kernel)
set_option maxRecDepth 20000 in
theorem gX6_must_X6_has : GoodIn wsX6_must (va_wsS RX6 144 yX6_has wsX6_has) := goodIn_app (goodIn_of _ (by decide +kernel)) ggX6_must_X6_has
theorem dX6_must_0 : decode cX6_must 0 = .ok (.aload_n 0, 1) := by decide +kernel
theorem dX6_must_1 : decode cX6_must 1 = .ok (.iconst 0, 1) := by decide +kernel
theorem dX6_must_2 : decode cX6_must 2 = .ok (.putfield 67, 3) := by decide +kernel
theorem dX6_must_5 : decode cX6_must 5 = .ok (.aload_n 0, 1) := by decide +kernel
theorem dX6_must_6 : decode cX6_must 6 = .ok (.iload_n 1, 1) := by decide +kernel
theorem dX6_must_7 : decode cX6_must 7 = .ok (.invokevirtual 128, 3) := by decide +kernel
theorem dX6_must_10 : decode cX6_must 10 = .ok (.ifCond .eq 5, 3) := by decide +kernel
theorem dX6_must_13 : decode cX6_must 13 = .ok (.iconst (-1), 1) := by decide +kernel
theorem dX6_must_14 : decode cX6_must 14 = .ok (.ireturn, 1) := by decide +kernel
theorem dX6_must_15 : decode cX6_must 15 = .ok (.aload_n 0, 1) := by decide +kernel
theorem dX6_must_16 : decode cX6_must 16 = .ok (.getfield 20, 3) := by decide +kernel
theorem dX6_must_19 : decode cX6_must 19 = .ok (.invokestatic 235, 3) := by decide +kernel
theorem dX6_must_22 : decode cX6_must 22 = .ok (.istore_n 2, 1) := by decide +kernel
theorem dX6_must_23 : decode cX6_must 23 = .ok (.aload_n 0, 1) := by decide +kernel
theorem dX6_must_24 : decode cX6_must 24 = .ok (.aload_n 0, 1) := by decide +kernel
theorem dX6_must_25 : decode cX6_must 25 = .ok (.getfield 20, 3) := by decide +kernel
theorem dX6_must_28 : decode cX6_must 28 = .ok (.iload_n 2, 1) := by decide +kernel
theorem dX6_must_29 : decode cX6_must 29 = .ok (.invokevirtual 154, 3) := by decide +kernel
theorem dX6_must_32 : decode cX6_must 32 = .ok (.iload_n 1, 1) := by decide +kernel
theorem dX6_must_33 : decode cX6_must 33 = .ok (.invokestatic 144, 3) := by decide +kernel
theorem dX6_must_36 : decode cX6_must 36 = .ok (.ifCond .ne 5, 3) := by decide +kernel
theorem dX6_must_39 : decode cX6_must 39 = .ok (.iconst 0, 1) := by decide +kernel
theorem dX6_must_40 : decode cX6_must 40 = .ok (.ireturn, 1) := by decide +kernel
theorem dX6_must_41 : decode cX6_must 41 = .ok (.iconst 0, 1) := by decide +kernel
theorem dX6_must_42 : decode cX6_must 42 = .ok (.istore_n 3, 1) := by decide +kernel
theorem dX6_must_43 : decode cX6_must 43 = .ok (.iconst 0, 1) := by decide +kernel
theorem dX6_must_44 : decode cX6_must 44 = .ok (.istore 4, 2) := by decide +kernel
theorem dX6_must_46 : decode cX6_must 46 = .ok (.iload 4, 2) := by decide +kernel
theorem dX6_must_48 : decode cX6_must 48 = .ok (.aload_n 0, 1) := by decide +kernel
theorem dX6_must_49 : decode cX6_must 49 = .ok (.getfield 20, 3) := by decide +kernel
theorem dX6_must_52 : decode cX6_must 52 = .ok (.iconst 0, 1) := by decide +kernel
theorem dX6_must_53 : decode cX6_must 53 = .ok (.iaload, 1) := by decide +kernel
theorem dX6_must_54 : decode cX6_must 54 = .ok (.if_icmp .ge 52, 3) := by decide +kernel
theorem dX6_must_57 : decode cX6_must 57 = .ok (.iload_n 3, 1) := by decide +kernel
theorem dX6_must_58 : decode cX6_must 58 = .ok (.iload_n 2, 1) := by decide +kernel
theorem dX6_must_59 : decode cX6_must 59 = .ok (.iload 4, 2) := by decide +kernel
theorem dX6_must_61 : decode cX6_must 61 = .ok (.invokestatic 144, 3) := by decide +kernel
theorem dX6_must_64 : decode cX6_must 64 = .ok (.ifCond .eq 33, 3) := by decide +kernel
theorem dX6_must_67 : decode cX6_must 67 = .ok (.aload_n 0, 1) := by decide +kernel
theorem dX6_must_68 : decode cX6_must 68 = .ok (.aload_n 0, 1) := by decide +kernel
theorem dX6_must_69 : decode cX6_must 69 = .ok (.getfield 20, 3) := by decide +kernel
theorem dX6_must_72 : decode cX6_must 72 = .ok (.iload_n 2, 1) := by decide +kernel
theorem dX6_must_73 : decode cX6_must 73 = .ok (.iconst 1, 1) := by decide +kernel
theorem dX6_must_74 : decode cX6_must 74 = .ok (.iload 4, 2) := by decide +kernel
theorem dX6_must_76 : decode cX6_must 76 = .ok (.ishl, 1) := by decide +kernel
theorem dX6_must_77 : decode cX6_must 77 = .ok (.iconst (-1), 1) := by decide +kernel
theorem dX6_must_78 : decode cX6_must 78 = .ok (.ixor, 1) := by decide +kernel
theorem dX6_must_79 : decode cX6_must 79 = .ok (.iand, 1) := by decide +kernel
theorem dX6_must_80 : decode cX6_must 80 = .ok (.invokevirtual 154, 3) := by decide +kernel
theorem dX6_must_83 : decode cX6_must 83 = .ok (.iload_n 1, 1) := by decide +kernel
theorem dX6_must_84 : decode cX6_must 84 = .ok (.invokestatic 144, 3) := by decide +kernel
theorem dX6_must_87 : decode cX6_must 87 = .ok (.ifCond .ne 10, 3) := by decide +kernel
theorem dX6_must_90 : decode cX6_must 90 = .ok (.iconst 1, 1) := by decide +kernel
theorem dX6_must_91 : decode cX6_must 91 = .ok (.iload 4, 2) := by decide +kernel
theorem dX6_must_93 : decode cX6_must 93 = .ok (.ishl, 1) := by decide +kernel
theorem dX6_must_94 : decode cX6_must 94 = .ok (.goto 4, 3) := by decide +kernel
theorem dX6_must_97 : decode cX6_must 97 = .ok (.iconst 0, 1) := by decide +kernel
theorem dX6_must_98 : decode cX6_must 98 = .ok (.ior, 1) := by decide +kernel
theorem dX6_must_99 : decode cX6_must 99 = .ok (.istore_n 3, 1) := by decide +kernel
theorem dX6_must_100 : decode cX6_must 100 = .ok (.iinc 4 1, 3) := by decide +kernel
theorem dX6_must_103 : decode cX6_must 103 = .ok (.goto (-57), 3) := by decide +kernel
theorem dX6_must_106 : decode cX6_must 106 = .ok (.iload_n 3, 1) := by decide +kernel
theorem dX6_must_107 : decode cX6_must 107 = .ok (.ireturn, 1) := by decide +kernel
set_option maxRecDepth 20000 in
theorem ggX6_closes_X6_all : GoodIn wsX6_closes wsX6_all := goodIn_r _ [4] (by decide +kernel) (by decide +kernel)
set_option maxRecDepth 20000 in
theorem gX6_closes_X6_all : GoodIn wsX6_closes (va_wsS RX6 150 yX6_all wsX6_all) := goodIn_app (goodIn_of _ (by decide +kernel)) ggX6_closes_X6_all
set_option maxRecDepth 20000 in
theorem ggX6_closes_X6_tiedBy : GoodIn wsX6_closes wsX6_tiedBy := goodIn_r _ [8, 9, 10, 11, 3, 12, 13, 14, 15, 16, 17, 18] (by decide +kernel) (by decide +kernel)
set_option maxRecDepth 20000 in
theorem gX6_closes_X6_tiedBy : GoodIn wsX6_closes (wsV RX6 154 RX6 yX6_tiedBy wsX6_tiedBy) := goodIn_app (goodIn_of _ (by decide +kernel)) ggX6_closes_X6_tiedBy
set_option maxRecDepth 20000 in
theorem ggX6_closes_X6_isTiedLeg : GoodIn wsX6_closes wsX6_isTiedLeg := goodIn_r _ [22, 16, 17, 3, 18, 13, 14, 15] (by decide +kernel) (by decide +kernel)
set_option maxRecDepth 20000 in
theorem gX6_closes_X6_isTiedLeg : GoodIn wsX6_closes (wsV RX6 162 RX6 yX6_isTiedLeg wsX6_isTiedLeg) := goodIn_app (goodIn_of _ (by decide +kernel)) ggX6_closes_X6_isTiedLeg
set_option maxRecDepth 20000 in
theorem ggX6_closes_X6_layOut : GoodIn wsX6_closes wsX6_layOut := goodIn_r _ [26, 27, 16, 17, 3, 18, 13, 14, 15, 28, 29, 30, 31, 32, 33, 34, 35, 36, 37, 38, 43, 44, 45, 46, 47, 48, 49, 50, 51, 52, 53, 54, 55, 56, 57, 58, 59, 60, 61, 62, 63, 64, 65, 66, 67, 68, 69, 70] (by decide +kernel) (by decide +kernel)
set_option maxRecDepth 20000 in
theorem gX6_closes_X6_layOut : GoodIn wsX6_closes (wsV RX6 168 RX6 yX6_layOut wsX6_layOut) := goodIn_app (goodIn_of _ (by decide +kernel)) ggX6_closes_X6_layOut
set_option maxRecDepth 20000 in
theorem ggX6_closes_X6_missOf : GoodIn wsX6_closes wsX6_missOf := goodIn_r _ [42, 27, 28, 29, 30, 3, 31, 32, 16, 17, 18, 33, 34, 35, 36, 37, 38, 43, 44, 45, 46, 47, 48, 49, 50, 51, 52, 53, 54, 55, 56, 57, 58, 59, 60, 61, 62, 63, 64, 65, 66, 67, 68, 69, 70] (by decide +kernel) (by decide +kernel)
set_option maxRecDepth 20000 in
theorem gX6_closes_X6_missOf : GoodIn wsX6_closes (wsV RX6 172 RX6 yX6_missOf wsX6_missOf) := goodIn_app (goodIn_of _ (by decide +kernel)) ggX6_closes_X6_missOf
theorem dX6_closes_0 : decode cX6_closes 0 = .ok (.aload_n 0, 1) := by decide +kernel
theorem dX6_closes_1 : decode cX6_closes 1 = .ok (.aload_n 1, 1) := by decide +kernel
theorem dX6_closes_2 : decode cX6_closes 2 = .ok (.iload_n 2, 1) := by decide +kernel
theorem dX6_closes_3 : decode cX6_closes 3 = .ok (.aload_n 0, 1) := by decide +kernel
theorem dX6_closes_4 : decode cX6_closes 4 = .ok (.aload_n 1, 1) := by decide +kernel
theorem dX6_closes_5 : decode cX6_closes 5 = .ok (.aload_n 1, 1) := by decide +kernel
theorem dX6_closes_6 : decode cX6_closes 6 = .ok (.invokestatic 150, 3) := by decide +kernel
theorem dX6_closes_9 : decode cX6_closes 9 = .ok (.invokevirtual 154, 3) := by decide +kernel
theorem dX6_closes_12 : decode cX6_closes 12 = .ok (.invokevirtual 162, 3) := by decide +kernel
theorem dX6_closes_15 : decode cX6_closes 15 = .ok (.ifCond .ne 5, 3) := by decide +kernel
theorem dX6_closes_18 : decode cX6_closes 18 = .ok (.iconst 0, 1) := by decide +kernel
theorem dX6_closes_19 : decode cX6_closes 19 = .ok (.ireturn, 1) := by decide +kernel
theorem dX6_closes_20 : decode cX6_closes 20 = .ok (.aload_n 0, 1) := by decide +kernel
theorem dX6_closes_21 : decode cX6_closes 21 = .ok (.aload_n 1, 1) := by decide +kernel
theorem dX6_closes_22 : decode cX6_closes 22 = .ok (.invokevirtual 168, 3) := by decide +kernel
theorem dX6_closes_25 : decode cX6_closes 25 = .ok (.aload_n 0, 1) := by decide +kernel
theorem dX6_closes_26 : decode cX6_closes 26 = .ok (.aload_n 1, 1) := by decide +kernel
theorem dX6_closes_27 : decode cX6_closes 27 = .ok (.iload_n 2, 1) := by decide +kernel
theorem dX6_closes_28 : decode cX6_closes 28 = .ok (.iconst 0, 1) := by decide +kernel
theorem dX6_closes_29 : decode cX6_closes 29 = .ok (.invokevirtual 172, 3) := by decide +kernel
theorem dX6_closes_32 : decode cX6_closes 32 = .ok (.ifCond .ne 27, 3) := by decide +kernel
theorem dX6_closes_35 : decode cX6_closes 35 = .ok (.aload_n 0, 1) := by decide +kernel
theorem dX6_closes_36 : decode cX6_closes 36 = .ok (.aload_n 1, 1) := by decide +kernel
theorem dX6_closes_37 : decode cX6_closes 37 = .ok (.iload_n 2, 1) := by decide +kernel
theorem dX6_closes_38 : decode cX6_closes 38 = .ok (.iconst 1, 1) := by decide +kernel
theorem dX6_closes_39 : decode cX6_closes 39 = .ok (.invokevirtual 172, 3) := by decide +kernel
theorem dX6_closes_42 : decode cX6_closes 42 = .ok (.ifCond .ne 17, 3) := by decide +kernel
theorem dX6_closes_45 : decode cX6_closes 45 = .ok (.aload_n 0, 1) := by decide +kernel
theorem dX6_closes_46 : decode cX6_closes 46 = .ok (.aload_n 1, 1) := by decide +kernel
theorem dX6_closes_47 : decode cX6_closes 47 = .ok (.iload_n 2, 1) := by decide +kernel
theorem dX6_closes_48 : decode cX6_closes 48 = .ok (.iconst 2, 1) := by decide +kernel
theorem dX6_closes_49 : decode cX6_closes 49 = .ok (.invokevirtual 172, 3) := by decide +kernel
theorem dX6_closes_52 : decode cX6_closes 52 = .ok (.ifCond .ne 7, 3) := by decide +kernel
theorem dX6_closes_55 : decode cX6_closes 55 = .ok (.iconst 1, 1) := by decide +kernel
theorem dX6_closes_56 : decode cX6_closes 56 = .ok (.goto 4, 3) := by decide +kernel
theorem dX6_closes_59 : decode cX6_closes 59 = .ok (.iconst 0, 1) := by decide +kernel
theorem dX6_closes_60 : decode cX6_closes 60 = .ok (.ireturn, 1) := by decide +kernel
set_option maxRecDepth 20000 in
theorem ggX6_does_X6_takeOn : GoodIn wsX6_does wsX6_takeOn := goodIn_r _ [5] (by decide +kernel) (by decide +kernel)
set_option maxRecDepth 20000 in
theorem gX6_does_X6_takeOn : GoodIn wsX6_does (va_wsS RX6 138 yX6_takeOn wsX6_takeOn) := goodIn_app (goodIn_of _ (by decide +kernel)) ggX6_does_X6_takeOn
set_option maxRecDepth 20000 in
theorem ggX6_does_X6_noStation : GoodIn wsX6_does wsX6_noStation := goodIn_r _ [9, 10, 11, 12, 4, 13, 77, 78, 79, 80, 81, 82, 83, 84, 85, 86, 87, 88, 89, 90, 91, 92, 93, 94, 95, 96, 97, 98, 99, 100, 101, 102, 103, 104] (by decide +kernel) (by decide +kernel)
set_option maxRecDepth 20000 in
theorem gX6_does_X6_noStation : GoodIn wsX6_does (wsV RX6 128 RX6 yX6_noStation wsX6_noStation) := goodIn_app (goodIn_of _ (by decide +kernel)) ggX6_does_X6_noStation
set_option maxRecDepth 20000 in
theorem ggX6_does_X6_openOnes : GoodIn wsX6_does wsX6_openOnes := goodIn_r _ [16, 17, 18, 4, 19] (by decide +kernel) (by decide +kernel)
set_option maxRecDepth 20000 in
theorem gX6_does_X6_openOnes : GoodIn wsX6_does (va_wsS RX6 235 yX6_openOnes wsX6_openOnes) := goodIn_app (goodIn_of _ (by decide +kernel)) ggX6_does_X6_openOnes
set_option maxRecDepth 20000 in
theorem ggX6_does_X6_widestBy : GoodIn wsX6_does wsX6_widestBy := goodIn_r _ [23, 24, 25, 26, 4, 27, 28, 29, 30, 31, 32, 33] (by decide +kernel) (by decide +kernel)
set_option maxRecDepth 20000 in
theorem gX6_does_X6_widestBy : GoodIn wsX6_does (wsV RX6 238 RX6 yX6_widestBy wsX6_widestBy) := goodIn_app (goodIn_of _ (by decide +kernel)) ggX6_does_X6_widestBy
set_option maxRecDepth 20000 in
theorem ggX6_does_X6_loops : GoodIn wsX6_does wsX6_loops := goodIn_r _ [37, 17, 18, 4, 19, 38, 39, 40, 41, 42, 43, 44, 45, 31, 32, 33, 28, 29, 30, 46, 47, 48, 49, 50, 51, 52] (by decide +kernel) (by decide +kernel)
set_option maxRecDepth 20000 in
theorem gX6_does_X6_loops : GoodIn wsX6_does (wsV RX6 222 RX6 yX6_loops wsX6_loops) := goodIn_app (goodIn_of _ (by decide +kernel)) ggX6_does_X6_loops
set_option maxRecDepth 20000 in
theorem ggX6_does_X6_closes : GoodIn wsX6_does wsX6_closes := goodIn_r _ [56, 17, 18, 4, 19, 38, 39, 40, 41, 42, 43, 44, 45, 31, 32, 33, 28, 29, 30, 49, 50, 51, 52, 57, 58, 59, 60, 61, 62, 63, 64, 65, 66, 67, 68, 69, 70, 71, 72, 73, 74, 75, 76, 77, 78, 79, 80, 81, 82, 83, 84, 85, 86, 87, 88, 89, 90, 91, 92, 93, 94, 95, 96, 97, 98, 99, 100, 101, 102, 103, 104] (by decide +kernel) (by decide +kernel)
set_option maxRecDepth 20000 in
theorem gX6_does_X6_closes : GoodIn wsX6_does (wsV RX6 241 RX6 yX6_closes wsX6_closes) := goodIn_app (goodIn_of _ (by decide +kernel)) ggX6_does_X6_closes
set_option maxRecDepth 20000 in
theorem ggX6_does_X6_reached : GoodIn wsX6_does wsX6_reached := goodIn_r _ [45, 31, 32, 4, 33, 28, 29, 30] (by decide +kernel) (by decide +kernel)
set_option maxRecDepth 20000 in
theorem gX6_does_X6_reached : GoodIn wsX6_does (wsV RX6 147 RX6 yX6_reached wsX6_reached) := goodIn_app (goodIn_of _ (by decide +kernel)) ggX6_does_X6_reached
set_option maxRecDepth 20000 in
theorem ggX6_does_X6_has : GoodIn wsX6_does wsX6_has := goodIn_r _ [33] (by decide +kernel) (by decide +kernel)
set_option maxRecDepth 20000 in
theorem gX6_does_X6_has : GoodIn wsX6_does (va_wsS RX6 144 yX6_has wsX6_has) := goodIn_app (goodIn_of _ (by decide +kernel)) ggX6_does_X6_has
theorem dX6_does_0 : decode cX6_does 0 = .ok (.bipush 10, 2) := by decide +kernel
theorem dX6_does_2 : decode cX6_does 2 = .ok (.iload_n 3, 1) := by decide +kernel
theorem dX6_does_3 : decode cX6_does 3 = .ok (.imul, 1) := by decide +kernel
theorem dX6_does_4 : decode cX6_does 4 = .ok (.iload 4, 2) := by decide +kernel
theorem dX6_does_6 : decode cX6_does 6 = .ok (.iadd, 1) := by decide +kernel
theorem dX6_does_7 : decode cX6_does 7 = .ok (.istore 5, 2) := by decide +kernel
theorem dX6_does_9 : decode cX6_does 9 = .ok (.iload_n 2, 1) := by decide +kernel
theorem dX6_does_10 : decode cX6_does 10 = .ok (.aload_n 0, 1) := by decide +kernel
theorem dX6_does_11 : decode cX6_does 11 = .ok (.getfield 23, 3) := by decide +kernel
theorem dX6_does_14 : decode cX6_does 14 = .ok (.iconst 0, 1) := by decide +kernel
theorem dX6_does_15 : decode cX6_does 15 = .ok (.iaload, 1) := by decide +kernel
theorem dX6_does_16 : decode cX6_does 16 = .ok (.if_icmp .ge 7, 3) := by decide +kernel
theorem dX6_does_19 : decode cX6_does 19 = .ok (.iconst 1, 1) := by decide +kernel
theorem dX6_does_20 : decode cX6_does 20 = .ok (.goto 4, 3) := by decide +kernel
theorem dX6_does_23 : decode cX6_does 23 = .ok (.iconst 0, 1) := by decide +kernel
theorem dX6_does_24 : decode cX6_does 24 = .ok (.istore 6, 2) := by decide +kernel
theorem dX6_does_26 : decode cX6_does 26 = .ok (.iload_n 1, 1) := by decide +kernel
theorem dX6_does_27 : decode cX6_does 27 = .ok (.tableswitch 276 1 7 #[41, 67, 89, 118, 162, 190, 218], 41) := by decide +kernel
theorem dX6_does_68 : decode cX6_does 68 = .ok (.iload 6, 2) := by decide +kernel
theorem dX6_does_70 : decode cX6_does 70 = .ok (.ifCond .eq 8, 3) := by decide +kernel
theorem dX6_does_73 : decode cX6_does 73 = .ok (.iload 5, 2) := by decide +kernel
theorem dX6_does_75 : decode cX6_does 75 = .ok (.ifCond .eq 5, 3) := by decide +kernel
theorem dX6_does_78 : decode cX6_does 78 = .ok (.iconst 0, 1) := by decide +kernel
theorem dX6_does_79 : decode cX6_does 79 = .ok (.ireturn, 1) := by decide +kernel
theorem dX6_does_80 : decode cX6_does 80 = .ok (.aload_n 0, 1) := by decide +kernel
theorem dX6_does_81 : decode cX6_does 81 = .ok (.getfield 23, 3) := by decide +kernel
theorem dX6_does_84 : decode cX6_does 84 = .ok (.iconst 1, 1) := by decide +kernel
theorem dX6_does_85 : decode cX6_does 85 = .ok (.dup2, 1) := by decide +kernel
theorem dX6_does_86 : decode cX6_does 86 = .ok (.iaload, 1) := by decide +kernel
theorem dX6_does_87 : decode cX6_does 87 = .ok (.iconst 1, 1) := by decide +kernel
theorem dX6_does_88 : decode cX6_does 88 = .ok (.iload_n 2, 1) := by decide +kernel
theorem dX6_does_89 : decode cX6_does 89 = .ok (.ishl, 1) := by decide +kernel
theorem dX6_does_90 : decode cX6_does 90 = .ok (.ixor, 1) := by decide +kernel
theorem dX6_does_91 : decode cX6_does 91 = .ok (.iastore, 1) := by decide +kernel
theorem dX6_does_92 : decode cX6_does 92 = .ok (.iconst 1, 1) := by decide +kernel
theorem dX6_does_93 : decode cX6_does 93 = .ok (.ireturn, 1) := by decide +kernel
theorem dX6_does_94 : decode cX6_does 94 = .ok (.iload 6, 2) := by decide +kernel
theorem dX6_does_96 : decode cX6_does 96 = .ok (.ifCond .eq 8, 3) := by decide +kernel
theorem dX6_does_99 : decode cX6_does 99 = .ok (.iload 5, 2) := by decide +kernel
theorem dX6_does_101 : decode cX6_does 101 = .ok (.ifCond .eq 5, 3) := by decide +kernel
theorem dX6_does_104 : decode cX6_does 104 = .ok (.iconst 0, 1) := by decide +kernel
theorem dX6_does_105 : decode cX6_does 105 = .ok (.ireturn, 1) := by decide +kernel
theorem dX6_does_106 : decode cX6_does 106 = .ok (.aload_n 0, 1) := by decide +kernel
theorem dX6_does_107 : decode cX6_does 107 = .ok (.getfield 23, 3) := by decide +kernel
theorem dX6_does_110 : decode cX6_does 110 = .ok (.iload_n 2, 1) := by decide +kernel
theorem dX6_does_111 : decode cX6_does 111 = .ok (.invokestatic 138, 3) := by decide +kernel
theorem dX6_does_114 : decode cX6_does 114 = .ok (.iconst 1, 1) := by decide +kernel
theorem dX6_does_115 : decode cX6_does 115 = .ok (.ireturn, 1) := by decide +kernel
theorem dX6_does_116 : decode cX6_does 116 = .ok (.iload 6, 2) := by decide +kernel
theorem dX6_does_118 : decode cX6_does 118 = .ok (.ifCond .eq 8, 3) := by decide +kernel
theorem dX6_does_121 : decode cX6_does 121 = .ok (.iload 5, 2) := by decide +kernel
theorem dX6_does_123 : decode cX6_does 123 = .ok (.ifCond .ne 5, 3) := by decide +kernel
theorem dX6_does_126 : decode cX6_does 126 = .ok (.iconst 0, 1) := by decide +kernel
theorem dX6_does_127 : decode cX6_does 127 = .ok (.ireturn, 1) := by decide +kernel
theorem dX6_does_128 : decode cX6_does 128 = .ok (.aload_n 0, 1) := by decide +kernel
theorem dX6_does_129 : decode cX6_does 129 = .ok (.getfield 23, 3) := by decide +kernel
theorem dX6_does_132 : decode cX6_does 132 = .ok (.iconst 2, 1) := by decide +kernel
theorem dX6_does_133 : decode cX6_does 133 = .ok (.bipush 6, 2) := by decide +kernel
theorem dX6_does_135 : decode cX6_does 135 = .ok (.iload_n 2, 1) := by decide +kernel
theorem dX6_does_136 : decode cX6_does 136 = .ok (.imul, 1) := by decide +kernel
theorem dX6_does_137 : decode cX6_does 137 = .ok (.iadd, 1) := by decide +kernel
theorem dX6_does_138 : decode cX6_does 138 = .ok (.iconst 0, 1) := by decide +kernel
theorem dX6_does_139 : decode cX6_does 139 = .ok (.iadd, 1) := by decide +kernel
theorem dX6_does_140 : decode cX6_does 140 = .ok (.iload 5, 2) := by decide +kernel
theorem dX6_does_142 : decode cX6_does 142 = .ok (.iastore, 1) := by decide +kernel
theorem dX6_does_143 : decode cX6_does 143 = .ok (.iconst 1, 1) := by decide +kernel
theorem dX6_does_144 : decode cX6_does 144 = .ok (.ireturn, 1) := by decide +kernel
theorem dX6_does_145 : decode cX6_does 145 = .ok (.aload_n 0, 1) := by decide +kernel
theorem dX6_does_146 : decode cX6_does 146 = .ok (.iload_n 2, 1) := by decide +kernel
theorem dX6_does_147 : decode cX6_does 147 = .ok (.invokevirtual 128, 3) := by decide +kernel
theorem dX6_does_150 : decode cX6_does 150 = .ok (.ifCond .ne 37, 3) := by decide +kernel
theorem dX6_does_153 : decode cX6_does 153 = .ok (.aload_n 0, 1) := by decide +kernel
theorem dX6_does_154 : decode cX6_does 154 = .ok (.iload_n 3, 1) := by decide +kernel
theorem dX6_does_155 : decode cX6_does 155 = .ok (.invokevirtual 128, 3) := by decide +kernel
theorem dX6_does_158 : decode cX6_does 158 = .ok (.ifCond .ne 29, 3) := by decide +kernel
theorem dX6_does_161 : decode cX6_does 161 = .ok (.aload_n 0, 1) := by decide +kernel
theorem dX6_does_162 : decode cX6_does 162 = .ok (.aload_n 0, 1) := by decide +kernel
theorem dX6_does_163 : decode cX6_does 163 = .ok (.getfield 23, 3) := by decide +kernel
theorem dX6_does_166 : decode cX6_does 166 = .ok (.aload_n 0, 1) := by decide +kernel
theorem dX6_does_167 : decode cX6_does 167 = .ok (.getfield 23, 3) := by decide +kernel
theorem dX6_does_170 : decode cX6_does 170 = .ok (.invokestatic 235, 3) := by decide +kernel
theorem dX6_does_173 : decode cX6_does 173 = .ok (.iload_n 2, 1) := by decide +kernel
theorem dX6_does_174 : decode cX6_does 174 = .ok (.iload_n 3, 1) := by decide +kernel
theorem dX6_does_175 : decode cX6_does 175 = .ok (.invokevirtual 238, 3) := by decide +kernel
theorem dX6_does_178 : decode cX6_does 178 = .ok (.iload 4, 2) := by decide +kernel
theorem dX6_does_180 : decode cX6_does 180 = .ok (.if_icmp .lt 7, 3) := by decide +kernel
theorem dX6_does_183 : decode cX6_does 183 = .ok (.iconst 1, 1) := by decide +kernel
theorem dX6_does_184 : decode cX6_does 184 = .ok (.goto 4, 3) := by decide +kernel
theorem dX6_does_187 : decode cX6_does 187 = .ok (.iconst 0, 1) := by decide +kernel
theorem dX6_does_188 : decode cX6_does 188 = .ok (.ireturn, 1) := by decide +kernel
theorem dX6_does_189 : decode cX6_does 189 = .ok (.iload 4, 2) := by decide +kernel
theorem dX6_does_191 : decode cX6_does 191 = .ok (.ifCond .ne 24, 3) := by decide +kernel
theorem dX6_does_194 : decode cX6_does 194 = .ok (.aload_n 0, 1) := by decide +kernel
theorem dX6_does_195 : decode cX6_does 195 = .ok (.aload_n 0, 1) := by decide +kernel
theorem dX6_does_196 : decode cX6_does 196 = .ok (.getfield 23, 3) := by decide +kernel
theorem dX6_does_199 : decode cX6_does 199 = .ok (.invokevirtual 222, 3) := by decide +kernel
theorem dX6_does_202 : decode cX6_does 202 = .ok (.bipush 10, 2) := by decide +kernel
theorem dX6_does_204 : decode cX6_does 204 = .ok (.iload_n 2, 1) := by decide +kernel
theorem dX6_does_205 : decode cX6_does 205 = .ok (.imul, 1) := by decide +kernel
theorem dX6_does_206 : decode cX6_does 206 = .ok (.iload_n 3, 1) := by decide +kernel
theorem dX6_does_207 : decode cX6_does 207 = .ok (.iadd, 1) := by decide +kernel
theorem dX6_does_208 : decode cX6_does 208 = .ok (.if_icmp .ne 7, 3) := by decide +kernel
theorem dX6_does_211 : decode cX6_does 211 = .ok (.iconst 1, 1) := by decide +kernel
theorem dX6_does_212 : decode cX6_does 212 = .ok (.goto 4, 3) := by decide +kernel
theorem dX6_does_215 : decode cX6_does 215 = .ok (.iconst 0, 1) := by decide +kernel
theorem dX6_does_216 : decode cX6_does 216 = .ok (.ireturn, 1) := by decide +kernel
theorem dX6_does_217 : decode cX6_does 217 = .ok (.iload 6, 2) := by decide +kernel
theorem dX6_does_219 : decode cX6_does 219 = .ok (.ifCond .eq 24, 3) := by decide +kernel
theorem dX6_does_222 : decode cX6_does 222 = .ok (.iload 5, 2) := by decide +kernel
theorem dX6_does_224 : decode cX6_does 224 = .ok (.ifCond .ne 19, 3) := by decide +kernel
theorem dX6_does_227 : decode cX6_does 227 = .ok (.aload_n 0, 1) := by decide +kernel
theorem dX6_does_228 : decode cX6_does 228 = .ok (.aload_n 0, 1) := by decide +kernel
theorem dX6_does_229 : decode cX6_does 229 = .ok (.getfield 23, 3) := by decide +kernel
theorem dX6_does_232 : decode cX6_does 232 = .ok (.iload_n 2, 1) := by decide +kernel
theorem dX6_does_233 : decode cX6_does 233 = .ok (.invokevirtual 241, 3) := by decide +kernel
theorem dX6_does_236 : decode cX6_does 236 = .ok (.ifCond .eq 7, 3) := by decide +kernel
theorem dX6_does_239 : decode cX6_does 239 = .ok (.iconst 1, 1) := by decide +kernel
theorem dX6_does_240 : decode cX6_does 240 = .ok (.goto 4, 3) := by decide +kernel
theorem dX6_does_243 : decode cX6_does 243 = .ok (.iconst 0, 1) := by decide +kernel
theorem dX6_does_244 : decode cX6_does 244 = .ok (.ireturn, 1) := by decide +kernel
theorem dX6_does_245 : decode cX6_does 245 = .ok (.aload_n 0, 1) := by decide +kernel
theorem dX6_does_246 : decode cX6_does 246 = .ok (.iload_n 2, 1) := by decide +kernel
theorem dX6_does_247 : decode cX6_does 247 = .ok (.invokevirtual 128, 3) := by decide +kernel
theorem dX6_does_250 : decode cX6_does 250 = .ok (.ifCond .ne 51, 3) := by decide +kernel
theorem dX6_does_253 : decode cX6_does 253 = .ok (.iload_n 3, 1) := by decide +kernel
theorem dX6_does_254 : decode cX6_does 254 = .ok (.ifCond .le 47, 3) := by decide +kernel
theorem dX6_does_257 : decode cX6_does 257 = .ok (.iload 4, 2) := by decide +kernel
theorem dX6_does_259 : decode cX6_does 259 = .ok (.iconst 2, 1) := by decide +kernel
theorem dX6_does_260 : decode cX6_does 260 = .ok (.if_icmp .ge 41, 3) := by decide +kernel
theorem dX6_does_263 : decode cX6_does 263 = .ok (.aload_n 0, 1) := by decide +kernel
theorem dX6_does_264 : decode cX6_does 264 = .ok (.aload_n 0, 1) := by decide +kernel
theorem dX6_does_265 : decode cX6_does 265 = .ok (.getfield 23, 3) := by decide +kernel
theorem dX6_does_268 : decode cX6_does 268 = .ok (.aload_n 0, 1) := by decide +kernel
theorem dX6_does_269 : decode cX6_does 269 = .ok (.getfield 23, 3) := by decide +kernel
theorem dX6_does_272 : decode cX6_does 272 = .ok (.invokestatic 235, 3) := by decide +kernel
theorem dX6_does_275 : decode cX6_does 275 = .ok (.iload_n 3, 1) := by decide +kernel
theorem dX6_does_276 : decode cX6_does 276 = .ok (.invokevirtual 147, 3) := by decide +kernel
theorem dX6_does_279 : decode cX6_does 279 = .ok (.iload_n 2, 1) := by decide +kernel
theorem dX6_does_280 : decode cX6_does 280 = .ok (.invokestatic 144, 3) := by decide +kernel
theorem dX6_does_283 : decode cX6_does 283 = .ok (.iload 4, 2) := by decide +kernel
theorem dX6_does_285 : decode cX6_does 285 = .ok (.iconst 1, 1) := by decide +kernel
theorem dX6_does_286 : decode cX6_does 286 = .ok (.if_icmp .ne 7, 3) := by decide +kernel
theorem dX6_does_289 : decode cX6_does 289 = .ok (.iconst 1, 1) := by decide +kernel
theorem dX6_does_290 : decode cX6_does 290 = .ok (.goto 4, 3) := by decide +kernel
theorem dX6_does_293 : decode cX6_does 293 = .ok (.iconst 0, 1) := by decide +kernel
theorem dX6_does_294 : decode cX6_does 294 = .ok (.if_icmp .ne 7, 3) := by decide +kernel
theorem dX6_does_297 : decode cX6_does 297 = .ok (.iconst 1, 1) := by decide +kernel
theorem dX6_does_298 : decode cX6_does 298 = .ok (.goto 4, 3) := by decide +kernel
theorem dX6_does_301 : decode cX6_does 301 = .ok (.iconst 0, 1) := by decide +kernel
theorem dX6_does_302 : decode cX6_does 302 = .ok (.ireturn, 1) := by decide +kernel
theorem dX6_does_303 : decode cX6_does 303 = .ok (.iconst 0, 1) := by decide +kernel
theorem dX6_does_304 : decode cX6_does 304 = .ok (.ireturn, 1) := by decide +kernel
theorem dX6_longPower_0 : decode cX6_longPower 0 = .ok (.lconst 1, 1) := by decide +kernel
theorem dX6_longPower_1 : decode cX6_longPower 1 = .ok (.lstore_n 3, 1) := by decide +kernel
theorem dX6_longPower_2 : decode cX6_longPower 2 = .ok (.iconst 0, 1) := by decide +kernel
theorem dX6_longPower_3 : decode cX6_longPower 3 = .ok (.istore 5, 2) := by decide +kernel
theorem dX6_longPower_5 : decode cX6_longPower 5 = .ok (.iload 5, 2) := by decide +kernel
theorem dX6_longPower_7 : decode cX6_longPower 7 = .ok (.iload_n 2, 1) := by decide +kernel
theorem dX6_longPower_8 : decode cX6_longPower 8 = .ok (.if_icmp .ge 13, 3) := by decide +kernel
theorem dX6_longPower_11 : decode cX6_longPower 11 = .ok (.lload_n 3, 1) := by decide +kernel
theorem dX6_longPower_12 : decode cX6_longPower 12 = .ok (.lload_n 0, 1) := by decide +kernel
theorem dX6_longPower_13 : decode cX6_longPower 13 = .ok (.lmul, 1) := by decide +kernel
theorem dX6_longPower_14 : decode cX6_longPower 14 = .ok (.lstore_n 3, 1) := by decide +kernel
theorem dX6_longPower_15 : decode cX6_longPower 15 = .ok (.iinc 5 1, 3) := by decide +kernel
theorem dX6_longPower_18 : decode cX6_longPower 18 = .ok (.goto (-13), 3) := by decide +kernel
theorem dX6_longPower_21 : decode cX6_longPower 21 = .ok (.lload_n 3, 1) := by decide +kernel
theorem dX6_longPower_22 : decode cX6_longPower 22 = .ok (.lreturn, 1) := by decide +kernel
set_option maxRecDepth 20000 in
theorem ggX6_judge_X6_in : GoodIn wsX6_judge wsX6_in := goodIn_r _ [7] (by decide +kernel) (by decide +kernel)
set_option maxRecDepth 20000 in
theorem gX6_judge_X6_in : GoodIn wsX6_judge (va_wsS RX6 70 yX6_in wsX6_in) := goodIn_app (goodIn_of _ (by decide +kernel)) ggX6_judge_X6_in
set_option maxRecDepth 20000 in
theorem ggX6_judge_X6_longPower : GoodIn wsX6_judge wsX6_longPower := goodIn_r _ [10] (by decide +kernel) (by decide +kernel)
set_option maxRecDepth 20000 in
theorem gX6_judge_X6_longPower : GoodIn wsX6_judge (va_wsS RX6 247 yX6_longPower wsX6_longPower) := goodIn_app (goodIn_of _ (by decide +kernel)) ggX6_judge_X6_longPower
set_option maxRecDepth 20000 in
theorem ggX6_judge_X6_layTrial : GoodIn wsX6_judge wsX6_layTrial := goodIn_r _ [14, 15, 16, 92, 93, 94, 95, 96, 97, 98, 99, 100, 101, 102, 103, 104, 105, 106, 107, 108, 109, 110, 111, 112, 113, 114, 115, 116, 117, 118, 119] (by decide +kernel) (by decide +kernel)
set_option maxRecDepth 20000 in
theorem gX6_judge_X6_layTrial : GoodIn wsX6_judge (wsV RX6 251 RX6 yX6_layTrial wsX6_layTrial) := goodIn_app (goodIn_of _ (by decide +kernel)) ggX6_judge_X6_layTrial
set_option maxRecDepth 20000 in
theorem ggX6_judge_X6_does : GoodIn wsX6_judge wsX6_does := goodIn_r _ [20, 15, 21, 22, 6, 23, 24, 25, 26, 27, 28, 4, 5, 7, 29, 30, 31, 32, 33, 34, 35, 36, 37, 38, 39, 40, 41, 42, 43, 44, 45, 46, 47, 48, 49, 50, 51, 52, 53, 54, 55, 56, 57, 58, 59, 60, 61, 62, 63, 64, 65, 66, 67, 68, 69, 70, 71, 72, 73, 74, 75, 76, 77, 78, 79, 80, 81, 82, 83, 84, 85, 86, 87, 88, 89, 90, 91, 92, 93, 94, 95, 96, 97, 98, 99, 100, 101, 102, 103, 104, 105, 106, 107, 108, 109, 110, 111, 112, 113, 114, 115, 116, 117, 118, 119] (by decide +kernel) (by decide +kernel)
set_option maxRecDepth 20000 in
theorem gX6_judge_X6_does : GoodIn wsX6_judge (wsV RX6 254 RX6 yX6_does wsX6_does) := goodIn_app (goodIn_of _ (by decide +kernel)) ggX6_judge_X6_does
theorem dX6_judge_0 : decode cX6_judge 0 = .ok (.aload_n 0, 1) := by decide +kernel
theorem dX6_judge_1 : decode cX6_judge 1 = .ok (.iconst 0, 1) := by decide +kernel
theorem dX6_judge_2 : decode cX6_judge 2 = .ok (.putfield 67, 3) := by decide +kernel
theorem dX6_judge_5 : decode cX6_judge 5 = .ok (.iload_n 1, 1) := by decide +kernel
theorem dX6_judge_6 : decode cX6_judge 6 = .ok (.i2l, 1) := by decide +kernel
theorem dX6_judge_7 : decode cX6_judge 7 = .ok (.lconst 1, 1) := by decide +kernel
theorem dX6_judge_8 : decode cX6_judge 8 = .ok (.ldc2_w 126, 3) := by decide +kernel
theorem dX6_judge_11 : decode cX6_judge 11 = .ok (.invokestatic 70, 3) := by decide +kernel
theorem dX6_judge_14 : decode cX6_judge 14 = .ok (.ifCond .eq 20, 3) := by decide +kernel
theorem dX6_judge_17 : decode cX6_judge 17 = .ok (.lload_n 2, 1) := by decide +kernel
theorem dX6_judge_18 : decode cX6_judge 18 = .ok (.lconst 0, 1) := by decide +kernel
theorem dX6_judge_19 : decode cX6_judge 19 = .ok (.ldc2_w 245, 3) := by decide +kernel
theorem dX6_judge_22 : decode cX6_judge 22 = .ok (.iload_n 1, 1) := by decide +kernel
theorem dX6_judge_23 : decode cX6_judge 23 = .ok (.invokestatic 247, 3) := by decide +kernel
theorem dX6_judge_26 : decode cX6_judge 26 = .ok (.lconst 1, 1) := by decide +kernel
theorem dX6_judge_27 : decode cX6_judge 27 = .ok (.lsub, 1) := by decide +kernel
theorem dX6_judge_28 : decode cX6_judge 28 = .ok (.invokestatic 70, 3) := by decide +kernel
theorem dX6_judge_31 : decode cX6_judge 31 = .ok (.ifCond .ne 6, 3) := by decide +kernel
theorem dX6_judge_34 : decode cX6_judge 34 = .ok (.bipush (-2), 2) := by decide +kernel
theorem dX6_judge_36 : decode cX6_judge 36 = .ok (.ireturn, 1) := by decide +kernel
theorem dX6_judge_37 : decode cX6_judge 37 = .ok (.aload_n 0, 1) := by decide +kernel
theorem dX6_judge_38 : decode cX6_judge 38 = .ok (.invokevirtual 251, 3) := by decide +kernel
theorem dX6_judge_41 : decode cX6_judge 41 = .ok (.iconst 0, 1) := by decide +kernel
theorem dX6_judge_42 : decode cX6_judge 42 = .ok (.istore 4, 2) := by decide +kernel
theorem dX6_judge_44 : decode cX6_judge 44 = .ok (.iload 4, 2) := by decide +kernel
theorem dX6_judge_46 : decode cX6_judge 46 = .ok (.iload_n 1, 1) := by decide +kernel
theorem dX6_judge_47 : decode cX6_judge 47 = .ok (.if_icmp .ge 67, 3) := by decide +kernel
theorem dX6_judge_50 : decode cX6_judge 50 = .ok (.lload_n 2, 1) := by decide +kernel
theorem dX6_judge_51 : decode cX6_judge 51 = .ok (.ldc2_w 245, 3) := by decide +kernel
theorem dX6_judge_54 : decode cX6_judge 54 = .ok (.iload_n 1, 1) := by decide +kernel
theorem dX6_judge_55 : decode cX6_judge 55 = .ok (.iconst 1, 1) := by decide +kernel
theorem dX6_judge_56 : decode cX6_judge 56 = .ok (.isub, 1) := by decide +kernel
theorem dX6_judge_57 : decode cX6_judge 57 = .ok (.iload 4, 2) := by decide +kernel
theorem dX6_judge_59 : decode cX6_judge 59 = .ok (.isub, 1) := by decide +kernel
theorem dX6_judge_60 : decode cX6_judge 60 = .ok (.invokestatic 247, 3) := by decide +kernel
theorem dX6_judge_63 : decode cX6_judge 63 = .ok (.ldiv, 1) := by decide +kernel
theorem dX6_judge_64 : decode cX6_judge 64 = .ok (.ldc2_w 245, 3) := by decide +kernel
theorem dX6_judge_67 : decode cX6_judge 67 = .ok (.lrem, 1) := by decide +kernel
theorem dX6_judge_68 : decode cX6_judge 68 = .ok (.l2i, 1) := by decide +kernel
theorem dX6_judge_69 : decode cX6_judge 69 = .ok (.istore 5, 2) := by decide +kernel
theorem dX6_judge_71 : decode cX6_judge 71 = .ok (.aload_n 0, 1) := by decide +kernel
theorem dX6_judge_72 : decode cX6_judge 72 = .ok (.iload 5, 2) := by decide +kernel
theorem dX6_judge_74 : decode cX6_judge 74 = .ok (.sipush 1000, 3) := by decide +kernel
theorem dX6_judge_77 : decode cX6_judge 77 = .ok (.idiv, 1) := by decide +kernel
theorem dX6_judge_78 : decode cX6_judge 78 = .ok (.iload 5, 2) := by decide +kernel
theorem dX6_judge_80 : decode cX6_judge 80 = .ok (.bipush 100, 2) := by decide +kernel
theorem dX6_judge_82 : decode cX6_judge 82 = .ok (.idiv, 1) := by decide +kernel
theorem dX6_judge_83 : decode cX6_judge 83 = .ok (.bipush 10, 2) := by decide +kernel
theorem dX6_judge_85 : decode cX6_judge 85 = .ok (.irem, 1) := by decide +kernel
theorem dX6_judge_86 : decode cX6_judge 86 = .ok (.iload 5, 2) := by decide +kernel
theorem dX6_judge_88 : decode cX6_judge 88 = .ok (.bipush 10, 2) := by decide +kernel
theorem dX6_judge_90 : decode cX6_judge 90 = .ok (.idiv, 1) := by decide +kernel
theorem dX6_judge_91 : decode cX6_judge 91 = .ok (.bipush 10, 2) := by decide +kernel
theorem dX6_judge_93 : decode cX6_judge 93 = .ok (.irem, 1) := by decide +kernel
theorem dX6_judge_94 : decode cX6_judge 94 = .ok (.iload 5, 2) := by decide +kernel
theorem dX6_judge_96 : decode cX6_judge 96 = .ok (.bipush 10, 2) := by decide +kernel
theorem dX6_judge_98 : decode cX6_judge 98 = .ok (.irem, 1) := by decide +kernel
theorem dX6_judge_99 : decode cX6_judge 99 = .ok (.invokevirtual 254, 3) := by decide +kernel
theorem dX6_judge_102 : decode cX6_judge 102 = .ok (.ifCond .ne 6, 3) := by decide +kernel
theorem dX6_judge_105 : decode cX6_judge 105 = .ok (.iload 4, 2) := by decide +kernel
theorem dX6_judge_107 : decode cX6_judge 107 = .ok (.ireturn, 1) := by decide +kernel
theorem dX6_judge_108 : decode cX6_judge 108 = .ok (.iinc 4 1, 3) := by decide +kernel
theorem dX6_judge_111 : decode cX6_judge 111 = .ok (.goto (-67), 3) := by decide +kernel
theorem dX6_judge_114 : decode cX6_judge 114 = .ok (.bipush (-9), 2) := by decide +kernel
theorem dX6_judge_116 : decode cX6_judge 116 = .ok (.ireturn, 1) := by decide +kernel
set_option maxRecDepth 20000 in
theorem ggX6_see_X6_noStation : GoodIn wsX6_see wsX6_noStation := goodIn_r _ [12, 13, 14, 15, 11, 16, 17, 18, 19, 20, 21, 22, 23, 24, 25, 26, 27, 28, 29, 30, 31, 32, 33, 34, 35, 36, 37, 38, 39, 40, 41, 42, 43, 44] (by decide +kernel) (by decide +kernel)
set_option maxRecDepth 20000 in
theorem gX6_see_X6_noStation : GoodIn wsX6_see (wsV RX6 128 RX6 yX6_noStation wsX6_noStation) := goodIn_app (goodIn_of _ (by decide +kernel)) ggX6_see_X6_noStation
set_option maxRecDepth 20000 in
theorem ggX6_see_X6_in : GoodIn wsX6_see wsX6_in := goodIn_r _ [16] (by decide +kernel) (by decide +kernel)
set_option maxRecDepth 20000 in
theorem gX6_see_X6_in : GoodIn wsX6_see (va_wsS RX6 70 yX6_in wsX6_in) := goodIn_app (goodIn_of _ (by decide +kernel)) ggX6_see_X6_in
theorem dX6_see_0 : decode cX6_see 0 = .ok (.aload_n 0, 1) := by decide +kernel
theorem dX6_see_1 : decode cX6_see 1 = .ok (.iconst 0, 1) := by decide +kernel
theorem dX6_see_2 : decode cX6_see 2 = .ok (.putfield 67, 3) := by decide +kernel
theorem dX6_see_5 : decode cX6_see 5 = .ok (.aload_n 0, 1) := by decide +kernel
theorem dX6_see_6 : decode cX6_see 6 = .ok (.iload_n 1, 1) := by decide +kernel
theorem dX6_see_7 : decode cX6_see 7 = .ok (.invokevirtual 128, 3) := by decide +kernel
theorem dX6_see_10 : decode cX6_see 10 = .ok (.ifCond .ne 11, 3) := by decide +kernel
theorem dX6_see_13 : decode cX6_see 13 = .ok (.aload_n 0, 1) := by decide +kernel
theorem dX6_see_14 : decode cX6_see 14 = .ok (.iload_n 2, 1) := by decide +kernel
theorem dX6_see_15 : decode cX6_see 15 = .ok (.invokevirtual 128, 3) := by decide +kernel
theorem dX6_see_18 : decode cX6_see 18 = .ok (.ifCond .eq 5, 3) := by decide +kernel
theorem dX6_see_21 : decode cX6_see 21 = .ok (.iconst (-1), 1) := by decide +kernel
theorem dX6_see_22 : decode cX6_see 22 = .ok (.ireturn, 1) := by decide +kernel
theorem dX6_see_23 : decode cX6_see 23 = .ok (.iload_n 3, 1) := by decide +kernel
theorem dX6_see_24 : decode cX6_see 24 = .ok (.i2l, 1) := by decide +kernel
theorem dX6_see_25 : decode cX6_see 25 = .ok (.lconst 0, 1) := by decide +kernel
theorem dX6_see_26 : decode cX6_see 26 = .ok (.ldc2_w 258, 3) := by decide +kernel
theorem dX6_see_29 : decode cX6_see 29 = .ok (.invokestatic 70, 3) := by decide +kernel
theorem dX6_see_32 : decode cX6_see 32 = .ok (.ifCond .eq 14, 3) := by decide +kernel
theorem dX6_see_35 : decode cX6_see 35 = .ok (.iload 4, 2) := by decide +kernel
theorem dX6_see_37 : decode cX6_see 37 = .ok (.i2l, 1) := by decide +kernel
theorem dX6_see_38 : decode cX6_see 38 = .ok (.lconst 0, 1) := by decide +kernel
theorem dX6_see_39 : decode cX6_see 39 = .ok (.lconst 1, 1) := by decide +kernel
theorem dX6_see_40 : decode cX6_see 40 = .ok (.invokestatic 70, 3) := by decide +kernel
theorem dX6_see_43 : decode cX6_see 43 = .ok (.ifCond .ne 6, 3) := by decide +kernel
theorem dX6_see_46 : decode cX6_see 46 = .ok (.bipush (-2), 2) := by decide +kernel
theorem dX6_see_48 : decode cX6_see 48 = .ok (.ireturn, 1) := by decide +kernel
theorem dX6_see_49 : decode cX6_see 49 = .ok (.aload_n 0, 1) := by decide +kernel
theorem dX6_see_50 : decode cX6_see 50 = .ok (.getfield 260, 3) := by decide +kernel
theorem dX6_see_53 : decode cX6_see 53 = .ok (.bipush 6, 2) := by decide +kernel
theorem dX6_see_55 : decode cX6_see 55 = .ok (.if_icmp .ne 6, 3) := by decide +kernel
theorem dX6_see_58 : decode cX6_see 58 = .ok (.bipush (-4), 2) := by decide +kernel
theorem dX6_see_60 : decode cX6_see 60 = .ok (.ireturn, 1) := by decide +kernel
theorem dX6_see_61 : decode cX6_see 61 = .ok (.aload_n 0, 1) := by decide +kernel
theorem dX6_see_62 : decode cX6_see 62 = .ok (.getfield 36, 3) := by decide +kernel
theorem dX6_see_65 : decode cX6_see 65 = .ok (.aload_n 0, 1) := by decide +kernel
theorem dX6_see_66 : decode cX6_see 66 = .ok (.getfield 260, 3) := by decide +kernel
theorem dX6_see_69 : decode cX6_see 69 = .ok (.iload_n 1, 1) := by decide +kernel
theorem dX6_see_70 : decode cX6_see 70 = .ok (.iastore, 1) := by decide +kernel
theorem dX6_see_71 : decode cX6_see 71 = .ok (.aload_n 0, 1) := by decide +kernel
theorem dX6_see_72 : decode cX6_see 72 = .ok (.getfield 39, 3) := by decide +kernel
theorem dX6_see_75 : decode cX6_see 75 = .ok (.aload_n 0, 1) := by decide +kernel
theorem dX6_see_76 : decode cX6_see 76 = .ok (.getfield 260, 3) := by decide +kernel
theorem dX6_see_79 : decode cX6_see 79 = .ok (.iload_n 2, 1) := by decide +kernel
theorem dX6_see_80 : decode cX6_see 80 = .ok (.iastore, 1) := by decide +kernel
theorem dX6_see_81 : decode cX6_see 81 = .ok (.aload_n 0, 1) := by decide +kernel
theorem dX6_see_82 : decode cX6_see 82 = .ok (.getfield 42, 3) := by decide +kernel
theorem dX6_see_85 : decode cX6_see 85 = .ok (.aload_n 0, 1) := by decide +kernel
theorem dX6_see_86 : decode cX6_see 86 = .ok (.getfield 260, 3) := by decide +kernel
theorem dX6_see_89 : decode cX6_see 89 = .ok (.iload_n 3, 1) := by decide +kernel
theorem dX6_see_90 : decode cX6_see 90 = .ok (.iastore, 1) := by decide +kernel
theorem dX6_see_91 : decode cX6_see 91 = .ok (.aload_n 0, 1) := by decide +kernel
theorem dX6_see_92 : decode cX6_see 92 = .ok (.getfield 45, 3) := by decide +kernel
theorem dX6_see_95 : decode cX6_see 95 = .ok (.aload_n 0, 1) := by decide +kernel
theorem dX6_see_96 : decode cX6_see 96 = .ok (.getfield 260, 3) := by decide +kernel
theorem dX6_see_99 : decode cX6_see 99 = .ok (.iload 4, 2) := by decide +kernel
theorem dX6_see_101 : decode cX6_see 101 = .ok (.iastore, 1) := by decide +kernel
theorem dX6_see_102 : decode cX6_see 102 = .ok (.aload_n 0, 1) := by decide +kernel
theorem dX6_see_103 : decode cX6_see 103 = .ok (.dup, 1) := by decide +kernel
theorem dX6_see_104 : decode cX6_see 104 = .ok (.getfield 260, 3) := by decide +kernel
theorem dX6_see_107 : decode cX6_see 107 = .ok (.iconst 1, 1) := by decide +kernel
theorem dX6_see_108 : decode cX6_see 108 = .ok (.iadd, 1) := by decide +kernel
theorem dX6_see_109 : decode cX6_see 109 = .ok (.putfield 260, 3) := by decide +kernel
theorem dX6_see_112 : decode cX6_see 112 = .ok (.aload_n 0, 1) := by decide +kernel
theorem dX6_see_113 : decode cX6_see 113 = .ok (.getfield 260, 3) := by decide +kernel
theorem dX6_see_116 : decode cX6_see 116 = .ok (.ireturn, 1) := by decide +kernel
theorem dX6_unsee_0 : decode cX6_unsee 0 = .ok (.aload_n 0, 1) := by decide +kernel
theorem dX6_unsee_1 : decode cX6_unsee 1 = .ok (.iconst 0, 1) := by decide +kernel
theorem dX6_unsee_2 : decode cX6_unsee 2 = .ok (.putfield 67, 3) := by decide +kernel
theorem dX6_unsee_5 : decode cX6_unsee 5 = .ok (.aload_n 0, 1) := by decide +kernel
theorem dX6_unsee_6 : decode cX6_unsee 6 = .ok (.getfield 260, 3) := by decide +kernel
theorem dX6_unsee_9 : decode cX6_unsee 9 = .ok (.istore_n 1, 1) := by decide +kernel
theorem dX6_unsee_10 : decode cX6_unsee 10 = .ok (.aload_n 0, 1) := by decide +kernel
theorem dX6_unsee_11 : decode cX6_unsee 11 = .ok (.iconst 0, 1) := by decide +kernel
theorem dX6_unsee_12 : decode cX6_unsee 12 = .ok (.putfield 260, 3) := by decide +kernel
theorem dX6_unsee_15 : decode cX6_unsee 15 = .ok (.iload_n 1, 1) := by decide +kernel
theorem dX6_unsee_16 : decode cX6_unsee 16 = .ok (.ireturn, 1) := by decide +kernel
set_option maxRecDepth 20000 in
theorem ggX6_isSo_X6_noStation : GoodIn wsX6_isSo wsX6_noStation := goodIn_r _ [10, 11, 12, 13, 9, 14, 35, 36, 37, 38, 39, 40, 41, 42, 43, 44, 45, 46, 47, 48, 49, 50, 51, 52, 53, 54, 55, 56, 57, 58, 59, 60, 61, 62] (by decide +kernel) (by decide +kernel)
set_option maxRecDepth 20000 in
theorem gX6_isSo_X6_noStation : GoodIn wsX6_isSo (wsV RX6 128 RX6 yX6_noStation wsX6_noStation) := goodIn_app (goodIn_of _ (by decide +kernel)) ggX6_isSo_X6_noStation
set_option maxRecDepth 20000 in
theorem ggX6_isSo_X6_openOnes : GoodIn wsX6_isSo wsX6_openOnes := goodIn_r _ [17, 18, 19, 9, 20] (by decide +kernel) (by decide +kernel)
set_option maxRecDepth 20000 in
theorem gX6_isSo_X6_openOnes : GoodIn wsX6_isSo (va_wsS RX6 235 yX6_openOnes wsX6_openOnes) := goodIn_app (goodIn_of _ (by decide +kernel)) ggX6_isSo_X6_openOnes
set_option maxRecDepth 20000 in
theorem ggX6_isSo_X6_widestBy : GoodIn wsX6_isSo wsX6_widestBy := goodIn_r _ [24, 25, 26, 27, 9, 28, 29, 30, 31, 32, 33, 34] (by decide +kernel) (by decide +kernel)
set_option maxRecDepth 20000 in
theorem gX6_isSo_X6_widestBy : GoodIn wsX6_isSo (wsV RX6 238 RX6 yX6_widestBy wsX6_widestBy) := goodIn_app (goodIn_of _ (by decide +kernel)) ggX6_isSo_X6_widestBy
theorem dX6_isSo_0 : decode cX6_isSo 0 = .ok (.aload_n 0, 1) := by decide +kernel
theorem dX6_isSo_1 : decode cX6_isSo 1 = .ok (.aload_n 0, 1) := by decide +kernel
theorem dX6_isSo_2 : decode cX6_isSo 2 = .ok (.getfield 36, 3) := by decide +kernel
theorem dX6_isSo_5 : decode cX6_isSo 5 = .ok (.iload_n 2, 1) := by decide +kernel
theorem dX6_isSo_6 : decode cX6_isSo 6 = .ok (.iaload, 1) := by decide +kernel
theorem dX6_isSo_7 : decode cX6_isSo 7 = .ok (.invokevirtual 128, 3) := by decide +kernel
theorem dX6_isSo_10 : decode cX6_isSo 10 = .ok (.ifCond .ne 16, 3) := by decide +kernel
theorem dX6_isSo_13 : decode cX6_isSo 13 = .ok (.aload_n 0, 1) := by decide +kernel
theorem dX6_isSo_14 : decode cX6_isSo 14 = .ok (.aload_n 0, 1) := by decide +kernel
theorem dX6_isSo_15 : decode cX6_isSo 15 = .ok (.getfield 39, 3) := by decide +kernel
theorem dX6_isSo_18 : decode cX6_isSo 18 = .ok (.iload_n 2, 1) := by decide +kernel
theorem dX6_isSo_19 : decode cX6_isSo 19 = .ok (.iaload, 1) := by decide +kernel
theorem dX6_isSo_20 : decode cX6_isSo 20 = .ok (.invokevirtual 128, 3) := by decide +kernel
theorem dX6_isSo_23 : decode cX6_isSo 23 = .ok (.ifCond .eq 5, 3) := by decide +kernel
theorem dX6_isSo_26 : decode cX6_isSo 26 = .ok (.iconst 1, 1) := by decide +kernel
theorem dX6_isSo_27 : decode cX6_isSo 27 = .ok (.ireturn, 1) := by decide +kernel
theorem dX6_isSo_28 : decode cX6_isSo 28 = .ok (.aload_n 0, 1) := by decide +kernel
theorem dX6_isSo_29 : decode cX6_isSo 29 = .ok (.aload_n 0, 1) := by decide +kernel
theorem dX6_isSo_30 : decode cX6_isSo 30 = .ok (.getfield 20, 3) := by decide +kernel
theorem dX6_isSo_33 : decode cX6_isSo 33 = .ok (.aload_n 0, 1) := by decide +kernel
theorem dX6_isSo_34 : decode cX6_isSo 34 = .ok (.getfield 20, 3) := by decide +kernel
theorem dX6_isSo_37 : decode cX6_isSo 37 = .ok (.invokestatic 235, 3) := by decide +kernel
theorem dX6_isSo_40 : decode cX6_isSo 40 = .ok (.iconst 1, 1) := by decide +kernel
theorem dX6_isSo_41 : decode cX6_isSo 41 = .ok (.iload_n 1, 1) := by decide +kernel
theorem dX6_isSo_42 : decode cX6_isSo 42 = .ok (.ishl, 1) := by decide +kernel
theorem dX6_isSo_43 : decode cX6_isSo 43 = .ok (.iconst (-1), 1) := by decide +kernel
theorem dX6_isSo_44 : decode cX6_isSo 44 = .ok (.ixor, 1) := by decide +kernel
theorem dX6_isSo_45 : decode cX6_isSo 45 = .ok (.iand, 1) := by decide +kernel
theorem dX6_isSo_46 : decode cX6_isSo 46 = .ok (.aload_n 0, 1) := by decide +kernel
theorem dX6_isSo_47 : decode cX6_isSo 47 = .ok (.getfield 36, 3) := by decide +kernel
theorem dX6_isSo_50 : decode cX6_isSo 50 = .ok (.iload_n 2, 1) := by decide +kernel
theorem dX6_isSo_51 : decode cX6_isSo 51 = .ok (.iaload, 1) := by decide +kernel
theorem dX6_isSo_52 : decode cX6_isSo 52 = .ok (.aload_n 0, 1) := by decide +kernel
theorem dX6_isSo_53 : decode cX6_isSo 53 = .ok (.getfield 39, 3) := by decide +kernel
theorem dX6_isSo_56 : decode cX6_isSo 56 = .ok (.iload_n 2, 1) := by decide +kernel
theorem dX6_isSo_57 : decode cX6_isSo 57 = .ok (.iaload, 1) := by decide +kernel
theorem dX6_isSo_58 : decode cX6_isSo 58 = .ok (.invokevirtual 238, 3) := by decide +kernel
theorem dX6_isSo_61 : decode cX6_isSo 61 = .ok (.istore_n 3, 1) := by decide +kernel
theorem dX6_isSo_62 : decode cX6_isSo 62 = .ok (.iload_n 3, 1) := by decide +kernel
theorem dX6_isSo_63 : decode cX6_isSo 63 = .ok (.aload_n 0, 1) := by decide +kernel
theorem dX6_isSo_64 : decode cX6_isSo 64 = .ok (.getfield 42, 3) := by decide +kernel
theorem dX6_isSo_67 : decode cX6_isSo 67 = .ok (.iload_n 2, 1) := by decide +kernel
theorem dX6_isSo_68 : decode cX6_isSo 68 = .ok (.iaload, 1) := by decide +kernel
theorem dX6_isSo_69 : decode cX6_isSo 69 = .ok (.if_icmp .ne 7, 3) := by decide +kernel
theorem dX6_isSo_72 : decode cX6_isSo 72 = .ok (.iconst 1, 1) := by decide +kernel
theorem dX6_isSo_73 : decode cX6_isSo 73 = .ok (.goto 4, 3) := by decide +kernel
theorem dX6_isSo_76 : decode cX6_isSo 76 = .ok (.iconst 0, 1) := by decide +kernel
theorem dX6_isSo_77 : decode cX6_isSo 77 = .ok (.aload_n 0, 1) := by decide +kernel
theorem dX6_isSo_78 : decode cX6_isSo 78 = .ok (.getfield 45, 3) := by decide +kernel
theorem dX6_isSo_81 : decode cX6_isSo 81 = .ok (.iload_n 2, 1) := by decide +kernel
theorem dX6_isSo_82 : decode cX6_isSo 82 = .ok (.iaload, 1) := by decide +kernel
theorem dX6_isSo_83 : decode cX6_isSo 83 = .ok (.iconst 1, 1) := by decide +kernel
theorem dX6_isSo_84 : decode cX6_isSo 84 = .ok (.if_icmp .ne 7, 3) := by decide +kernel
theorem dX6_isSo_87 : decode cX6_isSo 87 = .ok (.iconst 1, 1) := by decide +kernel
theorem dX6_isSo_88 : decode cX6_isSo 88 = .ok (.goto 4, 3) := by decide +kernel
theorem dX6_isSo_91 : decode cX6_isSo 91 = .ok (.iconst 0, 1) := by decide +kernel
theorem dX6_isSo_92 : decode cX6_isSo 92 = .ok (.if_icmp .ne 7, 3) := by decide +kernel
theorem dX6_isSo_95 : decode cX6_isSo 95 = .ok (.iconst 1, 1) := by decide +kernel
theorem dX6_isSo_96 : decode cX6_isSo 96 = .ok (.goto 4, 3) := by decide +kernel
theorem dX6_isSo_99 : decode cX6_isSo 99 = .ok (.iconst 0, 1) := by decide +kernel
theorem dX6_isSo_100 : decode cX6_isSo 100 = .ok (.ireturn, 1) := by decide +kernel
set_option maxRecDepth 20000 in
theorem ggX6_which_X6_openOnes : GoodIn wsX6_which wsX6_openOnes := goodIn_r _ [7, 8, 9, 6, 10] (by decide +kernel) (by decide +kernel)
set_option maxRecDepth 20000 in
theorem gX6_which_X6_openOnes : GoodIn wsX6_which (va_wsS RX6 235 yX6_openOnes wsX6_openOnes) := goodIn_app (goodIn_of _ (by decide +kernel)) ggX6_which_X6_openOnes
set_option maxRecDepth 20000 in
theorem ggX6_which_X6_has : GoodIn wsX6_which wsX6_has := goodIn_r _ [13] (by decide +kernel) (by decide +kernel)
set_option maxRecDepth 20000 in
theorem gX6_which_X6_has : GoodIn wsX6_which (va_wsS RX6 144 yX6_has wsX6_has) := goodIn_app (goodIn_of _ (by decide +kernel)) ggX6_which_X6_has
set_option maxRecDepth 20000 in
theorem ggX6_which_X6_isSo : GoodIn wsX6_which wsX6_isSo := goodIn_r _ [17, 18, 19, 2, 20, 21, 22, 23, 24, 6, 25, 26, 27, 28, 29, 4, 5, 7, 8, 9, 10, 30, 31, 32, 33, 34, 35, 36, 37, 38, 39, 40, 11, 12, 13, 41, 42, 43, 44, 45, 46, 47, 48, 49, 50, 51, 52, 53, 54, 55, 56, 57, 58, 59, 60, 61, 62, 63, 64, 65, 66, 67, 68] (by decide +kernel) (by decide +kernel)
set_option maxRecDepth 20000 in
theorem gX6_which_X6_isSo : GoodIn wsX6_which (wsV RX6 263 RX6 yX6_isSo wsX6_isSo) := goodIn_app (goodIn_of _ (by decide +kernel)) ggX6_which_X6_isSo
theorem dX6_which_0 : decode cX6_which 0 = .ok (.aload_n 0, 1) := by decide +kernel
theorem dX6_which_1 : decode cX6_which 1 = .ok (.iconst 0, 1) := by decide +kernel
theorem dX6_which_2 : decode cX6_which 2 = .ok (.putfield 67, 3) := by decide +kernel
theorem dX6_which_5 : decode cX6_which 5 = .ok (.iconst 0, 1) := by decide +kernel
theorem dX6_which_6 : decode cX6_which 6 = .ok (.istore_n 1, 1) := by decide +kernel
theorem dX6_which_7 : decode cX6_which 7 = .ok (.iconst 0, 1) := by decide +kernel
theorem dX6_which_8 : decode cX6_which 8 = .ok (.istore_n 2, 1) := by decide +kernel
theorem dX6_which_9 : decode cX6_which 9 = .ok (.iload_n 2, 1) := by decide +kernel
theorem dX6_which_10 : decode cX6_which 10 = .ok (.aload_n 0, 1) := by decide +kernel
theorem dX6_which_11 : decode cX6_which 11 = .ok (.getfield 20, 3) := by decide +kernel
theorem dX6_which_14 : decode cX6_which 14 = .ok (.iconst 0, 1) := by decide +kernel
theorem dX6_which_15 : decode cX6_which 15 = .ok (.iaload, 1) := by decide +kernel
theorem dX6_which_16 : decode cX6_which 16 = .ok (.if_icmp .ge 73, 3) := by decide +kernel
theorem dX6_which_19 : decode cX6_which 19 = .ok (.aload_n 0, 1) := by decide +kernel
theorem dX6_which_20 : decode cX6_which 20 = .ok (.getfield 20, 3) := by decide +kernel
theorem dX6_which_23 : decode cX6_which 23 = .ok (.invokestatic 235, 3) := by decide +kernel
theorem dX6_which_26 : decode cX6_which 26 = .ok (.iload_n 2, 1) := by decide +kernel
theorem dX6_which_27 : decode cX6_which 27 = .ok (.invokestatic 144, 3) := by decide +kernel
theorem dX6_which_30 : decode cX6_which 30 = .ok (.istore_n 3, 1) := by decide +kernel
theorem dX6_which_31 : decode cX6_which 31 = .ok (.iconst 0, 1) := by decide +kernel
theorem dX6_which_32 : decode cX6_which 32 = .ok (.istore 4, 2) := by decide +kernel
theorem dX6_which_34 : decode cX6_which 34 = .ok (.iload 4, 2) := by decide +kernel
theorem dX6_which_36 : decode cX6_which 36 = .ok (.aload_n 0, 1) := by decide +kernel
theorem dX6_which_37 : decode cX6_which 37 = .ok (.getfield 260, 3) := by decide +kernel
theorem dX6_which_40 : decode cX6_which 40 = .ok (.if_icmp .ge 29, 3) := by decide +kernel
theorem dX6_which_43 : decode cX6_which 43 = .ok (.iload_n 3, 1) := by decide +kernel
theorem dX6_which_44 : decode cX6_which 44 = .ok (.ifCond .eq 17, 3) := by decide +kernel
theorem dX6_which_47 : decode cX6_which 47 = .ok (.aload_n 0, 1) := by decide +kernel
theorem dX6_which_48 : decode cX6_which 48 = .ok (.iload_n 2, 1) := by decide +kernel
theorem dX6_which_49 : decode cX6_which 49 = .ok (.iload 4, 2) := by decide +kernel
theorem dX6_which_51 : decode cX6_which 51 = .ok (.invokevirtual 263, 3) := by decide +kernel
theorem dX6_which_54 : decode cX6_which 54 = .ok (.ifCond .eq 7, 3) := by decide +kernel
theorem dX6_which_57 : decode cX6_which 57 = .ok (.iconst 1, 1) := by decide +kernel
theorem dX6_which_58 : decode cX6_which 58 = .ok (.goto 4, 3) := by decide +kernel
theorem dX6_which_61 : decode cX6_which 61 = .ok (.iconst 0, 1) := by decide +kernel
theorem dX6_which_62 : decode cX6_which 62 = .ok (.istore_n 3, 1) := by decide +kernel
theorem dX6_which_63 : decode cX6_which 63 = .ok (.iinc 4 1, 3) := by decide +kernel
theorem dX6_which_66 : decode cX6_which 66 = .ok (.goto (-32), 3) := by decide +kernel
theorem dX6_which_69 : decode cX6_which 69 = .ok (.iload_n 1, 1) := by decide +kernel
theorem dX6_which_70 : decode cX6_which 70 = .ok (.iload_n 3, 1) := by decide +kernel
theorem dX6_which_71 : decode cX6_which 71 = .ok (.ifCond .eq 9, 3) := by decide +kernel
theorem dX6_which_74 : decode cX6_which 74 = .ok (.iconst 1, 1) := by decide +kernel
theorem dX6_which_75 : decode cX6_which 75 = .ok (.iload_n 2, 1) := by decide +kernel
theorem dX6_which_76 : decode cX6_which 76 = .ok (.ishl, 1) := by decide +kernel
theorem dX6_which_77 : decode cX6_which 77 = .ok (.goto 4, 3) := by decide +kernel
theorem dX6_which_80 : decode cX6_which 80 = .ok (.iconst 0, 1) := by decide +kernel
theorem dX6_which_81 : decode cX6_which 81 = .ok (.ior, 1) := by decide +kernel
theorem dX6_which_82 : decode cX6_which 82 = .ok (.istore_n 1, 1) := by decide +kernel
theorem dX6_which_83 : decode cX6_which 83 = .ok (.iinc 2 1, 3) := by decide +kernel
theorem dX6_which_86 : decode cX6_which 86 = .ok (.goto (-77), 3) := by decide +kernel
theorem dX6_which_89 : decode cX6_which 89 = .ok (.iload_n 1, 1) := by decide +kernel
theorem dX6_which_90 : decode cX6_which 90 = .ok (.ireturn, 1) := by decide +kernel
theorem dX6_factorial_0 : decode cX6_factorial 0 = .ok (.iconst 1, 1) := by decide +kernel
theorem dX6_factorial_1 : decode cX6_factorial 1 = .ok (.istore_n 1, 1) := by decide +kernel
theorem dX6_factorial_2 : decode cX6_factorial 2 = .ok (.iconst 2, 1) := by decide +kernel
theorem dX6_factorial_3 : decode cX6_factorial 3 = .ok (.istore_n 2, 1) := by decide +kernel
theorem dX6_factorial_4 : decode cX6_factorial 4 = .ok (.iload_n 2, 1) := by decide +kernel
theorem dX6_factorial_5 : decode cX6_factorial 5 = .ok (.iload_n 0, 1) := by decide +kernel
theorem dX6_factorial_6 : decode cX6_factorial 6 = .ok (.if_icmp .gt 13, 3) := by decide +kernel
theorem dX6_factorial_9 : decode cX6_factorial 9 = .ok (.iload_n 1, 1) := by decide +kernel
theorem dX6_factorial_10 : decode cX6_factorial 10 = .ok (.iload_n 2, 1) := by decide +kernel
theorem dX6_factorial_11 : decode cX6_factorial 11 = .ok (.imul, 1) := by decide +kernel
theorem dX6_factorial_12 : decode cX6_factorial 12 = .ok (.istore_n 1, 1) := by decide +kernel
theorem dX6_factorial_13 : decode cX6_factorial 13 = .ok (.iinc 2 1, 3) := by decide +kernel
theorem dX6_factorial_16 : decode cX6_factorial 16 = .ok (.goto (-12), 3) := by decide +kernel
theorem dX6_factorial_19 : decode cX6_factorial 19 = .ok (.iload_n 1, 1) := by decide +kernel
theorem dX6_factorial_20 : decode cX6_factorial 20 = .ok (.ireturn, 1) := by decide +kernel
set_option maxRecDepth 20000 in
theorem ggX6_share_X6_noLeg : GoodIn wsX6_share wsX6_noLeg := goodIn_r _ [7, 2, 8, 9, 6, 10, 50, 51, 52, 53, 54, 55, 56, 57, 58, 59, 60, 61, 62, 63, 64, 65, 66, 67, 68, 69, 70, 71, 72, 73, 74, 75, 76, 77] (by decide +kernel) (by decide +kernel)
set_option maxRecDepth 20000 in
theorem gX6_share_X6_noLeg : GoodIn wsX6_share (wsV RX6 113 RX6 yX6_noLeg wsX6_noLeg) := goodIn_app (goodIn_of _ (by decide +kernel)) ggX6_share_X6_noLeg
set_option maxRecDepth 20000 in
theorem ggX6_share_X6_openOnes : GoodIn wsX6_share wsX6_openOnes := goodIn_r _ [13, 14, 15, 6, 16] (by decide +kernel) (by decide +kernel)
set_option maxRecDepth 20000 in
theorem gX6_share_X6_openOnes : GoodIn wsX6_share (va_wsS RX6 235 yX6_openOnes wsX6_openOnes) := goodIn_app (goodIn_of _ (by decide +kernel)) ggX6_share_X6_openOnes
set_option maxRecDepth 20000 in
theorem ggX6_share_X6_has : GoodIn wsX6_share wsX6_has := goodIn_r _ [19] (by decide +kernel) (by decide +kernel)
set_option maxRecDepth 20000 in
theorem gX6_share_X6_has : GoodIn wsX6_share (va_wsS RX6 144 yX6_has wsX6_has) := goodIn_app (goodIn_of _ (by decide +kernel)) ggX6_share_X6_has
set_option maxRecDepth 20000 in
theorem ggX6_share_X6_ones : GoodIn wsX6_share wsX6_ones := goodIn_r _ [22] (by decide +kernel) (by decide +kernel)
set_option maxRecDepth 20000 in
theorem gX6_share_X6_ones : GoodIn wsX6_share (va_wsS RX6 158 yX6_ones wsX6_ones) := goodIn_app (goodIn_of _ (by decide +kernel)) ggX6_share_X6_ones
set_option maxRecDepth 20000 in
theorem ggX6_share_X6_tiedBy : GoodIn wsX6_share wsX6_tiedBy := goodIn_r _ [26, 27, 28, 29, 6, 30, 17, 18, 19, 31, 32, 33] (by decide +kernel) (by decide +kernel)
set_option maxRecDepth 20000 in
theorem gX6_share_X6_tiedBy : GoodIn wsX6_share (wsV RX6 154 RX6 yX6_tiedBy wsX6_tiedBy) := goodIn_app (goodIn_of _ (by decide +kernel)) ggX6_share_X6_tiedBy
set_option maxRecDepth 20000 in
theorem ggX6_share_X6_factorial : GoodIn wsX6_share wsX6_factorial := goodIn_r _ [36] (by decide +kernel) (by decide +kernel)
set_option maxRecDepth 20000 in
theorem gX6_share_X6_factorial : GoodIn wsX6_share (va_wsS RX6 266 yX6_factorial wsX6_factorial) := goodIn_app (goodIn_of _ (by decide +kernel)) ggX6_share_X6_factorial
set_option maxRecDepth 20000 in
theorem ggX6_share_X6_layFraction : GoodIn wsX6_share wsX6_layFraction := goodIn_r _ [40, 41, 42, 43, 44, 6, 45, 50, 51, 52, 53, 54, 55, 56, 57, 58, 59, 60, 61, 62, 63, 64, 65, 66, 67, 68, 69, 70, 71, 72, 73, 74, 75, 76, 77] (by decide +kernel) (by decide +kernel)
set_option maxRecDepth 20000 in
theorem gX6_share_X6_layFraction : GoodIn wsX6_share (wsV RX6 210 RX6 yX6_layFraction wsX6_layFraction) := goodIn_app (goodIn_of _ (by decide +kernel)) ggX6_share_X6_layFraction
set_option maxRecDepth 20000 in
theorem ggX6_share_X6_told : GoodIn wsX6_share wsX6_told := goodIn_r _ [49, 41, 42, 50, 51, 52, 53, 54, 55, 56, 57, 58, 59, 60, 61, 62, 63, 64, 65, 66, 67, 68, 69, 70, 71, 72, 73, 74, 75, 76, 77] (by decide +kernel) (by decide +kernel)
set_option maxRecDepth 20000 in
theorem gX6_share_X6_told : GoodIn wsX6_share (wsV RX6 214 RX6 yX6_told wsX6_told) := goodIn_app (goodIn_of _ (by decide +kernel)) ggX6_share_X6_told
theorem dX6_share_0 : decode cX6_share 0 = .ok (.aload_n 0, 1) := by decide +kernel
theorem dX6_share_1 : decode cX6_share 1 = .ok (.iconst 0, 1) := by decide +kernel
theorem dX6_share_2 : decode cX6_share 2 = .ok (.putfield 67, 3) := by decide +kernel
theorem dX6_share_5 : decode cX6_share 5 = .ok (.aload_n 0, 1) := by decide +kernel
theorem dX6_share_6 : decode cX6_share 6 = .ok (.iload_n 1, 1) := by decide +kernel
theorem dX6_share_7 : decode cX6_share 7 = .ok (.invokevirtual 113, 3) := by decide +kernel
theorem dX6_share_10 : decode cX6_share 10 = .ok (.ifCond .eq 5, 3) := by decide +kernel
theorem dX6_share_13 : decode cX6_share 13 = .ok (.iconst (-1), 1) := by decide +kernel
theorem dX6_share_14 : decode cX6_share 14 = .ok (.ireturn, 1) := by decide +kernel
theorem dX6_share_15 : decode cX6_share 15 = .ok (.aload_n 0, 1) := by decide +kernel
theorem dX6_share_16 : decode cX6_share 16 = .ok (.getfield 20, 3) := by decide +kernel
theorem dX6_share_19 : decode cX6_share 19 = .ok (.invokestatic 235, 3) := by decide +kernel
theorem dX6_share_22 : decode cX6_share 22 = .ok (.istore_n 3, 1) := by decide +kernel
theorem dX6_share_23 : decode cX6_share 23 = .ok (.iload_n 3, 1) := by decide +kernel
theorem dX6_share_24 : decode cX6_share 24 = .ok (.iload_n 1, 1) := by decide +kernel
theorem dX6_share_25 : decode cX6_share 25 = .ok (.invokestatic 144, 3) := by decide +kernel
theorem dX6_share_28 : decode cX6_share 28 = .ok (.ifCond .ne 6, 3) := by decide +kernel
theorem dX6_share_31 : decode cX6_share 31 = .ok (.bipush (-3), 2) := by decide +kernel
theorem dX6_share_33 : decode cX6_share 33 = .ok (.ireturn, 1) := by decide +kernel
theorem dX6_share_34 : decode cX6_share 34 = .ok (.iload_n 3, 1) := by decide +kernel
theorem dX6_share_35 : decode cX6_share 35 = .ok (.invokestatic 158, 3) := by decide +kernel
theorem dX6_share_38 : decode cX6_share 38 = .ok (.istore 4, 2) := by decide +kernel
theorem dX6_share_40 : decode cX6_share 40 = .ok (.lconst 0, 1) := by decide +kernel
theorem dX6_share_41 : decode cX6_share 41 = .ok (.lstore 5, 2) := by decide +kernel
theorem dX6_share_43 : decode cX6_share 43 = .ok (.iconst 0, 1) := by decide +kernel
theorem dX6_share_44 : decode cX6_share 44 = .ok (.istore 7, 2) := by decide +kernel
theorem dX6_share_46 : decode cX6_share 46 = .ok (.iload 7, 2) := by decide +kernel
theorem dX6_share_48 : decode cX6_share 48 = .ok (.iload_n 3, 1) := by decide +kernel
theorem dX6_share_49 : decode cX6_share 49 = .ok (.if_icmp .gt 93, 3) := by decide +kernel
theorem dX6_share_52 : decode cX6_share 52 = .ok (.iload 7, 2) := by decide +kernel
theorem dX6_share_54 : decode cX6_share 54 = .ok (.iload_n 3, 1) := by decide +kernel
theorem dX6_share_55 : decode cX6_share 55 = .ok (.iconst (-1), 1) := by decide +kernel
theorem dX6_share_56 : decode cX6_share 56 = .ok (.ixor, 1) := by decide +kernel
theorem dX6_share_57 : decode cX6_share 57 = .ok (.iand, 1) := by decide +kernel
theorem dX6_share_58 : decode cX6_share 58 = .ok (.ifCond .ne 78, 3) := by decide +kernel
theorem dX6_share_61 : decode cX6_share 61 = .ok (.iload 7, 2) := by decide +kernel
theorem dX6_share_63 : decode cX6_share 63 = .ok (.iload_n 1, 1) := by decide +kernel
theorem dX6_share_64 : decode cX6_share 64 = .ok (.invokestatic 144, 3) := by decide +kernel
theorem dX6_share_67 : decode cX6_share 67 = .ok (.ifCond .ne 69, 3) := by decide +kernel
theorem dX6_share_70 : decode cX6_share 70 = .ok (.aload_n 0, 1) := by decide +kernel
theorem dX6_share_71 : decode cX6_share 71 = .ok (.aload_n 0, 1) := by decide +kernel
theorem dX6_share_72 : decode cX6_share 72 = .ok (.getfield 20, 3) := by decide +kernel
theorem dX6_share_75 : decode cX6_share 75 = .ok (.iload 7, 2) := by decide +kernel
theorem dX6_share_77 : decode cX6_share 77 = .ok (.iconst 1, 1) := by decide +kernel
theorem dX6_share_78 : decode cX6_share 78 = .ok (.iload_n 1, 1) := by decide +kernel
theorem dX6_share_79 : decode cX6_share 79 = .ok (.ishl, 1) := by decide +kernel
theorem dX6_share_80 : decode cX6_share 80 = .ok (.ior, 1) := by decide +kernel
theorem dX6_share_81 : decode cX6_share 81 = .ok (.invokevirtual 154, 3) := by decide +kernel
theorem dX6_share_84 : decode cX6_share 84 = .ok (.invokestatic 158, 3) := by decide +kernel
theorem dX6_share_87 : decode cX6_share 87 = .ok (.aload_n 0, 1) := by decide +kernel
theorem dX6_share_88 : decode cX6_share 88 = .ok (.aload_n 0, 1) := by decide +kernel
theorem dX6_share_89 : decode cX6_share 89 = .ok (.getfield 20, 3) := by decide +kernel
theorem dX6_share_92 : decode cX6_share 92 = .ok (.iload 7, 2) := by decide +kernel
theorem dX6_share_94 : decode cX6_share 94 = .ok (.invokevirtual 154, 3) := by decide +kernel
theorem dX6_share_97 : decode cX6_share 97 = .ok (.invokestatic 158, 3) := by decide +kernel
theorem dX6_share_100 : decode cX6_share 100 = .ok (.isub, 1) := by decide +kernel
theorem dX6_share_101 : decode cX6_share 101 = .ok (.istore 8, 2) := by decide +kernel
theorem dX6_share_103 : decode cX6_share 103 = .ok (.lload 5, 2) := by decide +kernel
theorem dX6_share_105 : decode cX6_share 105 = .ok (.iload 7, 2) := by decide +kernel
theorem dX6_share_107 : decode cX6_share 107 = .ok (.invokestatic 158, 3) := by decide +kernel
theorem dX6_share_110 : decode cX6_share 110 = .ok (.invokestatic 266, 3) := by decide +kernel
theorem dX6_share_113 : decode cX6_share 113 = .ok (.i2l, 1) := by decide +kernel
theorem dX6_share_114 : decode cX6_share 114 = .ok (.iload 4, 2) := by decide +kernel
theorem dX6_share_116 : decode cX6_share 116 = .ok (.iconst 1, 1) := by decide +kernel
theorem dX6_share_117 : decode cX6_share 117 = .ok (.isub, 1) := by decide +kernel
theorem dX6_share_118 : decode cX6_share 118 = .ok (.iload 7, 2) := by decide +kernel
theorem dX6_share_120 : decode cX6_share 120 = .ok (.invokestatic 158, 3) := by decide +kernel
theorem dX6_share_123 : decode cX6_share 123 = .ok (.isub, 1) := by decide +kernel
theorem dX6_share_124 : decode cX6_share 124 = .ok (.invokestatic 266, 3) := by decide +kernel
theorem dX6_share_127 : decode cX6_share 127 = .ok (.i2l, 1) := by decide +kernel
theorem dX6_share_128 : decode cX6_share 128 = .ok (.lmul, 1) := by decide +kernel
theorem dX6_share_129 : decode cX6_share 129 = .ok (.iload 8, 2) := by decide +kernel
theorem dX6_share_131 : decode cX6_share 131 = .ok (.i2l, 1) := by decide +kernel
theorem dX6_share_132 : decode cX6_share 132 = .ok (.lmul, 1) := by decide +kernel
theorem dX6_share_133 : decode cX6_share 133 = .ok (.ladd, 1) := by decide +kernel
theorem dX6_share_134 : decode cX6_share 134 = .ok (.lstore 5, 2) := by decide +kernel
theorem dX6_share_136 : decode cX6_share 136 = .ok (.iinc 7 1, 3) := by decide +kernel
theorem dX6_share_139 : decode cX6_share 139 = .ok (.goto (-93), 3) := by decide +kernel
theorem dX6_share_142 : decode cX6_share 142 = .ok (.aload_n 0, 1) := by decide +kernel
theorem dX6_share_143 : decode cX6_share 143 = .ok (.lload 5, 2) := by decide +kernel
theorem dX6_share_145 : decode cX6_share 145 = .ok (.iload 4, 2) := by decide +kernel
theorem dX6_share_147 : decode cX6_share 147 = .ok (.invokestatic 266, 3) := by decide +kernel
theorem dX6_share_150 : decode cX6_share 150 = .ok (.i2l, 1) := by decide +kernel
theorem dX6_share_151 : decode cX6_share 151 = .ok (.invokevirtual 210, 3) := by decide +kernel
theorem dX6_share_154 : decode cX6_share 154 = .ok (.aload_n 0, 1) := by decide +kernel
theorem dX6_share_155 : decode cX6_share 155 = .ok (.iload_n 2, 1) := by decide +kernel
theorem dX6_share_156 : decode cX6_share 156 = .ok (.invokevirtual 214, 3) := by decide +kernel
theorem dX6_share_159 : decode cX6_share 159 = .ok (.l2i, 1) := by decide +kernel
theorem dX6_share_160 : decode cX6_share 160 = .ok (.ireturn, 1) := by decide +kernel
set_option maxRecDepth 20000 in
theorem ggX6_falls_X6_noStation : GoodIn wsX6_falls wsX6_noStation := goodIn_r _ [9, 10, 11, 12, 8, 13, 49, 50, 51, 52, 53, 54, 55, 56, 57, 58, 59, 60, 61, 62, 63, 64, 65, 66, 67, 68, 69, 70, 71, 72, 73, 74, 75, 76] (by decide +kernel) (by decide +kernel)
set_option maxRecDepth 20000 in
theorem gX6_falls_X6_noStation : GoodIn wsX6_falls (wsV RX6 128 RX6 yX6_noStation wsX6_noStation) := goodIn_app (goodIn_of _ (by decide +kernel)) ggX6_falls_X6_noStation
set_option maxRecDepth 20000 in
theorem ggX6_falls_X6_in : GoodIn wsX6_falls wsX6_in := goodIn_r _ [13] (by decide +kernel) (by decide +kernel)
set_option maxRecDepth 20000 in
theorem gX6_falls_X6_in : GoodIn wsX6_falls (va_wsS RX6 70 yX6_in wsX6_in) := goodIn_app (goodIn_of _ (by decide +kernel)) ggX6_falls_X6_in
set_option maxRecDepth 20000 in
theorem ggX6_falls_X6_openOnes : GoodIn wsX6_falls wsX6_openOnes := goodIn_r _ [16, 17, 18, 8, 19] (by decide +kernel) (by decide +kernel)
set_option maxRecDepth 20000 in
theorem gX6_falls_X6_openOnes : GoodIn wsX6_falls (va_wsS RX6 235 yX6_openOnes wsX6_openOnes) := goodIn_app (goodIn_of _ (by decide +kernel)) ggX6_falls_X6_openOnes
set_option maxRecDepth 20000 in
theorem ggX6_falls_X6_ones : GoodIn wsX6_falls wsX6_ones := goodIn_r _ [22] (by decide +kernel) (by decide +kernel)
set_option maxRecDepth 20000 in
theorem gX6_falls_X6_ones : GoodIn wsX6_falls (va_wsS RX6 158 yX6_ones wsX6_ones) := goodIn_app (goodIn_of _ (by decide +kernel)) ggX6_falls_X6_ones
set_option maxRecDepth 20000 in
theorem ggX6_falls_X6_reached : GoodIn wsX6_falls wsX6_reached := goodIn_r _ [26, 27, 28, 8, 29, 30, 31, 32] (by decide +kernel) (by decide +kernel)
set_option maxRecDepth 20000 in
theorem gX6_falls_X6_reached : GoodIn wsX6_falls (wsV RX6 147 RX6 yX6_reached wsX6_reached) := goodIn_app (goodIn_of _ (by decide +kernel)) ggX6_falls_X6_reached
set_option maxRecDepth 20000 in
theorem ggX6_falls_X6_has : GoodIn wsX6_falls wsX6_has := goodIn_r _ [29] (by decide +kernel) (by decide +kernel)
set_option maxRecDepth 20000 in
theorem gX6_falls_X6_has : GoodIn wsX6_falls (va_wsS RX6 144 yX6_has wsX6_has) := goodIn_app (goodIn_of _ (by decide +kernel)) ggX6_falls_X6_has
set_option maxRecDepth 20000 in
theorem ggX6_falls_X6_power : GoodIn wsX6_falls wsX6_power := goodIn_r _ [35] (by decide +kernel) (by decide +kernel)
set_option maxRecDepth 20000 in
theorem gX6_falls_X6_power : GoodIn wsX6_falls (va_wsS RX6 269 yX6_power wsX6_power) := goodIn_app (goodIn_of _ (by decide +kernel)) ggX6_falls_X6_power
set_option maxRecDepth 20000 in
theorem ggX6_falls_X6_layFraction : GoodIn wsX6_falls wsX6_layFraction := goodIn_r _ [39, 40, 41, 42, 43, 8, 44, 49, 50, 51, 52, 53, 54, 55, 56, 57, 58, 59, 60, 61, 62, 63, 64, 65, 66, 67, 68, 69, 70, 71, 72, 73, 74, 75, 76] (by decide +kernel) (by decide +kernel)
set_option maxRecDepth 20000 in
theorem gX6_falls_X6_layFraction : GoodIn wsX6_falls (wsV RX6 210 RX6 yX6_layFraction wsX6_layFraction) := goodIn_app (goodIn_of _ (by decide +kernel)) ggX6_falls_X6_layFraction
set_option maxRecDepth 20000 in
theorem ggX6_falls_X6_told : GoodIn wsX6_falls wsX6_told := goodIn_r _ [48, 40, 41, 49, 50, 51, 52, 53, 54, 55, 56, 57, 58, 59, 60, 61, 62, 63, 64, 65, 66, 67, 68, 69, 70, 71, 72, 73, 74, 75, 76] (by decide +kernel) (by decide +kernel)
set_option maxRecDepth 20000 in
theorem gX6_falls_X6_told : GoodIn wsX6_falls (wsV RX6 214 RX6 yX6_told wsX6_told) := goodIn_app (goodIn_of _ (by decide +kernel)) ggX6_falls_X6_told
theorem dX6_falls_0 : decode cX6_falls 0 = .ok (.aload_n 0, 1) := by decide +kernel
theorem dX6_falls_1 : decode cX6_falls 1 = .ok (.iconst 0, 1) := by decide +kernel
theorem dX6_falls_2 : decode cX6_falls 2 = .ok (.putfield 67, 3) := by decide +kernel
theorem dX6_falls_5 : decode cX6_falls 5 = .ok (.aload_n 0, 1) := by decide +kernel
theorem dX6_falls_6 : decode cX6_falls 6 = .ok (.iload_n 1, 1) := by decide +kernel
theorem dX6_falls_7 : decode cX6_falls 7 = .ok (.invokevirtual 128, 3) := by decide +kernel
theorem dX6_falls_10 : decode cX6_falls 10 = .ok (.ifCond .eq 5, 3) := by decide +kernel
theorem dX6_falls_13 : decode cX6_falls 13 = .ok (.iconst (-1), 1) := by decide +kernel
theorem dX6_falls_14 : decode cX6_falls 14 = .ok (.ireturn, 1) := by decide +kernel
theorem dX6_falls_15 : decode cX6_falls 15 = .ok (.iload_n 2, 1) := by decide +kernel
theorem dX6_falls_16 : decode cX6_falls 16 = .ok (.i2l, 1) := by decide +kernel
theorem dX6_falls_17 : decode cX6_falls 17 = .ok (.lconst 1, 1) := by decide +kernel
theorem dX6_falls_18 : decode cX6_falls 18 = .ok (.ldc2_w 117, 3) := by decide +kernel
theorem dX6_falls_21 : decode cX6_falls 21 = .ok (.invokestatic 70, 3) := by decide +kernel
theorem dX6_falls_24 : decode cX6_falls 24 = .ok (.ifCond .eq 15, 3) := by decide +kernel
theorem dX6_falls_27 : decode cX6_falls 27 = .ok (.iload_n 3, 1) := by decide +kernel
theorem dX6_falls_28 : decode cX6_falls 28 = .ok (.i2l, 1) := by decide +kernel
theorem dX6_falls_29 : decode cX6_falls 29 = .ok (.lconst 0, 1) := by decide +kernel
theorem dX6_falls_30 : decode cX6_falls 30 = .ok (.ldc2_w 258, 3) := by decide +kernel
theorem dX6_falls_33 : decode cX6_falls 33 = .ok (.invokestatic 70, 3) := by decide +kernel
theorem dX6_falls_36 : decode cX6_falls 36 = .ok (.ifCond .ne 6, 3) := by decide +kernel
theorem dX6_falls_39 : decode cX6_falls 39 = .ok (.bipush (-2), 2) := by decide +kernel
theorem dX6_falls_41 : decode cX6_falls 41 = .ok (.ireturn, 1) := by decide +kernel
theorem dX6_falls_42 : decode cX6_falls 42 = .ok (.aload_n 0, 1) := by decide +kernel
theorem dX6_falls_43 : decode cX6_falls 43 = .ok (.getfield 20, 3) := by decide +kernel
theorem dX6_falls_46 : decode cX6_falls 46 = .ok (.invokestatic 235, 3) := by decide +kernel
theorem dX6_falls_49 : decode cX6_falls 49 = .ok (.istore 5, 2) := by decide +kernel
theorem dX6_falls_51 : decode cX6_falls 51 = .ok (.iload 5, 2) := by decide +kernel
theorem dX6_falls_53 : decode cX6_falls 53 = .ok (.invokestatic 158, 3) := by decide +kernel
theorem dX6_falls_56 : decode cX6_falls 56 = .ok (.istore 6, 2) := by decide +kernel
theorem dX6_falls_58 : decode cX6_falls 58 = .ok (.lconst 0, 1) := by decide +kernel
theorem dX6_falls_59 : decode cX6_falls 59 = .ok (.lstore 7, 2) := by decide +kernel
theorem dX6_falls_61 : decode cX6_falls 61 = .ok (.iconst 0, 1) := by decide +kernel
theorem dX6_falls_62 : decode cX6_falls 62 = .ok (.istore 9, 2) := by decide +kernel
theorem dX6_falls_64 : decode cX6_falls 64 = .ok (.iload 9, 2) := by decide +kernel
theorem dX6_falls_66 : decode cX6_falls 66 = .ok (.iload 5, 2) := by decide +kernel
theorem dX6_falls_68 : decode cX6_falls 68 = .ok (.if_icmp .gt 68, 3) := by decide +kernel
theorem dX6_falls_71 : decode cX6_falls 71 = .ok (.iload 9, 2) := by decide +kernel
theorem dX6_falls_73 : decode cX6_falls 73 = .ok (.iload 5, 2) := by decide +kernel
theorem dX6_falls_75 : decode cX6_falls 75 = .ok (.iconst (-1), 1) := by decide +kernel
theorem dX6_falls_76 : decode cX6_falls 76 = .ok (.ixor, 1) := by decide +kernel
theorem dX6_falls_77 : decode cX6_falls 77 = .ok (.iand, 1) := by decide +kernel
theorem dX6_falls_78 : decode cX6_falls 78 = .ok (.ifCond .ne 52, 3) := by decide +kernel
theorem dX6_falls_81 : decode cX6_falls 81 = .ok (.aload_n 0, 1) := by decide +kernel
theorem dX6_falls_82 : decode cX6_falls 82 = .ok (.aload_n 0, 1) := by decide +kernel
theorem dX6_falls_83 : decode cX6_falls 83 = .ok (.getfield 20, 3) := by decide +kernel
theorem dX6_falls_86 : decode cX6_falls 86 = .ok (.iload 9, 2) := by decide +kernel
theorem dX6_falls_88 : decode cX6_falls 88 = .ok (.iload_n 2, 1) := by decide +kernel
theorem dX6_falls_89 : decode cX6_falls 89 = .ok (.invokevirtual 147, 3) := by decide +kernel
theorem dX6_falls_92 : decode cX6_falls 92 = .ok (.iload_n 1, 1) := by decide +kernel
theorem dX6_falls_93 : decode cX6_falls 93 = .ok (.invokestatic 144, 3) := by decide +kernel
theorem dX6_falls_96 : decode cX6_falls 96 = .ok (.ifCond .eq 34, 3) := by decide +kernel
theorem dX6_falls_99 : decode cX6_falls 99 = .ok (.lload 7, 2) := by decide +kernel
theorem dX6_falls_101 : decode cX6_falls 101 = .ok (.bipush 10, 2) := by decide +kernel
theorem dX6_falls_103 : decode cX6_falls 103 = .ok (.iload_n 3, 1) := by decide +kernel
theorem dX6_falls_104 : decode cX6_falls 104 = .ok (.isub, 1) := by decide +kernel
theorem dX6_falls_105 : decode cX6_falls 105 = .ok (.iload 9, 2) := by decide +kernel
theorem dX6_falls_107 : decode cX6_falls 107 = .ok (.invokestatic 158, 3) := by decide +kernel
theorem dX6_falls_110 : decode cX6_falls 110 = .ok (.invokestatic 269, 3) := by decide +kernel
theorem dX6_falls_113 : decode cX6_falls 113 = .ok (.iload_n 3, 1) := by decide +kernel
theorem dX6_falls_114 : decode cX6_falls 114 = .ok (.iload 6, 2) := by decide +kernel
theorem dX6_falls_116 : decode cX6_falls 116 = .ok (.iload 9, 2) := by decide +kernel
theorem dX6_falls_118 : decode cX6_falls 118 = .ok (.invokestatic 158, 3) := by decide +kernel
theorem dX6_falls_121 : decode cX6_falls 121 = .ok (.isub, 1) := by decide +kernel
theorem dX6_falls_122 : decode cX6_falls 122 = .ok (.invokestatic 269, 3) := by decide +kernel
theorem dX6_falls_125 : decode cX6_falls 125 = .ok (.imul, 1) := by decide +kernel
theorem dX6_falls_126 : decode cX6_falls 126 = .ok (.i2l, 1) := by decide +kernel
theorem dX6_falls_127 : decode cX6_falls 127 = .ok (.ladd, 1) := by decide +kernel
theorem dX6_falls_128 : decode cX6_falls 128 = .ok (.lstore 7, 2) := by decide +kernel
theorem dX6_falls_130 : decode cX6_falls 130 = .ok (.iinc 9 1, 3) := by decide +kernel
theorem dX6_falls_133 : decode cX6_falls 133 = .ok (.goto (-69), 3) := by decide +kernel
theorem dX6_falls_136 : decode cX6_falls 136 = .ok (.aload_n 0, 1) := by decide +kernel
theorem dX6_falls_137 : decode cX6_falls 137 = .ok (.lload 7, 2) := by decide +kernel
theorem dX6_falls_139 : decode cX6_falls 139 = .ok (.bipush 10, 2) := by decide +kernel
theorem dX6_falls_141 : decode cX6_falls 141 = .ok (.iload 6, 2) := by decide +kernel
theorem dX6_falls_143 : decode cX6_falls 143 = .ok (.invokestatic 269, 3) := by decide +kernel
theorem dX6_falls_146 : decode cX6_falls 146 = .ok (.i2l, 1) := by decide +kernel
theorem dX6_falls_147 : decode cX6_falls 147 = .ok (.invokevirtual 210, 3) := by decide +kernel
theorem dX6_falls_150 : decode cX6_falls 150 = .ok (.aload_n 0, 1) := by decide +kernel
theorem dX6_falls_151 : decode cX6_falls 151 = .ok (.iload 4, 2) := by decide +kernel
theorem dX6_falls_153 : decode cX6_falls 153 = .ok (.invokevirtual 214, 3) := by decide +kernel
theorem dX6_falls_156 : decode cX6_falls 156 = .ok (.l2i, 1) := by decide +kernel
theorem dX6_falls_157 : decode cX6_falls 157 = .ok (.ireturn, 1) := by decide +kernel
theorem dX6_seed_0 : decode cX6_seed 0 = .ok (.aload_n 0, 1) := by decide +kernel
theorem dX6_seed_1 : decode cX6_seed 1 = .ok (.iconst 0, 1) := by decide +kernel
theorem dX6_seed_2 : decode cX6_seed 2 = .ok (.putfield 67, 3) := by decide +kernel
theorem dX6_seed_5 : decode cX6_seed 5 = .ok (.aload_n 0, 1) := by decide +kernel
theorem dX6_seed_6 : decode cX6_seed 6 = .ok (.getfield 272, 3) := by decide +kernel
theorem dX6_seed_9 : decode cX6_seed 9 = .ok (.lstore_n 3, 1) := by decide +kernel
theorem dX6_seed_10 : decode cX6_seed 10 = .ok (.aload_n 0, 1) := by decide +kernel
theorem dX6_seed_11 : decode cX6_seed 11 = .ok (.lload_n 1, 1) := by decide +kernel
theorem dX6_seed_12 : decode cX6_seed 12 = .ok (.putfield 272, 3) := by decide +kernel
theorem dX6_seed_15 : decode cX6_seed 15 = .ok (.lload_n 3, 1) := by decide +kernel
theorem dX6_seed_16 : decode cX6_seed 16 = .ok (.lreturn, 1) := by decide +kernel
set_option maxRecDepth 20000 in
theorem ggX6_drawn_X6_in : GoodIn wsX6_drawn wsX6_in := goodIn_r _ [10] (by decide +kernel) (by decide +kernel)
set_option maxRecDepth 20000 in
theorem gX6_drawn_X6_in : GoodIn wsX6_drawn (va_wsS RX6 70 yX6_in wsX6_in) := goodIn_app (goodIn_of _ (by decide +kernel)) ggX6_drawn_X6_in
set_option maxRecDepth 20000 in
theorem ggX6_drawn_X6_openOnes : GoodIn wsX6_drawn wsX6_openOnes := goodIn_r _ [13, 14, 15, 9, 16] (by decide +kernel) (by decide +kernel)
set_option maxRecDepth 20000 in
theorem gX6_drawn_X6_openOnes : GoodIn wsX6_drawn (va_wsS RX6 235 yX6_openOnes wsX6_openOnes) := goodIn_app (goodIn_of _ (by decide +kernel)) ggX6_drawn_X6_openOnes
set_option maxRecDepth 20000 in
theorem ggX6_drawn_X6_has : GoodIn wsX6_drawn wsX6_has := goodIn_r _ [19] (by decide +kernel) (by decide +kernel)
set_option maxRecDepth 20000 in
theorem gX6_drawn_X6_has : GoodIn wsX6_drawn (va_wsS RX6 144 yX6_has wsX6_has) := goodIn_app (goodIn_of _ (by decide +kernel)) ggX6_drawn_X6_has
set_option maxRecDepth 20000 in
theorem ggX6_drawn_X6_of : GoodIn wsX6_drawn wsX6_of := goodIn_r _ [22] (by decide +kernel) (by decide +kernel)
set_option maxRecDepth 20000 in
theorem gX6_drawn_X6_of : GoodIn wsX6_drawn (va_wsS RX6 103 yX6_of wsX6_of) := goodIn_app (goodIn_of _ (by decide +kernel)) ggX6_drawn_X6_of
theorem dX6_drawn_0 : decode cX6_drawn 0 = .ok (.aload_n 0, 1) := by decide +kernel
theorem dX6_drawn_1 : decode cX6_drawn 1 = .ok (.iconst 0, 1) := by decide +kernel
theorem dX6_drawn_2 : decode cX6_drawn 2 = .ok (.putfield 67, 3) := by decide +kernel
theorem dX6_drawn_5 : decode cX6_drawn 5 = .ok (.iload_n 1, 1) := by decide +kernel
theorem dX6_drawn_6 : decode cX6_drawn 6 = .ok (.i2l, 1) := by decide +kernel
theorem dX6_drawn_7 : decode cX6_drawn 7 = .ok (.lconst 1, 1) := by decide +kernel
theorem dX6_drawn_8 : decode cX6_drawn 8 = .ok (.ldc2_w 275, 3) := by decide +kernel
theorem dX6_drawn_11 : decode cX6_drawn 11 = .ok (.invokestatic 70, 3) := by decide +kernel
theorem dX6_drawn_14 : decode cX6_drawn 14 = .ok (.ifCond .ne 6, 3) := by decide +kernel
theorem dX6_drawn_17 : decode cX6_drawn 17 = .ok (.bipush (-2), 2) := by decide +kernel
theorem dX6_drawn_19 : decode cX6_drawn 19 = .ok (.ireturn, 1) := by decide +kernel
theorem dX6_drawn_20 : decode cX6_drawn 20 = .ok (.iconst 0, 1) := by decide +kernel
theorem dX6_drawn_21 : decode cX6_drawn 21 = .ok (.istore_n 2, 1) := by decide +kernel
theorem dX6_drawn_22 : decode cX6_drawn 22 = .ok (.iconst 0, 1) := by decide +kernel
theorem dX6_drawn_23 : decode cX6_drawn 23 = .ok (.istore_n 3, 1) := by decide +kernel
theorem dX6_drawn_24 : decode cX6_drawn 24 = .ok (.iconst 0, 1) := by decide +kernel
theorem dX6_drawn_25 : decode cX6_drawn 25 = .ok (.istore 4, 2) := by decide +kernel
theorem dX6_drawn_27 : decode cX6_drawn 27 = .ok (.iload 4, 2) := by decide +kernel
theorem dX6_drawn_29 : decode cX6_drawn 29 = .ok (.iload_n 1, 1) := by decide +kernel
theorem dX6_drawn_30 : decode cX6_drawn 30 = .ok (.if_icmp .ge 140, 3) := by decide +kernel
theorem dX6_drawn_33 : decode cX6_drawn 33 = .ok (.aload_n 0, 1) := by decide +kernel
theorem dX6_drawn_34 : decode cX6_drawn 34 = .ok (.aload_n 0, 1) := by decide +kernel
theorem dX6_drawn_35 : decode cX6_drawn 35 = .ok (.getfield 272, 3) := by decide +kernel
theorem dX6_drawn_38 : decode cX6_drawn 38 = .ok (.ldc2_w 277, 3) := by decide +kernel
theorem dX6_drawn_41 : decode cX6_drawn 41 = .ok (.lmul, 1) := by decide +kernel
theorem dX6_drawn_42 : decode cX6_drawn 42 = .ok (.ldc2_w 279, 3) := by decide +kernel
theorem dX6_drawn_45 : decode cX6_drawn 45 = .ok (.ladd, 1) := by decide +kernel
theorem dX6_drawn_46 : decode cX6_drawn 46 = .ok (.putfield 272, 3) := by decide +kernel
theorem dX6_drawn_49 : decode cX6_drawn 49 = .ok (.aload_n 0, 1) := by decide +kernel
theorem dX6_drawn_50 : decode cX6_drawn 50 = .ok (.getfield 272, 3) := by decide +kernel
theorem dX6_drawn_53 : decode cX6_drawn 53 = .ok (.bipush 33, 2) := by decide +kernel
theorem dX6_drawn_55 : decode cX6_drawn 55 = .ok (.lushr, 1) := by decide +kernel
theorem dX6_drawn_56 : decode cX6_drawn 56 = .ok (.l2i, 1) := by decide +kernel
theorem dX6_drawn_57 : decode cX6_drawn 57 = .ok (.istore 5, 2) := by decide +kernel
theorem dX6_drawn_59 : decode cX6_drawn 59 = .ok (.aload_n 0, 1) := by decide +kernel
theorem dX6_drawn_60 : decode cX6_drawn 60 = .ok (.getfield 20, 3) := by decide +kernel
theorem dX6_drawn_63 : decode cX6_drawn 63 = .ok (.iconst 0, 1) := by decide +kernel
theorem dX6_drawn_64 : decode cX6_drawn 64 = .ok (.iaload, 1) := by decide +kernel
theorem dX6_drawn_65 : decode cX6_drawn 65 = .ok (.ifCond .le 87, 3) := by decide +kernel
theorem dX6_drawn_68 : decode cX6_drawn 68 = .ok (.aload_n 0, 1) := by decide +kernel
theorem dX6_drawn_69 : decode cX6_drawn 69 = .ok (.getfield 20, 3) := by decide +kernel
theorem dX6_drawn_72 : decode cX6_drawn 72 = .ok (.invokestatic 235, 3) := by decide +kernel
theorem dX6_drawn_75 : decode cX6_drawn 75 = .ok (.iload 5, 2) := by decide +kernel
theorem dX6_drawn_77 : decode cX6_drawn 77 = .ok (.aload_n 0, 1) := by decide +kernel
theorem dX6_drawn_78 : decode cX6_drawn 78 = .ok (.getfield 20, 3) := by decide +kernel
theorem dX6_drawn_81 : decode cX6_drawn 81 = .ok (.iconst 0, 1) := by decide +kernel
theorem dX6_drawn_82 : decode cX6_drawn 82 = .ok (.iaload, 1) := by decide +kernel
theorem dX6_drawn_83 : decode cX6_drawn 83 = .ok (.irem, 1) := by decide +kernel
theorem dX6_drawn_84 : decode cX6_drawn 84 = .ok (.invokestatic 144, 3) := by decide +kernel
theorem dX6_drawn_87 : decode cX6_drawn 87 = .ok (.ifCond .eq 65, 3) := by decide +kernel
theorem dX6_drawn_90 : decode cX6_drawn 90 = .ok (.aload_n 0, 1) := by decide +kernel
theorem dX6_drawn_91 : decode cX6_drawn 91 = .ok (.getfield 20, 3) := by decide +kernel
theorem dX6_drawn_94 : decode cX6_drawn 94 = .ok (.iload 5, 2) := by decide +kernel
theorem dX6_drawn_96 : decode cX6_drawn 96 = .ok (.aload_n 0, 1) := by decide +kernel
theorem dX6_drawn_97 : decode cX6_drawn 97 = .ok (.getfield 20, 3) := by decide +kernel
theorem dX6_drawn_100 : decode cX6_drawn 100 = .ok (.iconst 0, 1) := by decide +kernel
theorem dX6_drawn_101 : decode cX6_drawn 101 = .ok (.iaload, 1) := by decide +kernel
theorem dX6_drawn_102 : decode cX6_drawn 102 = .ok (.irem, 1) := by decide +kernel
theorem dX6_drawn_103 : decode cX6_drawn 103 = .ok (.iconst 4, 1) := by decide +kernel
theorem dX6_drawn_104 : decode cX6_drawn 104 = .ok (.invokestatic 103, 3) := by decide +kernel
theorem dX6_drawn_107 : decode cX6_drawn 107 = .ok (.istore 6, 2) := by decide +kernel
theorem dX6_drawn_109 : decode cX6_drawn 109 = .ok (.aload_n 0, 1) := by decide +kernel
theorem dX6_drawn_110 : decode cX6_drawn 110 = .ok (.getfield 20, 3) := by decide +kernel
theorem dX6_drawn_113 : decode cX6_drawn 113 = .ok (.iload 5, 2) := by decide +kernel
theorem dX6_drawn_115 : decode cX6_drawn 115 = .ok (.aload_n 0, 1) := by decide +kernel
theorem dX6_drawn_116 : decode cX6_drawn 116 = .ok (.getfield 20, 3) := by decide +kernel
theorem dX6_drawn_119 : decode cX6_drawn 119 = .ok (.iconst 0, 1) := by decide +kernel
theorem dX6_drawn_120 : decode cX6_drawn 120 = .ok (.iaload, 1) := by decide +kernel
theorem dX6_drawn_121 : decode cX6_drawn 121 = .ok (.irem, 1) := by decide +kernel
theorem dX6_drawn_122 : decode cX6_drawn 122 = .ok (.iconst 5, 1) := by decide +kernel
theorem dX6_drawn_123 : decode cX6_drawn 123 = .ok (.invokestatic 103, 3) := by decide +kernel
theorem dX6_drawn_126 : decode cX6_drawn 126 = .ok (.istore 7, 2) := by decide +kernel
theorem dX6_drawn_128 : decode cX6_drawn 128 = .ok (.iload_n 2, 1) := by decide +kernel
theorem dX6_drawn_129 : decode cX6_drawn 129 = .ok (.iload 6, 2) := by decide +kernel
theorem dX6_drawn_131 : decode cX6_drawn 131 = .ok (.if_icmp .ne 8, 3) := by decide +kernel
theorem dX6_drawn_134 : decode cX6_drawn 134 = .ok (.iload 7, 2) := by decide +kernel
theorem dX6_drawn_136 : decode cX6_drawn 136 = .ok (.goto 15, 3) := by decide +kernel
theorem dX6_drawn_139 : decode cX6_drawn 139 = .ok (.iload_n 2, 1) := by decide +kernel
theorem dX6_drawn_140 : decode cX6_drawn 140 = .ok (.iload 7, 2) := by decide +kernel
theorem dX6_drawn_142 : decode cX6_drawn 142 = .ok (.if_icmp .ne 8, 3) := by decide +kernel
theorem dX6_drawn_145 : decode cX6_drawn 145 = .ok (.iload 6, 2) := by decide +kernel
theorem dX6_drawn_147 : decode cX6_drawn 147 = .ok (.goto 4, 3) := by decide +kernel
theorem dX6_drawn_150 : decode cX6_drawn 150 = .ok (.iload_n 2, 1) := by decide +kernel
theorem dX6_drawn_151 : decode cX6_drawn 151 = .ok (.istore_n 2, 1) := by decide +kernel
theorem dX6_drawn_152 : decode cX6_drawn 152 = .ok (.iload_n 3, 1) := by decide +kernel
theorem dX6_drawn_153 : decode cX6_drawn 153 = .ok (.iload_n 2, 1) := by decide +kernel
theorem dX6_drawn_154 : decode cX6_drawn 154 = .ok (.ifCond .eq 7, 3) := by decide +kernel
theorem dX6_drawn_157 : decode cX6_drawn 157 = .ok (.iconst 1, 1) := by decide +kernel
theorem dX6_drawn_158 : decode cX6_drawn 158 = .ok (.goto 4, 3) := by decide +kernel
theorem dX6_drawn_161 : decode cX6_drawn 161 = .ok (.iconst 0, 1) := by decide +kernel
theorem dX6_drawn_162 : decode cX6_drawn 162 = .ok (.iadd, 1) := by decide +kernel
theorem dX6_drawn_163 : decode cX6_drawn 163 = .ok (.istore_n 3, 1) := by decide +kernel
theorem dX6_drawn_164 : decode cX6_drawn 164 = .ok (.iinc 4 1, 3) := by decide +kernel
theorem dX6_drawn_167 : decode cX6_drawn 167 = .ok (.goto (-140), 3) := by decide +kernel
theorem dX6_drawn_170 : decode cX6_drawn 170 = .ok (.iload_n 3, 1) := by decide +kernel
theorem dX6_drawn_171 : decode cX6_drawn 171 = .ok (.ireturn, 1) := by decide +kernel
set_option maxRecDepth 20000 in
theorem ggX6_keep_X6_in : GoodIn wsX6_keep wsX6_in := goodIn_r _ [8] (by decide +kernel) (by decide +kernel)
set_option maxRecDepth 20000 in
theorem gX6_keep_X6_in : GoodIn wsX6_keep (va_wsS RX6 70 yX6_in wsX6_in) := goodIn_app (goodIn_of _ (by decide +kernel)) ggX6_keep_X6_in
theorem dX6_keep_0 : decode cX6_keep 0 = .ok (.aload_n 0, 1) := by decide +kernel
theorem dX6_keep_1 : decode cX6_keep 1 = .ok (.iconst 0, 1) := by decide +kernel
theorem dX6_keep_2 : decode cX6_keep 2 = .ok (.putfield 67, 3) := by decide +kernel
theorem dX6_keep_5 : decode cX6_keep 5 = .ok (.iload_n 1, 1) := by decide +kernel
theorem dX6_keep_6 : decode cX6_keep 6 = .ok (.i2l, 1) := by decide +kernel
theorem dX6_keep_7 : decode cX6_keep 7 = .ok (.lconst 0, 1) := by decide +kernel
theorem dX6_keep_8 : decode cX6_keep 8 = .ok (.lconst 1, 1) := by decide +kernel
theorem dX6_keep_9 : decode cX6_keep 9 = .ok (.invokestatic 70, 3) := by decide +kernel
theorem dX6_keep_12 : decode cX6_keep 12 = .ok (.ifCond .ne 5, 3) := by decide +kernel
theorem dX6_keep_15 : decode cX6_keep 15 = .ok (.iconst (-1), 1) := by decide +kernel
theorem dX6_keep_16 : decode cX6_keep 16 = .ok (.ireturn, 1) := by decide +kernel
theorem dX6_keep_17 : decode cX6_keep 17 = .ok (.aload_n 0, 1) := by decide +kernel
theorem dX6_keep_18 : decode cX6_keep 18 = .ok (.getfield 32, 3) := by decide +kernel
theorem dX6_keep_21 : decode cX6_keep 21 = .ok (.iload_n 1, 1) := by decide +kernel
theorem dX6_keep_22 : decode cX6_keep 22 = .ok (.iconst 1, 1) := by decide +kernel
theorem dX6_keep_23 : decode cX6_keep 23 = .ok (.bastore, 1) := by decide +kernel
theorem dX6_keep_24 : decode cX6_keep 24 = .ok (.iconst 0, 1) := by decide +kernel
theorem dX6_keep_25 : decode cX6_keep 25 = .ok (.istore_n 2, 1) := by decide +kernel
theorem dX6_keep_26 : decode cX6_keep 26 = .ok (.iload_n 2, 1) := by decide +kernel
theorem dX6_keep_27 : decode cX6_keep 27 = .ok (.bipush 50, 2) := by decide +kernel
theorem dX6_keep_29 : decode cX6_keep 29 = .ok (.if_icmp .ge 26, 3) := by decide +kernel
theorem dX6_keep_32 : decode cX6_keep 32 = .ok (.aload_n 0, 1) := by decide +kernel
theorem dX6_keep_33 : decode cX6_keep 33 = .ok (.getfield 29, 3) := by decide +kernel
theorem dX6_keep_36 : decode cX6_keep 36 = .ok (.bipush 50, 2) := by decide +kernel
theorem dX6_keep_38 : decode cX6_keep 38 = .ok (.iload_n 1, 1) := by decide +kernel
theorem dX6_keep_39 : decode cX6_keep 39 = .ok (.imul, 1) := by decide +kernel
theorem dX6_keep_40 : decode cX6_keep 40 = .ok (.iload_n 2, 1) := by decide +kernel
theorem dX6_keep_41 : decode cX6_keep 41 = .ok (.iadd, 1) := by decide +kernel
theorem dX6_keep_42 : decode cX6_keep 42 = .ok (.aload_n 0, 1) := by decide +kernel
theorem dX6_keep_43 : decode cX6_keep 43 = .ok (.getfield 20, 3) := by decide +kernel
theorem dX6_keep_46 : decode cX6_keep 46 = .ok (.iload_n 2, 1) := by decide +kernel
theorem dX6_keep_47 : decode cX6_keep 47 = .ok (.iaload, 1) := by decide +kernel
theorem dX6_keep_48 : decode cX6_keep 48 = .ok (.iastore, 1) := by decide +kernel
theorem dX6_keep_49 : decode cX6_keep 49 = .ok (.iinc 2 1, 3) := by decide +kernel
theorem dX6_keep_52 : decode cX6_keep 52 = .ok (.goto (-26), 3) := by decide +kernel
theorem dX6_keep_55 : decode cX6_keep 55 = .ok (.aload_n 0, 1) := by decide +kernel
theorem dX6_keep_56 : decode cX6_keep 56 = .ok (.getfield 20, 3) := by decide +kernel
theorem dX6_keep_59 : decode cX6_keep 59 = .ok (.iconst 0, 1) := by decide +kernel
theorem dX6_keep_60 : decode cX6_keep 60 = .ok (.iaload, 1) := by decide +kernel
theorem dX6_keep_61 : decode cX6_keep 61 = .ok (.ireturn, 1) := by decide +kernel
set_option maxRecDepth 20000 in
theorem ggX6_again_X6_in : GoodIn wsX6_again wsX6_in := goodIn_r _ [9] (by decide +kernel) (by decide +kernel)
set_option maxRecDepth 20000 in
theorem gX6_again_X6_in : GoodIn wsX6_again (va_wsS RX6 70 yX6_in wsX6_in) := goodIn_app (goodIn_of _ (by decide +kernel)) ggX6_again_X6_in
theorem dX6_again_0 : decode cX6_again 0 = .ok (.aload_n 0, 1) := by decide +kernel
theorem dX6_again_1 : decode cX6_again 1 = .ok (.iconst 0, 1) := by decide +kernel
theorem dX6_again_2 : decode cX6_again 2 = .ok (.putfield 67, 3) := by decide +kernel
theorem dX6_again_5 : decode cX6_again 5 = .ok (.iload_n 1, 1) := by decide +kernel
theorem dX6_again_6 : decode cX6_again 6 = .ok (.i2l, 1) := by decide +kernel
theorem dX6_again_7 : decode cX6_again 7 = .ok (.lconst 0, 1) := by decide +kernel
theorem dX6_again_8 : decode cX6_again 8 = .ok (.lconst 1, 1) := by decide +kernel
theorem dX6_again_9 : decode cX6_again 9 = .ok (.invokestatic 70, 3) := by decide +kernel
theorem dX6_again_12 : decode cX6_again 12 = .ok (.ifCond .ne 5, 3) := by decide +kernel
theorem dX6_again_15 : decode cX6_again 15 = .ok (.iconst (-1), 1) := by decide +kernel
theorem dX6_again_16 : decode cX6_again 16 = .ok (.ireturn, 1) := by decide +kernel
theorem dX6_again_17 : decode cX6_again 17 = .ok (.aload_n 0, 1) := by decide +kernel
theorem dX6_again_18 : decode cX6_again 18 = .ok (.getfield 32, 3) := by decide +kernel
theorem dX6_again_21 : decode cX6_again 21 = .ok (.iload_n 1, 1) := by decide +kernel
theorem dX6_again_22 : decode cX6_again 22 = .ok (.baload, 1) := by decide +kernel
theorem dX6_again_23 : decode cX6_again 23 = .ok (.ifCond .ne 6, 3) := by decide +kernel
theorem dX6_again_26 : decode cX6_again 26 = .ok (.bipush (-3), 2) := by decide +kernel
theorem dX6_again_28 : decode cX6_again 28 = .ok (.ireturn, 1) := by decide +kernel
theorem dX6_again_29 : decode cX6_again 29 = .ok (.iconst 0, 1) := by decide +kernel
theorem dX6_again_30 : decode cX6_again 30 = .ok (.istore_n 2, 1) := by decide +kernel
theorem dX6_again_31 : decode cX6_again 31 = .ok (.iload_n 2, 1) := by decide +kernel
theorem dX6_again_32 : decode cX6_again 32 = .ok (.bipush 50, 2) := by decide +kernel
theorem dX6_again_34 : decode cX6_again 34 = .ok (.if_icmp .ge 26, 3) := by decide +kernel
theorem dX6_again_37 : decode cX6_again 37 = .ok (.aload_n 0, 1) := by decide +kernel
theorem dX6_again_38 : decode cX6_again 38 = .ok (.getfield 20, 3) := by decide +kernel
theorem dX6_again_41 : decode cX6_again 41 = .ok (.iload_n 2, 1) := by decide +kernel
theorem dX6_again_42 : decode cX6_again 42 = .ok (.aload_n 0, 1) := by decide +kernel
theorem dX6_again_43 : decode cX6_again 43 = .ok (.getfield 29, 3) := by decide +kernel
theorem dX6_again_46 : decode cX6_again 46 = .ok (.bipush 50, 2) := by decide +kernel
theorem dX6_again_48 : decode cX6_again 48 = .ok (.iload_n 1, 1) := by decide +kernel
theorem dX6_again_49 : decode cX6_again 49 = .ok (.imul, 1) := by decide +kernel
theorem dX6_again_50 : decode cX6_again 50 = .ok (.iload_n 2, 1) := by decide +kernel
theorem dX6_again_51 : decode cX6_again 51 = .ok (.iadd, 1) := by decide +kernel
theorem dX6_again_52 : decode cX6_again 52 = .ok (.iaload, 1) := by decide +kernel
theorem dX6_again_53 : decode cX6_again 53 = .ok (.iastore, 1) := by decide +kernel
theorem dX6_again_54 : decode cX6_again 54 = .ok (.iinc 2 1, 3) := by decide +kernel
theorem dX6_again_57 : decode cX6_again 57 = .ok (.goto (-26), 3) := by decide +kernel
theorem dX6_again_60 : decode cX6_again 60 = .ok (.aload_n 0, 1) := by decide +kernel
theorem dX6_again_61 : decode cX6_again 61 = .ok (.iconst 0, 1) := by decide +kernel
theorem dX6_again_62 : decode cX6_again 62 = .ok (.putfield 100, 3) := by decide +kernel
theorem dX6_again_65 : decode cX6_again 65 = .ok (.aload_n 0, 1) := by decide +kernel
theorem dX6_again_66 : decode cX6_again 66 = .ok (.getfield 20, 3) := by decide +kernel
theorem dX6_again_69 : decode cX6_again 69 = .ok (.iconst 0, 1) := by decide +kernel
theorem dX6_again_70 : decode cX6_again 70 = .ok (.iaload, 1) := by decide +kernel
theorem dX6_again_71 : decode cX6_again 71 = .ok (.ireturn, 1) := by decide +kernel
theorem dX6_count_0 : decode cX6_count 0 = .ok (.aload_n 0, 1) := by decide +kernel
theorem dX6_count_1 : decode cX6_count 1 = .ok (.iconst 0, 1) := by decide +kernel
theorem dX6_count_2 : decode cX6_count 2 = .ok (.putfield 67, 3) := by decide +kernel
theorem dX6_count_5 : decode cX6_count 5 = .ok (.iload_n 1, 1) := by decide +kernel
theorem dX6_count_6 : decode cX6_count 6 = .ok (.tableswitch 72 0 5 #[38, 43, 48, 55, 62, 67], 38) := by decide +kernel
theorem dX6_count_44 : decode cX6_count 44 = .ok (.aload_n 0, 1) := by decide +kernel
theorem dX6_count_45 : decode cX6_count 45 = .ok (.getfield 76, 3) := by decide +kernel
theorem dX6_count_48 : decode cX6_count 48 = .ok (.ireturn, 1) := by decide +kernel
theorem dX6_count_49 : decode cX6_count 49 = .ok (.aload_n 0, 1) := by decide +kernel
theorem dX6_count_50 : decode cX6_count 50 = .ok (.getfield 13, 3) := by decide +kernel
theorem dX6_count_53 : decode cX6_count 53 = .ok (.ireturn, 1) := by decide +kernel
theorem dX6_count_54 : decode cX6_count 54 = .ok (.aload_n 0, 1) := by decide +kernel
theorem dX6_count_55 : decode cX6_count 55 = .ok (.getfield 20, 3) := by decide +kernel
theorem dX6_count_58 : decode cX6_count 58 = .ok (.iconst 0, 1) := by decide +kernel
theorem dX6_count_59 : decode cX6_count 59 = .ok (.iaload, 1) := by decide +kernel
theorem dX6_count_60 : decode cX6_count 60 = .ok (.ireturn, 1) := by decide +kernel
theorem dX6_count_61 : decode cX6_count 61 = .ok (.aload_n 0, 1) := by decide +kernel
theorem dX6_count_62 : decode cX6_count 62 = .ok (.getfield 20, 3) := by decide +kernel
theorem dX6_count_65 : decode cX6_count 65 = .ok (.iconst 1, 1) := by decide +kernel
theorem dX6_count_66 : decode cX6_count 66 = .ok (.iaload, 1) := by decide +kernel
theorem dX6_count_67 : decode cX6_count 67 = .ok (.ireturn, 1) := by decide +kernel
theorem dX6_count_68 : decode cX6_count 68 = .ok (.aload_n 0, 1) := by decide +kernel
theorem dX6_count_69 : decode cX6_count 69 = .ok (.getfield 100, 3) := by decide +kernel
theorem dX6_count_72 : decode cX6_count 72 = .ok (.ireturn, 1) := by decide +kernel
theorem dX6_count_73 : decode cX6_count 73 = .ok (.aload_n 0, 1) := by decide +kernel
theorem dX6_count_74 : decode cX6_count 74 = .ok (.getfield 260, 3) := by decide +kernel
theorem dX6_count_77 : decode cX6_count 77 = .ok (.ireturn, 1) := by decide +kernel
theorem dX6_count_78 : decode cX6_count 78 = .ok (.bipush (-2), 2) := by decide +kernel
theorem dX6_count_80 : decode cX6_count 80 = .ok (.ireturn, 1) := by decide +kernel
