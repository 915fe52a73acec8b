theorem dX6_init_0 : decode cX6_init 0 = .ok (.aload_n 0, 1) := by decide +kernel
theorem dX6_init_1 : decode cX6_init 1 = .ok (.invokespecial 1, 3) := by decide +kernel
theorem dX6_init_4 : decode cX6_init 4 = .ok (.aload_n 0, 1) := by decide +kernel
theorem dX6_init_5 : decode cX6_init 5 = .ok (.bipush 70, 2) := by decide +kernel
theorem dX6_init_7 : decode cX6_init 7 = .ok (.newarray .int, 2) := by decide +kernel
theorem dX6_init_9 : decode cX6_init 9 = .ok (.putfield 7, 3) := by decide +kernel
theorem dX6_init_12 : decode cX6_init 12 = .ok (.aload_n 0, 1) := by decide +kernel
theorem dX6_init_13 : decode cX6_init 13 = .ok (.iconst 1, 1) := by decide +kernel
theorem dX6_init_14 : decode cX6_init 14 = .ok (.putfield 13, 3) := by decide +kernel
theorem dX6_init_17 : decode cX6_init 17 = .ok (.aload_n 0, 1) := by decide +kernel
theorem dX6_init_18 : decode cX6_init 18 = .ok (.bipush 50, 2) := by decide +kernel
theorem dX6_init_20 : decode cX6_init 20 = .ok (.newarray .int, 2) := by decide +kernel
theorem dX6_init_22 : decode cX6_init 22 = .ok (.putfield 17, 3) := by decide +kernel
theorem dX6_init_25 : decode cX6_init 25 = .ok (.aload_n 0, 1) := by decide +kernel
theorem dX6_init_26 : decode cX6_init 26 = .ok (.bipush 50, 2) := by decide +kernel
theorem dX6_init_28 : decode cX6_init 28 = .ok (.newarray .int, 2) := by decide +kernel
theorem dX6_init_30 : decode cX6_init 30 = .ok (.putfield 20, 3) := by decide +kernel
theorem dX6_init_33 : decode cX6_init 33 = .ok (.aload_n 0, 1) := by decide +kernel
theorem dX6_init_34 : decode cX6_init 34 = .ok (.bipush 50, 2) := by decide +kernel
theorem dX6_init_36 : decode cX6_init 36 = .ok (.newarray .int, 2) := by decide +kernel
theorem dX6_init_38 : decode cX6_init 38 = .ok (.putfield 23, 3) := by decide +kernel
theorem dX6_init_41 : decode cX6_init 41 = .ok (.aload_n 0, 1) := by decide +kernel
theorem dX6_init_42 : decode cX6_init 42 = .ok (.sipush 700, 3) := by decide +kernel
theorem dX6_init_45 : decode cX6_init 45 = .ok (.newarray .int, 2) := by decide +kernel
theorem dX6_init_47 : decode cX6_init 47 = .ok (.putfield 26, 3) := by decide +kernel
theorem dX6_init_50 : decode cX6_init 50 = .ok (.aload_n 0, 1) := by decide +kernel
theorem dX6_init_51 : decode cX6_init 51 = .ok (.bipush 100, 2) := by decide +kernel
theorem dX6_init_53 : decode cX6_init 53 = .ok (.newarray .int, 2) := by decide +kernel
theorem dX6_init_55 : decode cX6_init 55 = .ok (.putfield 29, 3) := by decide +kernel
theorem dX6_init_58 : decode cX6_init 58 = .ok (.aload_n 0, 1) := by decide +kernel
theorem dX6_init_59 : decode cX6_init 59 = .ok (.iconst 2, 1) := by decide +kernel
theorem dX6_init_60 : decode cX6_init 60 = .ok (.newarray .boolean, 2) := by decide +kernel
theorem dX6_init_62 : decode cX6_init 62 = .ok (.putfield 32, 3) := by decide +kernel
theorem dX6_init_65 : decode cX6_init 65 = .ok (.aload_n 0, 1) := by decide +kernel
theorem dX6_init_66 : decode cX6_init 66 = .ok (.bipush 6, 2) := by decide +kernel
theorem dX6_init_68 : decode cX6_init 68 = .ok (.newarray .int, 2) := by decide +kernel
theorem dX6_init_70 : decode cX6_init 70 = .ok (.putfield 36, 3) := by decide +kernel
theorem dX6_init_73 : decode cX6_init 73 = .ok (.aload_n 0, 1) := by decide +kernel
theorem dX6_init_74 : decode cX6_init 74 = .ok (.bipush 6, 2) := by decide +kernel
theorem dX6_init_76 : decode cX6_init 76 = .ok (.newarray .int, 2) := by decide +kernel
theorem dX6_init_78 : decode cX6_init 78 = .ok (.putfield 39, 3) := by decide +kernel
theorem dX6_init_81 : decode cX6_init 81 = .ok (.aload_n 0, 1) := by decide +kernel
theorem dX6_init_82 : decode cX6_init 82 = .ok (.bipush 6, 2) := by decide +kernel
theorem dX6_init_84 : decode cX6_init 84 = .ok (.newarray .int, 2) := by decide +kernel
theorem dX6_init_86 : decode cX6_init 86 = .ok (.putfield 42, 3) := by decide +kernel
theorem dX6_init_89 : decode cX6_init 89 = .ok (.aload_n 0, 1) := by decide +kernel
theorem dX6_init_90 : decode cX6_init 90 = .ok (.bipush 6, 2) := by decide +kernel
theorem dX6_init_92 : decode cX6_init 92 = .ok (.newarray .int, 2) := by decide +kernel
theorem dX6_init_94 : decode cX6_init 94 = .ok (.putfield 45, 3) := by decide +kernel
theorem dX6_init_97 : decode cX6_init 97 = .ok (.aload_n 0, 1) := by decide +kernel
theorem dX6_init_98 : decode cX6_init 98 = .ok (.bipush 12, 2) := by decide +kernel
theorem dX6_init_100 : decode cX6_init 100 = .ok (.newarray .int, 2) := by decide +kernel
theorem dX6_init_102 : decode cX6_init 102 = .ok (.putfield 48, 3) := by decide +kernel
theorem dX6_init_105 : decode cX6_init 105 = .ok (.aload_n 0, 1) := by decide +kernel
theorem dX6_init_106 : decode cX6_init 106 = .ok (.bipush 18, 2) := by decide +kernel
theorem dX6_init_108 : decode cX6_init 108 = .ok (.newarray .int, 2) := by decide +kernel
theorem dX6_init_110 : decode cX6_init 110 = .ok (.putfield 51, 3) := by decide +kernel
theorem dX6_init_113 : decode cX6_init 113 = .ok (.aload_n 0, 1) := by decide +kernel
theorem dX6_init_114 : decode cX6_init 114 = .ok (.bipush 6, 2) := by decide +kernel
theorem dX6_init_116 : decode cX6_init 116 = .ok (.newarray .int, 2) := by decide +kernel
theorem dX6_init_118 : decode cX6_init 118 = .ok (.putfield 54, 3) := by decide +kernel
theorem dX6_init_121 : decode cX6_init 121 = .ok (.aload_n 0, 1) := by decide +kernel
theorem dX6_init_122 : decode cX6_init 122 = .ok (.bipush 25, 2) := by decide +kernel
theorem dX6_init_124 : decode cX6_init 124 = .ok (.newarray .long, 2) := by decide +kernel
theorem dX6_init_126 : decode cX6_init 126 = .ok (.putfield 57, 3) := by decide +kernel
theorem dX6_init_129 : decode cX6_init 129 = .ok (.aload_n 0, 1) := by decide +kernel
theorem dX6_init_130 : decode cX6_init 130 = .ok (.iconst 5, 1) := by decide +kernel
theorem dX6_init_131 : decode cX6_init 131 = .ok (.newarray .long, 2) := by decide +kernel
theorem dX6_init_133 : decode cX6_init 133 = .ok (.putfield 61, 3) := by decide +kernel
theorem dX6_init_136 : decode cX6_init 136 = .ok (.aload_n 0, 1) := by decide +kernel
theorem dX6_init_137 : decode cX6_init 137 = .ok (.bipush 25, 2) := by decide +kernel
theorem dX6_init_139 : decode cX6_init 139 = .ok (.newarray .long, 2) := by decide +kernel
theorem dX6_init_141 : decode cX6_init 141 = .ok (.putfield 64, 3) := by decide +kernel
theorem dX6_init_144 : decode cX6_init 144 = .ok (.iconst 0, 1) := by decide +kernel
theorem dX6_init_145 : decode cX6_init 145 = .ok (.istore_n 1, 1) := by decide +kernel
theorem dX6_init_146 : decode cX6_init 146 = .ok (.iload_n 1, 1) := by decide +kernel
theorem dX6_init_147 : decode cX6_init 147 = .ok (.bipush 12, 2) := by decide +kernel
theorem dX6_init_149 : decode cX6_init 149 = .ok (.if_icmp .ge 81, 3) := by decide +kernel
theorem dX6_init_152 : decode cX6_init 152 = .ok (.iload_n 1, 1) := by decide +kernel
theorem dX6_init_153 : decode cX6_init 153 = .ok (.bipush 6, 2) := by decide +kernel
theorem dX6_init_155 : decode cX6_init 155 = .ok (.irem, 1) := by decide +kernel
theorem dX6_init_156 : decode cX6_init 156 = .ok (.iconst 3, 1) := by decide +kernel
theorem dX6_init_157 : decode cX6_init 157 = .ok (.if_icmp .le 13, 3) := by decide +kernel
theorem dX6_init_160 : decode cX6_init 160 = .ok (.bipush 6, 2) := by decide +kernel
theorem dX6_init_162 : decode cX6_init 162 = .ok (.iload_n 1, 1) := by decide +kernel
theorem dX6_init_163 : decode cX6_init 163 = .ok (.bipush 6, 2) := by decide +kernel
theorem dX6_init_165 : decode cX6_init 165 = .ok (.irem, 1) := by decide +kernel
theorem dX6_init_166 : decode cX6_init 166 = .ok (.isub, 1) := by decide +kernel
theorem dX6_init_167 : decode cX6_init 167 = .ok (.goto 7, 3) := by decide +kernel
theorem dX6_init_170 : decode cX6_init 170 = .ok (.iload_n 1, 1) := by decide +kernel
theorem dX6_init_171 : decode cX6_init 171 = .ok (.bipush 6, 2) := by decide +kernel
theorem dX6_init_173 : decode cX6_init 173 = .ok (.irem, 1) := by decide +kernel
theorem dX6_init_174 : decode cX6_init 174 = .ok (.istore_n 2, 1) := by decide +kernel
theorem dX6_init_175 : decode cX6_init 175 = .ok (.iload_n 2, 1) := by decide +kernel
theorem dX6_init_176 : decode cX6_init 176 = .ok (.ifCond .ne 7, 3) := by decide +kernel
theorem dX6_init_179 : decode cX6_init 179 = .ok (.iconst 0, 1) := by decide +kernel
theorem dX6_init_180 : decode cX6_init 180 = .ok (.goto 25, 3) := by decide +kernel
theorem dX6_init_183 : decode cX6_init 183 = .ok (.iload_n 2, 1) := by decide +kernel
theorem dX6_init_184 : decode cX6_init 184 = .ok (.iconst 1, 1) := by decide +kernel
theorem dX6_init_185 : decode cX6_init 185 = .ok (.if_icmp .ne 8, 3) := by decide +kernel
theorem dX6_init_188 : decode cX6_init 188 = .ok (.bipush 50, 2) := by decide +kernel
theorem dX6_init_190 : decode cX6_init 190 = .ok (.goto 15, 3) := by decide +kernel
theorem dX6_init_193 : decode cX6_init 193 = .ok (.iload_n 2, 1) := by decide +kernel
theorem dX6_init_194 : decode cX6_init 194 = .ok (.iconst 2, 1) := by decide +kernel
theorem dX6_init_195 : decode cX6_init 195 = .ok (.if_icmp .ne 8, 3) := by decide +kernel
theorem dX6_init_198 : decode cX6_init 198 = .ok (.bipush 87, 2) := by decide +kernel
theorem dX6_init_200 : decode cX6_init 200 = .ok (.goto 5, 3) := by decide +kernel
theorem dX6_init_203 : decode cX6_init 203 = .ok (.bipush 100, 2) := by decide +kernel
theorem dX6_init_205 : decode cX6_init 205 = .ok (.istore_n 3, 1) := by decide +kernel
theorem dX6_init_206 : decode cX6_init 206 = .ok (.aload_n 0, 1) := by decide +kernel
theorem dX6_init_207 : decode cX6_init 207 = .ok (.getfield 48, 3) := by decide +kernel
theorem dX6_init_210 : decode cX6_init 210 = .ok (.iload_n 1, 1) := by decide +kernel
theorem dX6_init_211 : decode cX6_init 211 = .ok (.iload_n 1, 1) := by decide +kernel
theorem dX6_init_212 : decode cX6_init 212 = .ok (.bipush 6, 2) := by decide +kernel
theorem dX6_init_214 : decode cX6_init 214 = .ok (.if_icmp .le 8, 3) := by decide +kernel
theorem dX6_init_217 : decode cX6_init 217 = .ok (.iload_n 3, 1) := by decide +kernel
theorem dX6_init_218 : decode cX6_init 218 = .ok (.ineg, 1) := by decide +kernel
theorem dX6_init_219 : decode cX6_init 219 = .ok (.goto 4, 3) := by decide +kernel
theorem dX6_init_222 : decode cX6_init 222 = .ok (.iload_n 3, 1) := by decide +kernel
theorem dX6_init_223 : decode cX6_init 223 = .ok (.iastore, 1) := by decide +kernel
theorem dX6_init_224 : decode cX6_init 224 = .ok (.iinc 1 1, 3) := by decide +kernel
theorem dX6_init_227 : decode cX6_init 227 = .ok (.goto (-81), 3) := by decide +kernel
theorem dX6_init_230 : decode cX6_init 230 = .ok (.return_, 1) := by decide +kernel
theorem dX6_in_0 : decode cX6_in 0 = .ok (.lload_n 0, 1) := by decide +kernel
theorem dX6_in_1 : decode cX6_in 1 = .ok (.lload_n 2, 1) := by decide +kernel
theorem dX6_in_2 : decode cX6_in 2 = .ok (.lcmp, 1) := by decide +kernel
theorem dX6_in_3 : decode cX6_in 3 = .ok (.ifCond .lt 14, 3) := by decide +kernel
theorem dX6_in_6 : decode cX6_in 6 = .ok (.lload_n 0, 1) := by decide +kernel
theorem dX6_in_7 : decode cX6_in 7 = .ok (.lload 4, 2) := by decide +kernel
theorem dX6_in_9 : decode cX6_in 9 = .ok (.lcmp, 1) := by decide +kernel
theorem dX6_in_10 : decode cX6_in 10 = .ok (.ifCond .gt 7, 3) := by decide +kernel
theorem dX6_in_13 : decode cX6_in 13 = .ok (.iconst 1, 1) := by decide +kernel
theorem dX6_in_14 : decode cX6_in 14 = .ok (.goto 4, 3) := by decide +kernel
theorem dX6_in_17 : decode cX6_in 17 = .ok (.iconst 0, 1) := by decide +kernel
theorem dX6_in_18 : decode cX6_in 18 = .ok (.ireturn, 1) := by decide +kernel
theorem dX6_has_0 : decode cX6_has 0 = .ok (.iload_n 0, 1) := by decide +kernel
theorem dX6_has_1 : decode cX6_has 1 = .ok (.iload_n 1, 1) := by decide +kernel
theorem dX6_has_2 : decode cX6_has 2 = .ok (.ishr, 1) := by decide +kernel
theorem dX6_has_3 : decode cX6_has 3 = .ok (.iconst 1, 1) := by decide +kernel
theorem dX6_has_4 : decode cX6_has 4 = .ok (.iand, 1) := by decide +kernel
theorem dX6_has_5 : decode cX6_has 5 = .ok (.iconst 1, 1) := by decide +kernel
theorem dX6_has_6 : decode cX6_has 6 = .ok (.if_icmp .ne 7, 3) := by decide +kernel
theorem dX6_has_9 : decode cX6_has 9 = .ok (.iconst 1, 1) := by decide +kernel
theorem dX6_has_10 : decode cX6_has 10 = .ok (.goto 4, 3) := by decide +kernel
theorem dX6_has_13 : decode cX6_has 13 = .ok (.iconst 0, 1) := by decide +kernel
theorem dX6_has_14 : decode cX6_has 14 = .ok (.ireturn, 1) := by decide +kernel
theorem dX6_ones_0 : decode cX6_ones 0 = .ok (.iconst 0, 1) := by decide +kernel
theorem dX6_ones_1 : decode cX6_ones 1 = .ok (.istore_n 1, 1) := by decide +kernel
theorem dX6_ones_2 : decode cX6_ones 2 = .ok (.iconst 0, 1) := by decide +kernel
theorem dX6_ones_3 : decode cX6_ones 3 = .ok (.istore_n 2, 1) := by decide +kernel
theorem dX6_ones_4 : decode cX6_ones 4 = .ok (.iload_n 2, 1) := by decide +kernel
theorem dX6_ones_5 : decode cX6_ones 5 = .ok (.bipush 8, 2) := by decide +kernel
theorem dX6_ones_7 : decode cX6_ones 7 = .ok (.if_icmp .ge 17, 3) := by decide +kernel
theorem dX6_ones_10 : decode cX6_ones 10 = .ok (.iload_n 1, 1) := by decide +kernel
theorem dX6_ones_11 : decode cX6_ones 11 = .ok (.iload_n 0, 1) := by decide +kernel
theorem dX6_ones_12 : decode cX6_ones 12 = .ok (.iload_n 2, 1) := by decide +kernel
theorem dX6_ones_13 : decode cX6_ones 13 = .ok (.ishr, 1) := by decide +kernel
theorem dX6_ones_14 : decode cX6_ones 14 = .ok (.iconst 1, 1) := by decide +kernel
theorem dX6_ones_15 : decode cX6_ones 15 = .ok (.iand, 1) := by decide +kernel
theorem dX6_ones_16 : decode cX6_ones 16 = .ok (.iadd, 1) := by decide +kernel
theorem dX6_ones_17 : decode cX6_ones 17 = .ok (.istore_n 1, 1) := by decide +kernel
theorem dX6_ones_18 : decode cX6_ones 18 = .ok (.iinc 2 1, 3) := by decide +kernel
theorem dX6_ones_21 : decode cX6_ones 21 = .ok (.goto (-17), 3) := by decide +kernel
theorem dX6_ones_24 : decode cX6_ones 24 = .ok (.iload_n 1, 1) := by decide +kernel
theorem dX6_ones_25 : decode cX6_ones 25 = .ok (.ireturn, 1) := by decide +kernel
theorem dX6_power_0 : decode cX6_power 0 = .ok (.iconst 1, 1) := by decide +kernel
theorem dX6_power_1 : decode cX6_power 1 = .ok (.istore_n 2, 1) := by decide +kernel
theorem dX6_power_2 : decode cX6_power 2 = .ok (.iconst 0, 1) := by decide +kernel
theorem dX6_power_3 : decode cX6_power 3 = .ok (.istore_n 3, 1) := by decide +kernel
theorem dX6_power_4 : decode cX6_power 4 = .ok (.iload_n 3, 1) := by decide +kernel
theorem dX6_power_5 : decode cX6_power 5 = .ok (.iload_n 1, 1) := by decide +kernel
theorem dX6_power_6 : decode cX6_power 6 = .ok (.if_icmp .ge 13, 3) := by decide +kernel
theorem dX6_power_9 : decode cX6_power 9 = .ok (.iload_n 2, 1) := by decide +kernel
theorem dX6_power_10 : decode cX6_power 10 = .ok (.iload_n 0, 1) := by decide +kernel
theorem dX6_power_11 : decode cX6_power 11 = .ok (.imul, 1) := by decide +kernel
theorem dX6_power_12 : decode cX6_power 12 = .ok (.istore_n 2, 1) := by decide +kernel
theorem dX6_power_13 : decode cX6_power 13 = .ok (.iinc 3 1, 3) := by decide +kernel
theorem dX6_power_16 : decode cX6_power 16 = .ok (.goto (-12), 3) := by decide +kernel
theorem dX6_power_19 : decode cX6_power 19 = .ok (.iload_n 2, 1) := by decide +kernel
theorem dX6_power_20 : decode cX6_power 20 = .ok (.ireturn, 1) := by decide +kernel
theorem dX6_layTrial_0 : decode cX6_layTrial 0 = .ok (.iconst 0, 1) := by decide +kernel
theorem dX6_layTrial_1 : decode cX6_layTrial 1 = .ok (.istore_n 1, 1) := by decide +kernel
theorem dX6_layTrial_2 : decode cX6_layTrial 2 = .ok (.iload_n 1, 1) := by decide +kernel
theorem dX6_layTrial_3 : decode cX6_layTrial 3 = .ok (.bipush 50, 2) := by decide +kernel
theorem dX6_layTrial_5 : decode cX6_layTrial 5 = .ok (.if_icmp .ge 21, 3) := by decide +kernel
theorem dX6_layTrial_8 : decode cX6_layTrial 8 = .ok (.aload_n 0, 1) := by decide +kernel
theorem dX6_layTrial_9 : decode cX6_layTrial 9 = .ok (.getfield 23, 3) := by decide +kernel
theorem dX6_layTrial_12 : decode cX6_layTrial 12 = .ok (.iload_n 1, 1) := by decide +kernel
theorem dX6_layTrial_13 : decode cX6_layTrial 13 = .ok (.aload_n 0, 1) := by decide +kernel
theorem dX6_layTrial_14 : decode cX6_layTrial 14 = .ok (.getfield 20, 3) := by decide +kernel
theorem dX6_layTrial_17 : decode cX6_layTrial 17 = .ok (.iload_n 1, 1) := by decide +kernel
theorem dX6_layTrial_18 : decode cX6_layTrial 18 = .ok (.iaload, 1) := by decide +kernel
theorem dX6_layTrial_19 : decode cX6_layTrial 19 = .ok (.iastore, 1) := by decide +kernel
theorem dX6_layTrial_20 : decode cX6_layTrial 20 = .ok (.iinc 1 1, 3) := by decide +kernel
theorem dX6_layTrial_23 : decode cX6_layTrial 23 = .ok (.goto (-21), 3) := by decide +kernel
theorem dX6_layTrial_26 : decode cX6_layTrial 26 = .ok (.return_, 1) := by decide +kernel
set_option maxRecDepth 20000 in
theorem ggX6_noStation_X6_in : GoodIn wsX6_noStation wsX6_in := goodIn_r _ [5] (by decide +kernel) (by decide +kernel)
set_option maxRecDepth 20000 in
theorem gX6_noStation_X6_in : GoodIn wsX6_noStation (va_wsS RX6 70 yX6_in wsX6_in) := goodIn_app (goodIn_of _ (by decide +kernel)) ggX6_noStation_X6_in
theorem dX6_noStation_0 : decode cX6_noStation 0 = .ok (.iload_n 1, 1) := by decide +kernel
theorem dX6_noStation_1 : decode cX6_noStation 1 = .ok (.i2l, 1) := by decide +kernel
theorem dX6_noStation_2 : decode cX6_noStation 2 = .ok (.lconst 0, 1) := by decide +kernel
theorem dX6_noStation_3 : decode cX6_noStation 3 = .ok (.aload_n 0, 1) := by decide +kernel
theorem dX6_noStation_4 : decode cX6_noStation 4 = .ok (.getfield 13, 3) := by decide +kernel
theorem dX6_noStation_7 : decode cX6_noStation 7 = .ok (.iconst 1, 1) := by decide +kernel
theorem dX6_noStation_8 : decode cX6_noStation 8 = .ok (.isub, 1) := by decide +kernel
theorem dX6_noStation_9 : decode cX6_noStation 9 = .ok (.i2l, 1) := by decide +kernel
theorem dX6_noStation_10 : decode cX6_noStation 10 = .ok (.invokestatic 70, 3) := by decide +kernel
theorem dX6_noStation_13 : decode cX6_noStation 13 = .ok (.ifCond .ne 7, 3) := by decide +kernel
theorem dX6_noStation_16 : decode cX6_noStation 16 = .ok (.iconst 1, 1) := by decide +kernel
theorem dX6_noStation_17 : decode cX6_noStation 17 = .ok (.goto 4, 3) := by decide +kernel
theorem dX6_noStation_20 : decode cX6_noStation 20 = .ok (.iconst 0, 1) := by decide +kernel
theorem dX6_noStation_21 : decode cX6_noStation 21 = .ok (.ireturn, 1) := by decide +kernel
set_option maxRecDepth 20000 in
theorem ggX6_noLeg_X6_in : GoodIn wsX6_noLeg wsX6_in := goodIn_r _ [5] (by decide +kernel) (by decide +kernel)
set_option maxRecDepth 20000 in
theorem gX6_noLeg_X6_in : GoodIn wsX6_noLeg (va_wsS RX6 70 yX6_in wsX6_in) := goodIn_app (goodIn_of _ (by decide +kernel)) ggX6_noLeg_X6_in
theorem dX6_noLeg_0 : decode cX6_noLeg 0 = .ok (.iload_n 1, 1) := by decide +kernel
theorem dX6_noLeg_1 : decode cX6_noLeg 1 = .ok (.i2l, 1) := by decide +kernel
theorem dX6_noLeg_2 : decode cX6_noLeg 2 = .ok (.lconst 0, 1) := by decide +kernel
theorem dX6_noLeg_3 : decode cX6_noLeg 3 = .ok (.aload_n 0, 1) := by decide +kernel
theorem dX6_noLeg_4 : decode cX6_noLeg 4 = .ok (.getfield 20, 3) := by decide +kernel
theorem dX6_noLeg_7 : decode cX6_noLeg 7 = .ok (.iconst 0, 1) := by decide +kernel
theorem dX6_noLeg_8 : decode cX6_noLeg 8 = .ok (.iaload, 1) := by decide +kernel
theorem dX6_noLeg_9 : decode cX6_noLeg 9 = .ok (.iconst 1, 1) := by decide +kernel
theorem dX6_noLeg_10 : decode cX6_noLeg 10 = .ok (.isub, 1) := by decide +kernel
theorem dX6_noLeg_11 : decode cX6_noLeg 11 = .ok (.i2l, 1) := by decide +kernel
theorem dX6_noLeg_12 : decode cX6_noLeg 12 = .ok (.invokestatic 70, 3) := by decide +kernel
theorem dX6_noLeg_15 : decode cX6_noLeg 15 = .ok (.ifCond .ne 7, 3) := by decide +kernel
theorem dX6_noLeg_18 : decode cX6_noLeg 18 = .ok (.iconst 1, 1) := by decide +kernel
theorem dX6_noLeg_19 : decode cX6_noLeg 19 = .ok (.goto 4, 3) := by decide +kernel
theorem dX6_noLeg_22 : decode cX6_noLeg 22 = .ok (.iconst 0, 1) := by decide +kernel
theorem dX6_noLeg_23 : decode cX6_noLeg 23 = .ok (.ireturn, 1) := by decide +kernel
theorem dX6_all_0 : decode cX6_all 0 = .ok (.iconst 1, 1) := by decide +kernel
theorem dX6_all_1 : decode cX6_all 1 = .ok (.aload_n 0, 1) := by decide +kernel
theorem dX6_all_2 : decode cX6_all 2 = .ok (.iconst 0, 1) := by decide +kernel
theorem dX6_all_3 : decode cX6_all 3 = .ok (.iaload, 1) := by decide +kernel
theorem dX6_all_4 : decode cX6_all 4 = .ok (.ishl, 1) := by decide +kernel
theorem dX6_all_5 : decode cX6_all 5 = .ok (.iconst 1, 1) := by decide +kernel
theorem dX6_all_6 : decode cX6_all 6 = .ok (.isub, 1) := by decide +kernel
theorem dX6_all_7 : decode cX6_all 7 = .ok (.ireturn, 1) := by decide +kernel
theorem dX6_of_0 : decode cX6_of 0 = .ok (.aload_n 0, 1) := by decide +kernel
theorem dX6_of_1 : decode cX6_of 1 = .ok (.iconst 2, 1) := by decide +kernel
theorem dX6_of_2 : decode cX6_of 2 = .ok (.bipush 6, 2) := by decide +kernel
theorem dX6_of_4 : decode cX6_of 4 = .ok (.iload_n 1, 1) := by decide +kernel
theorem dX6_of_5 : decode cX6_of 5 = .ok (.imul, 1) := by decide +kernel
theorem dX6_of_6 : decode cX6_of 6 = .ok (.iadd, 1) := by decide +kernel
theorem dX6_of_7 : decode cX6_of 7 = .ok (.iload_n 2, 1) := by decide +kernel
theorem dX6_of_8 : decode cX6_of 8 = .ok (.iadd, 1) := by decide +kernel
theorem dX6_of_9 : decode cX6_of 9 = .ok (.iaload, 1) := by decide +kernel
theorem dX6_of_10 : decode cX6_of 10 = .ok (.ireturn, 1) := by decide +kernel
set_option maxRecDepth 20000 in
theorem ggX6_write_X6_in : GoodIn wsX6_write wsX6_in := goodIn_r _ [8] (by decide +kernel) (by decide +kernel)
set_option maxRecDepth 20000 in
theorem gX6_write_X6_in : GoodIn wsX6_write (va_wsS RX6 70 yX6_in wsX6_in) := goodIn_app (goodIn_of _ (by decide +kernel)) ggX6_write_X6_in
theorem dX6_write_0 : decode cX6_write 0 = .ok (.aload_n 0, 1) := by decide +kernel
theorem dX6_write_1 : decode cX6_write 1 = .ok (.iconst 0, 1) := by decide +kernel
theorem dX6_write_2 : decode cX6_write 2 = .ok (.putfield 67, 3) := by decide +kernel
theorem dX6_write_5 : decode cX6_write 5 = .ok (.iload_n 1, 1) := by decide +kernel
theorem dX6_write_6 : decode cX6_write 6 = .ok (.i2l, 1) := by decide +kernel
theorem dX6_write_7 : decode cX6_write 7 = .ok (.lconst 0, 1) := by decide +kernel
theorem dX6_write_8 : decode cX6_write 8 = .ok (.ldc2_w 74, 3) := by decide +kernel
theorem dX6_write_11 : decode cX6_write 11 = .ok (.invokestatic 70, 3) := by decide +kernel
theorem dX6_write_14 : decode cX6_write 14 = .ok (.ifCond .ne 6, 3) := by decide +kernel
theorem dX6_write_17 : decode cX6_write 17 = .ok (.bipush (-2), 2) := by decide +kernel
theorem dX6_write_19 : decode cX6_write 19 = .ok (.ireturn, 1) := by decide +kernel
theorem dX6_write_20 : decode cX6_write 20 = .ok (.aload_n 0, 1) := by decide +kernel
theorem dX6_write_21 : decode cX6_write 21 = .ok (.getfield 76, 3) := by decide +kernel
theorem dX6_write_24 : decode cX6_write 24 = .ok (.bipush 70, 2) := by decide +kernel
theorem dX6_write_26 : decode cX6_write 26 = .ok (.if_icmp .ne 6, 3) := by decide +kernel
theorem dX6_write_29 : decode cX6_write 29 = .ok (.bipush (-4), 2) := by decide +kernel
theorem dX6_write_31 : decode cX6_write 31 = .ok (.ireturn, 1) := by decide +kernel
theorem dX6_write_32 : decode cX6_write 32 = .ok (.aload_n 0, 1) := by decide +kernel
theorem dX6_write_33 : decode cX6_write 33 = .ok (.getfield 7, 3) := by decide +kernel
theorem dX6_write_36 : decode cX6_write 36 = .ok (.aload_n 0, 1) := by decide +kernel
theorem dX6_write_37 : decode cX6_write 37 = .ok (.getfield 76, 3) := by decide +kernel
theorem dX6_write_40 : decode cX6_write 40 = .ok (.iload_n 1, 1) := by decide +kernel
theorem dX6_write_41 : decode cX6_write 41 = .ok (.iastore, 1) := by decide +kernel
theorem dX6_write_42 : decode cX6_write 42 = .ok (.aload_n 0, 1) := by decide +kernel
theorem dX6_write_43 : decode cX6_write 43 = .ok (.dup, 1) := by decide +kernel
theorem dX6_write_44 : decode cX6_write 44 = .ok (.getfield 76, 3) := by decide +kernel
theorem dX6_write_47 : decode cX6_write 47 = .ok (.iconst 1, 1) := by decide +kernel
theorem dX6_write_48 : decode cX6_write 48 = .ok (.iadd, 1) := by decide +kernel
theorem dX6_write_49 : decode cX6_write 49 = .ok (.putfield 76, 3) := by decide +kernel
theorem dX6_write_52 : decode cX6_write 52 = .ok (.aload_n 0, 1) := by decide +kernel
theorem dX6_write_53 : decode cX6_write 53 = .ok (.getfield 76, 3) := by decide +kernel
theorem dX6_write_56 : decode cX6_write 56 = .ok (.ireturn, 1) := by decide +kernel
theorem dX6_wipe_0 : decode cX6_wipe 0 = .ok (.aload_n 0, 1) := by decide +kernel
theorem dX6_wipe_1 : decode cX6_wipe 1 = .ok (.iconst 0, 1) := by decide +kernel
theorem dX6_wipe_2 : decode cX6_wipe 2 = .ok (.putfield 67, 3) := by decide +kernel
theorem dX6_wipe_5 : decode cX6_wipe 5 = .ok (.aload_n 0, 1) := by decide +kernel
theorem dX6_wipe_6 : decode cX6_wipe 6 = .ok (.getfield 76, 3) := by decide +kernel
theorem dX6_wipe_9 : decode cX6_wipe 9 = .ok (.istore_n 1, 1) := by decide +kernel
theorem dX6_wipe_10 : decode cX6_wipe 10 = .ok (.aload_n 0, 1) := by decide +kernel
theorem dX6_wipe_11 : decode cX6_wipe 11 = .ok (.iconst 0, 1) := by decide +kernel
theorem dX6_wipe_12 : decode cX6_wipe 12 = .ok (.putfield 76, 3) := by decide +kernel
theorem dX6_wipe_15 : decode cX6_wipe 15 = .ok (.iload_n 1, 1) := by decide +kernel
theorem dX6_wipe_16 : decode cX6_wipe 16 = .ok (.ireturn, 1) := by decide +kernel
set_option maxRecDepth 20000 in
theorem ggX6_figure_X6_in : GoodIn wsX6_figure wsX6_in := goodIn_r _ [7] (by decide +kernel) (by decide +kernel)
set_option maxRecDepth 20000 in
theorem gX6_figure_X6_in : GoodIn wsX6_figure (va_wsS RX6 70 yX6_in wsX6_in) := goodIn_app (goodIn_of _ (by decide +kernel)) ggX6_figure_X6_in
theorem dX6_figure_0 : decode cX6_figure 0 = .ok (.aload_n 0, 1) := by decide +kernel
theorem dX6_figure_1 : decode cX6_figure 1 = .ok (.getfield 79, 3) := by decide +kernel
theorem dX6_figure_4 : decode cX6_figure 4 = .ok (.aload_n 0, 1) := by decide +kernel
theorem dX6_figure_5 : decode cX6_figure 5 = .ok (.getfield 76, 3) := by decide +kernel
theorem dX6_figure_8 : decode cX6_figure 8 = .ok (.if_icmp .ge 18, 3) := by decide +kernel
theorem dX6_figure_11 : decode cX6_figure 11 = .ok (.aload_n 0, 1) := by decide +kernel
theorem dX6_figure_12 : decode cX6_figure 12 = .ok (.getfield 7, 3) := by decide +kernel
theorem dX6_figure_15 : decode cX6_figure 15 = .ok (.aload_n 0, 1) := by decide +kernel
theorem dX6_figure_16 : decode cX6_figure 16 = .ok (.getfield 79, 3) := by decide +kernel
theorem dX6_figure_19 : decode cX6_figure 19 = .ok (.iaload, 1) := by decide +kernel
theorem dX6_figure_20 : decode cX6_figure 20 = .ok (.bipush 48, 2) := by decide +kernel
theorem dX6_figure_22 : decode cX6_figure 22 = .ok (.isub, 1) := by decide +kernel
theorem dX6_figure_23 : decode cX6_figure 23 = .ok (.goto 5, 3) := by decide +kernel
theorem dX6_figure_26 : decode cX6_figure 26 = .ok (.bipush (-9), 2) := by decide +kernel
theorem dX6_figure_28 : decode cX6_figure 28 = .ok (.istore_n 3, 1) := by decide +kernel
theorem dX6_figure_29 : decode cX6_figure 29 = .ok (.iload_n 3, 1) := by decide +kernel
theorem dX6_figure_30 : decode cX6_figure 30 = .ok (.i2l, 1) := by decide +kernel
theorem dX6_figure_31 : decode cX6_figure 31 = .ok (.iload_n 1, 1) := by decide +kernel
theorem dX6_figure_32 : decode cX6_figure 32 = .ok (.i2l, 1) := by decide +kernel
theorem dX6_figure_33 : decode cX6_figure 33 = .ok (.iload_n 2, 1) := by decide +kernel
theorem dX6_figure_34 : decode cX6_figure 34 = .ok (.i2l, 1) := by decide +kernel
theorem dX6_figure_35 : decode cX6_figure 35 = .ok (.invokestatic 70, 3) := by decide +kernel
theorem dX6_figure_38 : decode cX6_figure 38 = .ok (.ifCond .ne 6, 3) := by decide +kernel
theorem dX6_figure_41 : decode cX6_figure 41 = .ok (.bipush (-9), 2) := by decide +kernel
theorem dX6_figure_43 : decode cX6_figure 43 = .ok (.ireturn, 1) := by decide +kernel
theorem dX6_figure_44 : decode cX6_figure 44 = .ok (.aload_n 0, 1) := by decide +kernel
theorem dX6_figure_45 : decode cX6_figure 45 = .ok (.dup, 1) := by decide +kernel
theorem dX6_figure_46 : decode cX6_figure 46 = .ok (.getfield 79, 3) := by decide +kernel
theorem dX6_figure_49 : decode cX6_figure 49 = .ok (.iconst 1, 1) := by decide +kernel
theorem dX6_figure_50 : decode cX6_figure 50 = .ok (.iadd, 1) := by decide +kernel
theorem dX6_figure_51 : decode cX6_figure 51 = .ok (.putfield 79, 3) := by decide +kernel
theorem dX6_figure_54 : decode cX6_figure 54 = .ok (.iload_n 3, 1) := by decide +kernel
theorem dX6_figure_55 : decode cX6_figure 55 = .ok (.ireturn, 1) := by decide +kernel
set_option maxRecDepth 20000 in
theorem ggX6_bearing_X6_figure : GoodIn wsX6_bearing wsX6_figure := goodIn_r _ [8, 1, 2, 3, 9, 10, 7, 11, 12, 13, 14, 15, 16, 17, 18, 19, 20, 21, 22, 23, 24, 25, 26, 27, 28, 29, 30, 31, 32, 33, 34, 35, 36, 37, 38, 39] (by decide +kernel) (by decide +kernel)
set_option maxRecDepth 20000 in
theorem gX6_bearing_X6_figure : GoodIn wsX6_bearing (wsV RX6 82 RX6 yX6_figure wsX6_figure) := goodIn_app (goodIn_of _ (by decide +kernel)) ggX6_bearing_X6_figure
theorem dX6_bearing_0 : decode cX6_bearing 0 = .ok (.aload_n 0, 1) := by decide +kernel
theorem dX6_bearing_1 : decode cX6_bearing 1 = .ok (.getfield 79, 3) := by decide +kernel
theorem dX6_bearing_4 : decode cX6_bearing 4 = .ok (.aload_n 0, 1) := by decide +kernel
theorem dX6_bearing_5 : decode cX6_bearing 5 = .ok (.getfield 76, 3) := by decide +kernel
theorem dX6_bearing_8 : decode cX6_bearing 8 = .ok (.if_icmp .ge 15, 3) := by decide +kernel
theorem dX6_bearing_11 : decode cX6_bearing 11 = .ok (.aload_n 0, 1) := by decide +kernel
theorem dX6_bearing_12 : decode cX6_bearing 12 = .ok (.getfield 7, 3) := by decide +kernel
theorem dX6_bearing_15 : decode cX6_bearing 15 = .ok (.aload_n 0, 1) := by decide +kernel
theorem dX6_bearing_16 : decode cX6_bearing 16 = .ok (.getfield 79, 3) := by decide +kernel
theorem dX6_bearing_19 : decode cX6_bearing 19 = .ok (.iaload, 1) := by decide +kernel
theorem dX6_bearing_20 : decode cX6_bearing 20 = .ok (.goto 4, 3) := by decide +kernel
theorem dX6_bearing_23 : decode cX6_bearing 23 = .ok (.iconst 0, 1) := by decide +kernel
theorem dX6_bearing_24 : decode cX6_bearing 24 = .ok (.istore_n 1, 1) := by decide +kernel
theorem dX6_bearing_25 : decode cX6_bearing 25 = .ok (.iload_n 1, 1) := by decide +kernel
theorem dX6_bearing_26 : decode cX6_bearing 26 = .ok (.bipush 97, 2) := by decide +kernel
theorem dX6_bearing_28 : decode cX6_bearing 28 = .ok (.if_icmp .ne 8, 3) := by decide +kernel
theorem dX6_bearing_31 : decode cX6_bearing 31 = .ok (.bipush 10, 2) := by decide +kernel
theorem dX6_bearing_33 : decode cX6_bearing 33 = .ok (.goto 16, 3) := by decide +kernel
theorem dX6_bearing_36 : decode cX6_bearing 36 = .ok (.iload_n 1, 1) := by decide +kernel
theorem dX6_bearing_37 : decode cX6_bearing 37 = .ok (.bipush 98, 2) := by decide +kernel
theorem dX6_bearing_39 : decode cX6_bearing 39 = .ok (.if_icmp .ne 8, 3) := by decide +kernel
theorem dX6_bearing_42 : decode cX6_bearing 42 = .ok (.bipush 11, 2) := by decide +kernel
theorem dX6_bearing_44 : decode cX6_bearing 44 = .ok (.goto 5, 3) := by decide +kernel
theorem dX6_bearing_47 : decode cX6_bearing 47 = .ok (.bipush (-9), 2) := by decide +kernel
theorem dX6_bearing_49 : decode cX6_bearing 49 = .ok (.istore_n 2, 1) := by decide +kernel
theorem dX6_bearing_50 : decode cX6_bearing 50 = .ok (.aload_n 0, 1) := by decide +kernel
theorem dX6_bearing_51 : decode cX6_bearing 51 = .ok (.dup, 1) := by decide +kernel
theorem dX6_bearing_52 : decode cX6_bearing 52 = .ok (.getfield 79, 3) := by decide +kernel
theorem dX6_bearing_55 : decode cX6_bearing 55 = .ok (.iload_n 2, 1) := by decide +kernel
theorem dX6_bearing_56 : decode cX6_bearing 56 = .ok (.bipush (-9), 2) := by decide +kernel
theorem dX6_bearing_58 : decode cX6_bearing 58 = .ok (.if_icmp .ne 7, 3) := by decide +kernel
theorem dX6_bearing_61 : decode cX6_bearing 61 = .ok (.iconst 0, 1) := by decide +kernel
theorem dX6_bearing_62 : decode cX6_bearing 62 = .ok (.goto 4, 3) := by decide +kernel
theorem dX6_bearing_65 : decode cX6_bearing 65 = .ok (.iconst 1, 1) := by decide +kernel
theorem dX6_bearing_66 : decode cX6_bearing 66 = .ok (.iadd, 1) := by decide +kernel
theorem dX6_bearing_67 : decode cX6_bearing 67 = .ok (.putfield 79, 3) := by decide +kernel
theorem dX6_bearing_70 : decode cX6_bearing 70 = .ok (.iload_n 2, 1) := by decide +kernel
theorem dX6_bearing_71 : decode cX6_bearing 71 = .ok (.bipush (-9), 2) := by decide +kernel
theorem dX6_bearing_73 : decode cX6_bearing 73 = .ok (.if_icmp .ne 13, 3) := by decide +kernel
theorem dX6_bearing_76 : decode cX6_bearing 76 = .ok (.aload_n 0, 1) := by decide +kernel
theorem dX6_bearing_77 : decode cX6_bearing 77 = .ok (.iconst 0, 1) := by decide +kernel
theorem dX6_bearing_78 : decode cX6_bearing 78 = .ok (.bipush 9, 2) := by decide +kernel
theorem dX6_bearing_80 : decode cX6_bearing 80 = .ok (.invokevirtual 82, 3) := by decide +kernel
theorem dX6_bearing_83 : decode cX6_bearing 83 = .ok (.goto 4, 3) := by decide +kernel
theorem dX6_bearing_86 : decode cX6_bearing 86 = .ok (.iload_n 2, 1) := by decide +kernel
theorem dX6_bearing_87 : decode cX6_bearing 87 = .ok (.ireturn, 1) := by decide +kernel
set_option maxRecDepth 20000 in
theorem ggX6_readLeg_X6_figure : GoodIn wsX6_readLeg wsX6_figure := goodIn_r _ [9, 2, 10, 1, 11, 12, 8, 13, 18, 19, 20, 21, 22, 23, 24, 25, 26, 27, 28, 29, 30, 31, 32, 33, 34, 35, 36, 37, 38, 39, 40, 41, 42, 43, 44, 45] (by decide +kernel) (by decide +kernel)
set_option maxRecDepth 20000 in
theorem gX6_readLeg_X6_figure : GoodIn wsX6_readLeg (wsV RX6 82 RX6 yX6_figure wsX6_figure) := goodIn_app (goodIn_of _ (by decide +kernel)) ggX6_readLeg_X6_figure
set_option maxRecDepth 20000 in
theorem ggX6_readLeg_X6_bearing : GoodIn wsX6_readLeg wsX6_bearing := goodIn_r _ [17, 2, 10, 1, 5, 6, 7, 8, 9, 11, 12, 13, 18, 19, 20, 21, 22, 23, 24, 25, 26, 27, 28, 29, 30, 31, 32, 33, 34, 35, 36, 37, 38, 39, 40, 41, 42, 43, 44, 45] (by decide +kernel) (by decide +kernel)
set_option maxRecDepth 20000 in
theorem gX6_readLeg_X6_bearing : GoodIn wsX6_readLeg (wsV RX6 89 RX6 yX6_bearing wsX6_bearing) := goodIn_app (goodIn_of _ (by decide +kernel)) ggX6_readLeg_X6_bearing
theorem dX6_readLeg_0 : decode cX6_readLeg 0 = .ok (.aload_n 0, 1) := by decide +kernel
theorem dX6_readLeg_1 : decode cX6_readLeg 1 = .ok (.getfield 7, 3) := by decide +kernel
theorem dX6_readLeg_4 : decode cX6_readLeg 4 = .ok (.aload_n 0, 1) := by decide +kernel
theorem dX6_readLeg_5 : decode cX6_readLeg 5 = .ok (.getfield 79, 3) := by decide +kernel
theorem dX6_readLeg_8 : decode cX6_readLeg 8 = .ok (.iaload, 1) := by decide +kernel
theorem dX6_readLeg_9 : decode cX6_readLeg 9 = .ok (.bipush 108, 2) := by decide +kernel
theorem dX6_readLeg_11 : decode cX6_readLeg 11 = .ok (.if_icmp .ne 22, 3) := by decide +kernel
theorem dX6_readLeg_14 : decode cX6_readLeg 14 = .ok (.aload_n 0, 1) := by decide +kernel
theorem dX6_readLeg_15 : decode cX6_readLeg 15 = .ok (.getfield 17, 3) := by decide +kernel
theorem dX6_readLeg_18 : decode cX6_readLeg 18 = .ok (.iconst 0, 1) := by decide +kernel
theorem dX6_readLeg_19 : decode cX6_readLeg 19 = .ok (.iaload, 1) := by decide +kernel
theorem dX6_readLeg_20 : decode cX6_readLeg 20 = .ok (.bipush 8, 2) := by decide +kernel
theorem dX6_readLeg_22 : decode cX6_readLeg 22 = .ok (.if_icmp .eq 11, 3) := by decide +kernel
theorem dX6_readLeg_25 : decode cX6_readLeg 25 = .ok (.aload_n 0, 1) := by decide +kernel
theorem dX6_readLeg_26 : decode cX6_readLeg 26 = .ok (.getfield 86, 3) := by decide +kernel
theorem dX6_readLeg_29 : decode cX6_readLeg 29 = .ok (.iconst 1, 1) := by decide +kernel
theorem dX6_readLeg_30 : decode cX6_readLeg 30 = .ok (.if_icmp .ne 5, 3) := by decide +kernel
theorem dX6_readLeg_33 : decode cX6_readLeg 33 = .ok (.iconst 0, 1) := by decide +kernel
theorem dX6_readLeg_34 : decode cX6_readLeg 34 = .ok (.ireturn, 1) := by decide +kernel
theorem dX6_readLeg_35 : decode cX6_readLeg 35 = .ok (.aload_n 0, 1) := by decide +kernel
theorem dX6_readLeg_36 : decode cX6_readLeg 36 = .ok (.dup, 1) := by decide +kernel
theorem dX6_readLeg_37 : decode cX6_readLeg 37 = .ok (.getfield 79, 3) := by decide +kernel
theorem dX6_readLeg_40 : decode cX6_readLeg 40 = .ok (.iconst 1, 1) := by decide +kernel
theorem dX6_readLeg_41 : decode cX6_readLeg 41 = .ok (.iadd, 1) := by decide +kernel
theorem dX6_readLeg_42 : decode cX6_readLeg 42 = .ok (.putfield 79, 3) := by decide +kernel
theorem dX6_readLeg_45 : decode cX6_readLeg 45 = .ok (.iconst 2, 1) := by decide +kernel
theorem dX6_readLeg_46 : decode cX6_readLeg 46 = .ok (.bipush 6, 2) := by decide +kernel
theorem dX6_readLeg_48 : decode cX6_readLeg 48 = .ok (.aload_n 0, 1) := by decide +kernel
theorem dX6_readLeg_49 : decode cX6_readLeg 49 = .ok (.getfield 17, 3) := by decide +kernel
theorem dX6_readLeg_52 : decode cX6_readLeg 52 = .ok (.iconst 0, 1) := by decide +kernel
theorem dX6_readLeg_53 : decode cX6_readLeg 53 = .ok (.iaload, 1) := by decide +kernel
theorem dX6_readLeg_54 : decode cX6_readLeg 54 = .ok (.imul, 1) := by decide +kernel
theorem dX6_readLeg_55 : decode cX6_readLeg 55 = .ok (.iadd, 1) := by decide +kernel
theorem dX6_readLeg_56 : decode cX6_readLeg 56 = .ok (.istore_n 1, 1) := by decide +kernel
theorem dX6_readLeg_57 : decode cX6_readLeg 57 = .ok (.aload_n 0, 1) := by decide +kernel
theorem dX6_readLeg_58 : decode cX6_readLeg 58 = .ok (.iconst 0, 1) := by decide +kernel
theorem dX6_readLeg_59 : decode cX6_readLeg 59 = .ok (.aload_n 0, 1) := by decide +kernel
theorem dX6_readLeg_60 : decode cX6_readLeg 60 = .ok (.getfield 86, 3) := by decide +kernel
theorem dX6_readLeg_63 : decode cX6_readLeg 63 = .ok (.iconst 1, 1) := by decide +kernel
theorem dX6_readLeg_64 : decode cX6_readLeg 64 = .ok (.isub, 1) := by decide +kernel
theorem dX6_readLeg_65 : decode cX6_readLeg 65 = .ok (.invokevirtual 82, 3) := by decide +kernel
theorem dX6_readLeg_68 : decode cX6_readLeg 68 = .ok (.istore_n 2, 1) := by decide +kernel
theorem dX6_readLeg_69 : decode cX6_readLeg 69 = .ok (.iload_n 2, 1) := by decide +kernel
theorem dX6_readLeg_70 : decode cX6_readLeg 70 = .ok (.bipush (-9), 2) := by decide +kernel
theorem dX6_readLeg_72 : decode cX6_readLeg 72 = .ok (.if_icmp .ne 8, 3) := by decide +kernel
theorem dX6_readLeg_75 : decode cX6_readLeg 75 = .ok (.bipush (-9), 2) := by decide +kernel
theorem dX6_readLeg_77 : decode cX6_readLeg 77 = .ok (.goto 14, 3) := by decide +kernel
theorem dX6_readLeg_80 : decode cX6_readLeg 80 = .ok (.aload_n 0, 1) := by decide +kernel
theorem dX6_readLeg_81 : decode cX6_readLeg 81 = .ok (.iconst 0, 1) := by decide +kernel
theorem dX6_readLeg_82 : decode cX6_readLeg 82 = .ok (.aload_n 0, 1) := by decide +kernel
theorem dX6_readLeg_83 : decode cX6_readLeg 83 = .ok (.getfield 86, 3) := by decide +kernel
theorem dX6_readLeg_86 : decode cX6_readLeg 86 = .ok (.iconst 1, 1) := by decide +kernel
theorem dX6_readLeg_87 : decode cX6_readLeg 87 = .ok (.isub, 1) := by decide +kernel
theorem dX6_readLeg_88 : decode cX6_readLeg 88 = .ok (.invokevirtual 82, 3) := by decide +kernel
theorem dX6_readLeg_91 : decode cX6_readLeg 91 = .ok (.istore_n 3, 1) := by decide +kernel
theorem dX6_readLeg_92 : decode cX6_readLeg 92 = .ok (.iload_n 3, 1) := by decide +kernel
theorem dX6_readLeg_93 : decode cX6_readLeg 93 = .ok (.bipush (-9), 2) := by decide +kernel
theorem dX6_readLeg_95 : decode cX6_readLeg 95 = .ok (.if_icmp .ne 5, 3) := by decide +kernel
theorem dX6_readLeg_98 : decode cX6_readLeg 98 = .ok (.iconst 0, 1) := by decide +kernel
theorem dX6_readLeg_99 : decode cX6_readLeg 99 = .ok (.ireturn, 1) := by decide +kernel
theorem dX6_readLeg_100 : decode cX6_readLeg 100 = .ok (.iload_n 3, 1) := by decide +kernel
theorem dX6_readLeg_101 : decode cX6_readLeg 101 = .ok (.iload_n 2, 1) := by decide +kernel
theorem dX6_readLeg_102 : decode cX6_readLeg 102 = .ok (.if_icmp .ne 15, 3) := by decide +kernel
theorem dX6_readLeg_105 : decode cX6_readLeg 105 = .ok (.aload_n 0, 1) := by decide +kernel
theorem dX6_readLeg_106 : decode cX6_readLeg 106 = .ok (.dup, 1) := by decide +kernel
theorem dX6_readLeg_107 : decode cX6_readLeg 107 = .ok (.getfield 79, 3) := by decide +kernel
theorem dX6_readLeg_110 : decode cX6_readLeg 110 = .ok (.iconst 1, 1) := by decide +kernel
theorem dX6_readLeg_111 : decode cX6_readLeg 111 = .ok (.isub, 1) := by decide +kernel
theorem dX6_readLeg_112 : decode cX6_readLeg 112 = .ok (.putfield 79, 3) := by decide +kernel
theorem dX6_readLeg_115 : decode cX6_readLeg 115 = .ok (.iconst 0, 1) := by decide +kernel
theorem dX6_readLeg_116 : decode cX6_readLeg 116 = .ok (.ireturn, 1) := by decide +kernel
theorem dX6_readLeg_117 : decode cX6_readLeg 117 = .ok (.aload_n 0, 1) := by decide +kernel
theorem dX6_readLeg_118 : decode cX6_readLeg 118 = .ok (.iconst 0, 1) := by decide +kernel
theorem dX6_readLeg_119 : decode cX6_readLeg 119 = .ok (.bipush 9, 2) := by decide +kernel
theorem dX6_readLeg_121 : decode cX6_readLeg 121 = .ok (.invokevirtual 82, 3) := by decide +kernel
theorem dX6_readLeg_124 : decode cX6_readLeg 124 = .ok (.istore 4, 2) := by decide +kernel
theorem dX6_readLeg_126 : decode cX6_readLeg 126 = .ok (.iload 4, 2) := by decide +kernel
theorem dX6_readLeg_128 : decode cX6_readLeg 128 = .ok (.bipush (-9), 2) := by decide +kernel
theorem dX6_readLeg_130 : decode cX6_readLeg 130 = .ok (.if_icmp .ne 8, 3) := by decide +kernel
theorem dX6_readLeg_133 : decode cX6_readLeg 133 = .ok (.bipush (-9), 2) := by decide +kernel
theorem dX6_readLeg_135 : decode cX6_readLeg 135 = .ok (.goto 19, 3) := by decide +kernel
theorem dX6_readLeg_138 : decode cX6_readLeg 138 = .ok (.aload_n 0, 1) := by decide +kernel
theorem dX6_readLeg_139 : decode cX6_readLeg 139 = .ok (.iload 4, 2) := by decide +kernel
theorem dX6_readLeg_141 : decode cX6_readLeg 141 = .ok (.ifCond .ne 7, 3) := by decide +kernel
theorem dX6_readLeg_144 : decode cX6_readLeg 144 = .ok (.iconst 1, 1) := by decide +kernel
theorem dX6_readLeg_145 : decode cX6_readLeg 145 = .ok (.goto 4, 3) := by decide +kernel
theorem dX6_readLeg_148 : decode cX6_readLeg 148 = .ok (.iconst 0, 1) := by decide +kernel
theorem dX6_readLeg_149 : decode cX6_readLeg 149 = .ok (.bipush 9, 2) := by decide +kernel
theorem dX6_readLeg_151 : decode cX6_readLeg 151 = .ok (.invokevirtual 82, 3) := by decide +kernel
theorem dX6_readLeg_154 : decode cX6_readLeg 154 = .ok (.istore 5, 2) := by decide +kernel
theorem dX6_readLeg_156 : decode cX6_readLeg 156 = .ok (.iload 5, 2) := by decide +kernel
theorem dX6_readLeg_158 : decode cX6_readLeg 158 = .ok (.bipush (-9), 2) := by decide +kernel
theorem dX6_readLeg_160 : decode cX6_readLeg 160 = .ok (.if_icmp .ne 8, 3) := by decide +kernel
theorem dX6_readLeg_163 : decode cX6_readLeg 163 = .ok (.bipush (-9), 2) := by decide +kernel
theorem dX6_readLeg_165 : decode cX6_readLeg 165 = .ok (.goto 7, 3) := by decide +kernel
theorem dX6_readLeg_168 : decode cX6_readLeg 168 = .ok (.aload_n 0, 1) := by decide +kernel
theorem dX6_readLeg_169 : decode cX6_readLeg 169 = .ok (.invokevirtual 89, 3) := by decide +kernel
theorem dX6_readLeg_172 : decode cX6_readLeg 172 = .ok (.istore 6, 2) := by decide +kernel
theorem dX6_readLeg_174 : decode cX6_readLeg 174 = .ok (.iload 6, 2) := by decide +kernel
theorem dX6_readLeg_176 : decode cX6_readLeg 176 = .ok (.bipush (-9), 2) := by decide +kernel
theorem dX6_readLeg_178 : decode cX6_readLeg 178 = .ok (.if_icmp .ne 8, 3) := by decide +kernel
theorem dX6_readLeg_181 : decode cX6_readLeg 181 = .ok (.bipush (-9), 2) := by decide +kernel
theorem dX6_readLeg_183 : decode cX6_readLeg 183 = .ok (.goto 9, 3) := by decide +kernel
theorem dX6_readLeg_186 : decode cX6_readLeg 186 = .ok (.aload_n 0, 1) := by decide +kernel
theorem dX6_readLeg_187 : decode cX6_readLeg 187 = .ok (.iconst 0, 1) := by decide +kernel
theorem dX6_readLeg_188 : decode cX6_readLeg 188 = .ok (.iconst 4, 1) := by decide +kernel
theorem dX6_readLeg_189 : decode cX6_readLeg 189 = .ok (.invokevirtual 82, 3) := by decide +kernel
theorem dX6_readLeg_192 : decode cX6_readLeg 192 = .ok (.istore 7, 2) := by decide +kernel
theorem dX6_readLeg_194 : decode cX6_readLeg 194 = .ok (.iload 7, 2) := by decide +kernel
theorem dX6_readLeg_196 : decode cX6_readLeg 196 = .ok (.bipush (-9), 2) := by decide +kernel
theorem dX6_readLeg_198 : decode cX6_readLeg 198 = .ok (.if_icmp .ne 8, 3) := by decide +kernel
theorem dX6_readLeg_201 : decode cX6_readLeg 201 = .ok (.bipush (-9), 2) := by decide +kernel
theorem dX6_readLeg_203 : decode cX6_readLeg 203 = .ok (.goto 10, 3) := by decide +kernel
theorem dX6_readLeg_206 : decode cX6_readLeg 206 = .ok (.aload_n 0, 1) := by decide +kernel
theorem dX6_readLeg_207 : decode cX6_readLeg 207 = .ok (.iconst 1, 1) := by decide +kernel
theorem dX6_readLeg_208 : decode cX6_readLeg 208 = .ok (.bipush 9, 2) := by decide +kernel
theorem dX6_readLeg_210 : decode cX6_readLeg 210 = .ok (.invokevirtual 82, 3) := by decide +kernel
theorem dX6_readLeg_213 : decode cX6_readLeg 213 = .ok (.istore 8, 2) := by decide +kernel
theorem dX6_readLeg_215 : decode cX6_readLeg 215 = .ok (.iload 8, 2) := by decide +kernel
theorem dX6_readLeg_217 : decode cX6_readLeg 217 = .ok (.bipush (-9), 2) := by decide +kernel
theorem dX6_readLeg_219 : decode cX6_readLeg 219 = .ok (.if_icmp .ne 5, 3) := by decide +kernel
theorem dX6_readLeg_222 : decode cX6_readLeg 222 = .ok (.iconst 0, 1) := by decide +kernel
theorem dX6_readLeg_223 : decode cX6_readLeg 223 = .ok (.ireturn, 1) := by decide +kernel
theorem dX6_readLeg_224 : decode cX6_readLeg 224 = .ok (.aload_n 0, 1) := by decide +kernel
theorem dX6_readLeg_225 : decode cX6_readLeg 225 = .ok (.getfield 17, 3) := by decide +kernel
theorem dX6_readLeg_228 : decode cX6_readLeg 228 = .ok (.iload_n 1, 1) := by decide +kernel
theorem dX6_readLeg_229 : decode cX6_readLeg 229 = .ok (.iconst 0, 1) := by decide +kernel
theorem dX6_readLeg_230 : decode cX6_readLeg 230 = .ok (.iadd, 1) := by decide +kernel
theorem dX6_readLeg_231 : decode cX6_readLeg 231 = .ok (.bipush 10, 2) := by decide +kernel
theorem dX6_readLeg_233 : decode cX6_readLeg 233 = .ok (.iload 4, 2) := by decide +kernel
theorem dX6_readLeg_235 : decode cX6_readLeg 235 = .ok (.imul, 1) := by decide +kernel
theorem dX6_readLeg_236 : decode cX6_readLeg 236 = .ok (.iload 5, 2) := by decide +kernel
theorem dX6_readLeg_238 : decode cX6_readLeg 238 = .ok (.iadd, 1) := by decide +kernel
theorem dX6_readLeg_239 : decode cX6_readLeg 239 = .ok (.iastore, 1) := by decide +kernel
theorem dX6_readLeg_240 : decode cX6_readLeg 240 = .ok (.aload_n 0, 1) := by decide +kernel
theorem dX6_readLeg_241 : decode cX6_readLeg 241 = .ok (.getfield 17, 3) := by decide +kernel
theorem dX6_readLeg_244 : decode cX6_readLeg 244 = .ok (.iload_n 1, 1) := by decide +kernel
theorem dX6_readLeg_245 : decode cX6_readLeg 245 = .ok (.iconst 1, 1) := by decide +kernel
theorem dX6_readLeg_246 : decode cX6_readLeg 246 = .ok (.iadd, 1) := by decide +kernel
theorem dX6_readLeg_247 : decode cX6_readLeg 247 = .ok (.iload 6, 2) := by decide +kernel
theorem dX6_readLeg_249 : decode cX6_readLeg 249 = .ok (.iastore, 1) := by decide +kernel
theorem dX6_readLeg_250 : decode cX6_readLeg 250 = .ok (.aload_n 0, 1) := by decide +kernel
theorem dX6_readLeg_251 : decode cX6_readLeg 251 = .ok (.getfield 17, 3) := by decide +kernel
theorem dX6_readLeg_254 : decode cX6_readLeg 254 = .ok (.iload_n 1, 1) := by decide +kernel
theorem dX6_readLeg_255 : decode cX6_readLeg 255 = .ok (.iconst 2, 1) := by decide +kernel
theorem dX6_readLeg_256 : decode cX6_readLeg 256 = .ok (.iadd, 1) := by decide +kernel
theorem dX6_readLeg_257 : decode cX6_readLeg 257 = .ok (.iload 7, 2) := by decide +kernel
theorem dX6_readLeg_259 : decode cX6_readLeg 259 = .ok (.iastore, 1) := by decide +kernel
theorem dX6_readLeg_260 : decode cX6_readLeg 260 = .ok (.aload_n 0, 1) := by decide +kernel
theorem dX6_readLeg_261 : decode cX6_readLeg 261 = .ok (.getfield 17, 3) := by decide +kernel
theorem dX6_readLeg_264 : decode cX6_readLeg 264 = .ok (.iload_n 1, 1) := by decide +kernel
theorem dX6_readLeg_265 : decode cX6_readLeg 265 = .ok (.iconst 3, 1) := by decide +kernel
theorem dX6_readLeg_266 : decode cX6_readLeg 266 = .ok (.iadd, 1) := by decide +kernel
theorem dX6_readLeg_267 : decode cX6_readLeg 267 = .ok (.iload 8, 2) := by decide +kernel
theorem dX6_readLeg_269 : decode cX6_readLeg 269 = .ok (.iastore, 1) := by decide +kernel
theorem dX6_readLeg_270 : decode cX6_readLeg 270 = .ok (.aload_n 0, 1) := by decide +kernel
theorem dX6_readLeg_271 : decode cX6_readLeg 271 = .ok (.getfield 17, 3) := by decide +kernel
theorem dX6_readLeg_274 : decode cX6_readLeg 274 = .ok (.iload_n 1, 1) := by decide +kernel
theorem dX6_readLeg_275 : decode cX6_readLeg 275 = .ok (.iconst 4, 1) := by decide +kernel
theorem dX6_readLeg_276 : decode cX6_readLeg 276 = .ok (.iadd, 1) := by decide +kernel
theorem dX6_readLeg_277 : decode cX6_readLeg 277 = .ok (.iload_n 2, 1) := by decide +kernel
theorem dX6_readLeg_278 : decode cX6_readLeg 278 = .ok (.iastore, 1) := by decide +kernel
theorem dX6_readLeg_279 : decode cX6_readLeg 279 = .ok (.aload_n 0, 1) := by decide +kernel
theorem dX6_readLeg_280 : decode cX6_readLeg 280 = .ok (.getfield 17, 3) := by decide +kernel
theorem dX6_readLeg_283 : decode cX6_readLeg 283 = .ok (.iload_n 1, 1) := by decide +kernel
theorem dX6_readLeg_284 : decode cX6_readLeg 284 = .ok (.iconst 5, 1) := by decide +kernel
theorem dX6_readLeg_285 : decode cX6_readLeg 285 = .ok (.iadd, 1) := by decide +kernel
theorem dX6_readLeg_286 : decode cX6_readLeg 286 = .ok (.iload_n 3, 1) := by decide +kernel
theorem dX6_readLeg_287 : decode cX6_readLeg 287 = .ok (.iastore, 1) := by decide +kernel
theorem dX6_readLeg_288 : decode cX6_readLeg 288 = .ok (.aload_n 0, 1) := by decide +kernel
theorem dX6_readLeg_289 : decode cX6_readLeg 289 = .ok (.getfield 17, 3) := by decide +kernel
theorem dX6_readLeg_292 : decode cX6_readLeg 292 = .ok (.iconst 0, 1) := by decide +kernel
theorem dX6_readLeg_293 : decode cX6_readLeg 293 = .ok (.dup2, 1) := by decide +kernel
theorem dX6_readLeg_294 : decode cX6_readLeg 294 = .ok (.iaload, 1) := by decide +kernel
theorem dX6_readLeg_295 : decode cX6_readLeg 295 = .ok (.iconst 1, 1) := by decide +kernel
theorem dX6_readLeg_296 : decode cX6_readLeg 296 = .ok (.iadd, 1) := by decide +kernel
theorem dX6_readLeg_297 : decode cX6_readLeg 297 = .ok (.iastore, 1) := by decide +kernel
theorem dX6_readLeg_298 : decode cX6_readLeg 298 = .ok (.iconst 1, 1) := by decide +kernel
theorem dX6_readLeg_299 : decode cX6_readLeg 299 = .ok (.ireturn, 1) := by decide +kernel
set_option maxRecDepth 20000 in
theorem ggX6_readCave_X6_figure : GoodIn wsX6_readCave wsX6_figure := goodIn_r _ [10, 1, 3, 4, 11, 12, 9, 13, 22, 23, 24, 25, 26, 27, 28, 29, 30, 31, 32, 33, 34, 35, 36, 37, 38, 39, 40, 41, 42, 43, 44, 45, 46, 47, 48, 49] (by decide +kernel) (by decide +kernel)
set_option maxRecDepth 20000 in
theorem gX6_readCave_X6_figure : GoodIn wsX6_readCave (wsV RX6 82 RX6 yX6_figure wsX6_figure) := goodIn_app (goodIn_of _ (by decide +kernel)) ggX6_readCave_X6_figure
set_option maxRecDepth 20000 in
theorem ggX6_readCave_X6_readLeg : GoodIn wsX6_readCave wsX6_readLeg := goodIn_r _ [17, 4, 1, 2, 5, 6, 7, 8, 9, 10, 3, 11, 12, 13, 18, 19, 20, 21, 22, 23, 24, 25, 26, 27, 28, 29, 30, 31, 32, 33, 34, 35, 36, 37, 38, 39, 40, 41, 42, 43, 44, 45, 46, 47, 48, 49] (by decide +kernel) (by decide +kernel)
set_option maxRecDepth 20000 in
theorem gX6_readCave_X6_readLeg : GoodIn wsX6_readCave (wsV RX6 93 RX6 yX6_readLeg wsX6_readLeg) := goodIn_app (goodIn_of _ (by decide +kernel)) ggX6_readCave_X6_readLeg
theorem dX6_readCave_0 : decode cX6_readCave 0 = .ok (.aload_n 0, 1) := by decide +kernel
theorem dX6_readCave_1 : decode cX6_readCave 1 = .ok (.iconst 0, 1) := by decide +kernel
theorem dX6_readCave_2 : decode cX6_readCave 2 = .ok (.putfield 79, 3) := by decide +kernel
theorem dX6_readCave_5 : decode cX6_readCave 5 = .ok (.iconst 0, 1) := by decide +kernel
theorem dX6_readCave_6 : decode cX6_readCave 6 = .ok (.istore_n 1, 1) := by decide +kernel
theorem dX6_readCave_7 : decode cX6_readCave 7 = .ok (.iload_n 1, 1) := by decide +kernel
theorem dX6_readCave_8 : decode cX6_readCave 8 = .ok (.bipush 50, 2) := by decide +kernel
theorem dX6_readCave_10 : decode cX6_readCave 10 = .ok (.if_icmp .ge 16, 3) := by decide +kernel
theorem dX6_readCave_13 : decode cX6_readCave 13 = .ok (.aload_n 0, 1) := by decide +kernel
theorem dX6_readCave_14 : decode cX6_readCave 14 = .ok (.getfield 17, 3) := by decide +kernel
theorem dX6_readCave_17 : decode cX6_readCave 17 = .ok (.iload_n 1, 1) := by decide +kernel
theorem dX6_readCave_18 : decode cX6_readCave 18 = .ok (.iconst 0, 1) := by decide +kernel
theorem dX6_readCave_19 : decode cX6_readCave 19 = .ok (.iastore, 1) := by decide +kernel
theorem dX6_readCave_20 : decode cX6_readCave 20 = .ok (.iinc 1 1, 3) := by decide +kernel
theorem dX6_readCave_23 : decode cX6_readCave 23 = .ok (.goto (-16), 3) := by decide +kernel
theorem dX6_readCave_26 : decode cX6_readCave 26 = .ok (.aload_n 0, 1) := by decide +kernel
theorem dX6_readCave_27 : decode cX6_readCave 27 = .ok (.getfield 76, 3) := by decide +kernel
theorem dX6_readCave_30 : decode cX6_readCave 30 = .ok (.ifCond .eq 14, 3) := by decide +kernel
theorem dX6_readCave_33 : decode cX6_readCave 33 = .ok (.aload_n 0, 1) := by decide +kernel
theorem dX6_readCave_34 : decode cX6_readCave 34 = .ok (.getfield 7, 3) := by decide +kernel
theorem dX6_readCave_37 : decode cX6_readCave 37 = .ok (.iconst 0, 1) := by decide +kernel
theorem dX6_readCave_38 : decode cX6_readCave 38 = .ok (.iaload, 1) := by decide +kernel
theorem dX6_readCave_39 : decode cX6_readCave 39 = .ok (.bipush 67, 2) := by decide +kernel
theorem dX6_readCave_41 : decode cX6_readCave 41 = .ok (.if_icmp .eq 5, 3) := by decide +kernel
theorem dX6_readCave_44 : decode cX6_readCave 44 = .ok (.iconst 0, 1) := by decide +kernel
theorem dX6_readCave_45 : decode cX6_readCave 45 = .ok (.ireturn, 1) := by decide +kernel
theorem dX6_readCave_46 : decode cX6_readCave 46 = .ok (.aload_n 0, 1) := by decide +kernel
theorem dX6_readCave_47 : decode cX6_readCave 47 = .ok (.iconst 1, 1) := by decide +kernel
theorem dX6_readCave_48 : decode cX6_readCave 48 = .ok (.putfield 79, 3) := by decide +kernel
theorem dX6_readCave_51 : decode cX6_readCave 51 = .ok (.aload_n 0, 1) := by decide +kernel
theorem dX6_readCave_52 : decode cX6_readCave 52 = .ok (.aload_n 0, 1) := by decide +kernel
theorem dX6_readCave_53 : decode cX6_readCave 53 = .ok (.iconst 1, 1) := by decide +kernel
theorem dX6_readCave_54 : decode cX6_readCave 54 = .ok (.bipush 6, 2) := by decide +kernel
theorem dX6_readCave_56 : decode cX6_readCave 56 = .ok (.invokevirtual 82, 3) := by decide +kernel
theorem dX6_readCave_59 : decode cX6_readCave 59 = .ok (.putfield 86, 3) := by decide +kernel
theorem dX6_readCave_62 : decode cX6_readCave 62 = .ok (.aload_n 0, 1) := by decide +kernel
theorem dX6_readCave_63 : decode cX6_readCave 63 = .ok (.getfield 86, 3) := by decide +kernel
theorem dX6_readCave_66 : decode cX6_readCave 66 = .ok (.bipush (-9), 2) := by decide +kernel
theorem dX6_readCave_68 : decode cX6_readCave 68 = .ok (.if_icmp .ne 8, 3) := by decide +kernel
theorem dX6_readCave_71 : decode cX6_readCave 71 = .ok (.aload_n 0, 1) := by decide +kernel
theorem dX6_readCave_72 : decode cX6_readCave 72 = .ok (.getfield 79, 3) := by decide +kernel
theorem dX6_readCave_75 : decode cX6_readCave 75 = .ok (.ireturn, 1) := by decide +kernel
theorem dX6_readCave_76 : decode cX6_readCave 76 = .ok (.aload_n 0, 1) := by decide +kernel
theorem dX6_readCave_77 : decode cX6_readCave 77 = .ok (.getfield 79, 3) := by decide +kernel
theorem dX6_readCave_80 : decode cX6_readCave 80 = .ok (.aload_n 0, 1) := by decide +kernel
theorem dX6_readCave_81 : decode cX6_readCave 81 = .ok (.getfield 76, 3) := by decide +kernel
theorem dX6_readCave_84 : decode cX6_readCave 84 = .ok (.if_icmp .ge 15, 3) := by decide +kernel
theorem dX6_readCave_87 : decode cX6_readCave 87 = .ok (.aload_n 0, 1) := by decide +kernel
theorem dX6_readCave_88 : decode cX6_readCave 88 = .ok (.invokevirtual 93, 3) := by decide +kernel
theorem dX6_readCave_91 : decode cX6_readCave 91 = .ok (.ifCond .ne (-15), 3) := by decide +kernel
theorem dX6_readCave_94 : decode cX6_readCave 94 = .ok (.aload_n 0, 1) := by decide +kernel
theorem dX6_readCave_95 : decode cX6_readCave 95 = .ok (.getfield 79, 3) := by decide +kernel
theorem dX6_readCave_98 : decode cX6_readCave 98 = .ok (.ireturn, 1) := by decide +kernel
theorem dX6_readCave_99 : decode cX6_readCave 99 = .ok (.bipush (-9), 2) := by decide +kernel
theorem dX6_readCave_101 : decode cX6_readCave 101 = .ok (.ireturn, 1) := by decide +kernel
set_option maxRecDepth 20000 in
theorem ggX6_fault_X6_readCave : GoodIn wsX6_fault wsX6_readCave := goodIn_r _ [6, 7, 8, 9, 10, 11, 12, 13, 14, 5, 15, 16, 17, 18, 19, 20, 21, 22, 23, 24, 25, 26, 27, 28, 29, 30, 31, 32, 33, 34, 35, 36, 37, 38, 39, 40, 41, 42, 43, 44, 45, 46, 47, 48, 49, 50, 51, 52, 53, 54] (by decide +kernel) (by decide +kernel)
set_option maxRecDepth 20000 in
theorem gX6_fault_X6_readCave : GoodIn wsX6_fault (wsV RX6 97 RX6 yX6_readCave wsX6_readCave) := goodIn_app (goodIn_of _ (by decide +kernel)) ggX6_fault_X6_readCave
theorem dX6_fault_0 : decode cX6_fault 0 = .ok (.aload_n 0, 1) := by decide +kernel
theorem dX6_fault_1 : decode cX6_fault 1 = .ok (.iconst 0, 1) := by decide +kernel
theorem dX6_fault_2 : decode cX6_fault 2 = .ok (.putfield 67, 3) := by decide +kernel
theorem dX6_fault_5 : decode cX6_fault 5 = .ok (.aload_n 0, 1) := by decide +kernel
theorem dX6_fault_6 : decode cX6_fault 6 = .ok (.invokevirtual 97, 3) := by decide +kernel
theorem dX6_fault_9 : decode cX6_fault 9 = .ok (.ireturn, 1) := by decide +kernel
set_option maxRecDepth 20000 in
theorem ggX6_cave_X6_readCave : GoodIn wsX6_cave wsX6_readCave := goodIn_r _ [12, 13, 5, 14, 15, 2, 16, 17, 18, 11, 19, 20, 21, 22, 23, 24, 25, 26, 27, 28, 29, 30, 31, 32, 33, 34, 35, 36, 37, 38, 39, 40, 41, 42, 43, 44, 45, 46, 47, 48, 49, 50, 51, 52, 53, 54, 55, 56, 57, 58] (by decide +kernel) (by decide +kernel)
set_option maxRecDepth 20000 in
theorem gX6_cave_X6_readCave : GoodIn wsX6_cave (wsV RX6 97 RX6 yX6_readCave wsX6_readCave) := goodIn_app (goodIn_of _ (by decide +kernel)) ggX6_cave_X6_readCave
theorem dX6_cave_0 : decode cX6_cave 0 = .ok (.aload_n 0, 1) := by decide +kernel
theorem dX6_cave_1 : decode cX6_cave 1 = .ok (.iconst 0, 1) := by decide +kernel
theorem dX6_cave_2 : decode cX6_cave 2 = .ok (.putfield 67, 3) := by decide +kernel
theorem dX6_cave_5 : decode cX6_cave 5 = .ok (.aload_n 0, 1) := by decide +kernel
theorem dX6_cave_6 : decode cX6_cave 6 = .ok (.invokevirtual 97, 3) := by decide +kernel
theorem dX6_cave_9 : decode cX6_cave 9 = .ok (.bipush (-9), 2) := by decide +kernel
theorem dX6_cave_11 : decode cX6_cave 11 = .ok (.if_icmp .eq 6, 3) := by decide +kernel
theorem dX6_cave_14 : decode cX6_cave 14 = .ok (.bipush (-3), 2) := by decide +kernel
theorem dX6_cave_16 : decode cX6_cave 16 = .ok (.ireturn, 1) := by decide +kernel
theorem dX6_cave_17 : decode cX6_cave 17 = .ok (.aload_n 0, 1) := by decide +kernel
theorem dX6_cave_18 : decode cX6_cave 18 = .ok (.aload_n 0, 1) := by decide +kernel
theorem dX6_cave_19 : decode cX6_cave 19 = .ok (.getfield 86, 3) := by decide +kernel
theorem dX6_cave_22 : decode cX6_cave 22 = .ok (.putfield 13, 3) := by decide +kernel
theorem dX6_cave_25 : decode cX6_cave 25 = .ok (.iconst 0, 1) := by decide +kernel
theorem dX6_cave_26 : decode cX6_cave 26 = .ok (.istore_n 1, 1) := by decide +kernel
theorem dX6_cave_27 : decode cX6_cave 27 = .ok (.iload_n 1, 1) := by decide +kernel
theorem dX6_cave_28 : decode cX6_cave 28 = .ok (.bipush 50, 2) := by decide +kernel
theorem dX6_cave_30 : decode cX6_cave 30 = .ok (.if_icmp .ge 21, 3) := by decide +kernel
theorem dX6_cave_33 : decode cX6_cave 33 = .ok (.aload_n 0, 1) := by decide +kernel
theorem dX6_cave_34 : decode cX6_cave 34 = .ok (.getfield 20, 3) := by decide +kernel
theorem dX6_cave_37 : decode cX6_cave 37 = .ok (.iload_n 1, 1) := by decide +kernel
theorem dX6_cave_38 : decode cX6_cave 38 = .ok (.aload_n 0, 1) := by decide +kernel
theorem dX6_cave_39 : decode cX6_cave 39 = .ok (.getfield 17, 3) := by decide +kernel
theorem dX6_cave_42 : decode cX6_cave 42 = .ok (.iload_n 1, 1) := by decide +kernel
theorem dX6_cave_43 : decode cX6_cave 43 = .ok (.iaload, 1) := by decide +kernel
theorem dX6_cave_44 : decode cX6_cave 44 = .ok (.iastore, 1) := by decide +kernel
theorem dX6_cave_45 : decode cX6_cave 45 = .ok (.iinc 1 1, 3) := by decide +kernel
theorem dX6_cave_48 : decode cX6_cave 48 = .ok (.goto (-21), 3) := by decide +kernel
theorem dX6_cave_51 : decode cX6_cave 51 = .ok (.aload_n 0, 1) := by decide +kernel
theorem dX6_cave_52 : decode cX6_cave 52 = .ok (.iconst 0, 1) := by decide +kernel
theorem dX6_cave_53 : decode cX6_cave 53 = .ok (.putfield 100, 3) := by decide +kernel
theorem dX6_cave_56 : decode cX6_cave 56 = .ok (.aload_n 0, 1) := by decide +kernel
theorem dX6_cave_57 : decode cX6_cave 57 = .ok (.getfield 32, 3) := by decide +kernel
theorem dX6_cave_60 : decode cX6_cave 60 = .ok (.iconst 0, 1) := by decide +kernel
theorem dX6_cave_61 : decode cX6_cave 61 = .ok (.iconst 0, 1) := by decide +kernel
theorem dX6_cave_62 : decode cX6_cave 62 = .ok (.bastore, 1) := by decide +kernel
theorem dX6_cave_63 : decode cX6_cave 63 = .ok (.aload_n 0, 1) := by decide +kernel
theorem dX6_cave_64 : decode cX6_cave 64 = .ok (.getfield 32, 3) := by decide +kernel
theorem dX6_cave_67 : decode cX6_cave 67 = .ok (.iconst 1, 1) := by decide +kernel
theorem dX6_cave_68 : decode cX6_cave 68 = .ok (.iconst 0, 1) := by decide +kernel
theorem dX6_cave_69 : decode cX6_cave 69 = .ok (.bastore, 1) := by decide +kernel
theorem dX6_cave_70 : decode cX6_cave 70 = .ok (.aload_n 0, 1) := by decide +kernel
theorem dX6_cave_71 : decode cX6_cave 71 = .ok (.getfield 20, 3) := by decide +kernel
theorem dX6_cave_74 : decode cX6_cave 74 = .ok (.iconst 0, 1) := by decide +kernel
theorem dX6_cave_75 : decode cX6_cave 75 = .ok (.iaload, 1) := by decide +kernel
theorem dX6_cave_76 : decode cX6_cave 76 = .ok (.ireturn, 1) := by decide +kernel
theorem dX6_level_0 : decode cX6_level 0 = .ok (.iload_n 1, 1) := by decide +kernel
theorem dX6_level_1 : decode cX6_level 1 = .ok (.iconst 2, 1) := by decide +kernel
theorem dX6_level_2 : decode cX6_level 2 = .ok (.if_icmp .ne 7, 3) := by decide +kernel
theorem dX6_level_5 : decode cX6_level 5 = .ok (.iload_n 0, 1) := by decide +kernel
theorem dX6_level_6 : decode cX6_level 6 = .ok (.goto 30, 3) := by decide +kernel
theorem dX6_level_9 : decode cX6_level 9 = .ok (.iload_n 1, 1) := by decide +kernel
theorem dX6_level_10 : decode cX6_level 10 = .ok (.iconst 1, 1) := by decide +kernel
theorem dX6_level_11 : decode cX6_level 11 = .ok (.if_icmp .eq 8, 3) := by decide +kernel
theorem dX6_level_14 : decode cX6_level 14 = .ok (.iload_n 1, 1) := by decide +kernel
theorem dX6_level_15 : decode cX6_level 15 = .ok (.iconst 3, 1) := by decide +kernel
theorem dX6_level_16 : decode cX6_level 16 = .ok (.if_icmp .ne 13, 3) := by decide +kernel
theorem dX6_level_19 : decode cX6_level 19 = .ok (.iload_n 0, 1) := by decide +kernel
theorem dX6_level_20 : decode cX6_level 20 = .ok (.bipush 87, 2) := by decide +kernel
theorem dX6_level_22 : decode cX6_level 22 = .ok (.imul, 1) := by decide +kernel
theorem dX6_level_23 : decode cX6_level 23 = .ok (.bipush 100, 2) := by decide +kernel
theorem dX6_level_25 : decode cX6_level 25 = .ok (.idiv, 1) := by decide +kernel
theorem dX6_level_26 : decode cX6_level 26 = .ok (.goto 10, 3) := by decide +kernel
theorem dX6_level_29 : decode cX6_level 29 = .ok (.iload_n 0, 1) := by decide +kernel
theorem dX6_level_30 : decode cX6_level 30 = .ok (.bipush 50, 2) := by decide +kernel
theorem dX6_level_32 : decode cX6_level 32 = .ok (.imul, 1) := by decide +kernel
theorem dX6_level_33 : decode cX6_level 33 = .ok (.bipush 100, 2) := by decide +kernel
theorem dX6_level_35 : decode cX6_level 35 = .ok (.idiv, 1) := by decide +kernel
theorem dX6_level_36 : decode cX6_level 36 = .ok (.ireturn, 1) := by decide +kernel
theorem dX6_rise_0 : decode cX6_rise 0 = .ok (.iload_n 1, 1) := by decide +kernel
theorem dX6_rise_1 : decode cX6_rise 1 = .ok (.tableswitch 61 0 4 #[35, 44, 61, 49, 53], 35) := by decide +kernel
theorem dX6_rise_36 : decode cX6_rise 36 = .ok (.iload_n 0, 1) := by decide +kernel
theorem dX6_rise_37 : decode cX6_rise 37 = .ok (.bipush 87, 2) := by decide +kernel
theorem dX6_rise_39 : decode cX6_rise 39 = .ok (.imul, 1) := by decide +kernel
theorem dX6_rise_40 : decode cX6_rise 40 = .ok (.bipush 100, 2) := by decide +kernel
theorem dX6_rise_42 : decode cX6_rise 42 = .ok (.idiv, 1) := by decide +kernel
theorem dX6_rise_43 : decode cX6_rise 43 = .ok (.ineg, 1) := by decide +kernel
theorem dX6_rise_44 : decode cX6_rise 44 = .ok (.ireturn, 1) := by decide +kernel
theorem dX6_rise_45 : decode cX6_rise 45 = .ok (.iload_n 0, 1) := by decide +kernel
theorem dX6_rise_46 : decode cX6_rise 46 = .ok (.iconst 2, 1) := by decide +kernel
theorem dX6_rise_47 : decode cX6_rise 47 = .ok (.idiv, 1) := by decide +kernel
theorem dX6_rise_48 : decode cX6_rise 48 = .ok (.ineg, 1) := by decide +kernel
theorem dX6_rise_49 : decode cX6_rise 49 = .ok (.ireturn, 1) := by decide +kernel
theorem dX6_rise_50 : decode cX6_rise 50 = .ok (.iload_n 0, 1) := by decide +kernel
theorem dX6_rise_51 : decode cX6_rise 51 = .ok (.iconst 2, 1) := by decide +kernel
theorem dX6_rise_52 : decode cX6_rise 52 = .ok (.idiv, 1) := by decide +kernel
theorem dX6_rise_53 : decode cX6_rise 53 = .ok (.ireturn, 1) := by decide +kernel
theorem dX6_rise_54 : decode cX6_rise 54 = .ok (.iload_n 0, 1) := by decide +kernel
theorem dX6_rise_55 : decode cX6_rise 55 = .ok (.bipush 87, 2) := by decide +kernel
theorem dX6_rise_57 : decode cX6_rise 57 = .ok (.imul, 1) := by decide +kernel
theorem dX6_rise_58 : decode cX6_rise 58 = .ok (.bipush 100, 2) := by decide +kernel
theorem dX6_rise_60 : decode cX6_rise 60 = .ok (.idiv, 1) := by decide +kernel
theorem dX6_rise_61 : decode cX6_rise 61 = .ok (.ireturn, 1) := by decide +kernel
theorem dX6_rise_62 : decode cX6_rise 62 = .ok (.iconst 0, 1) := by decide +kernel
theorem dX6_rise_63 : decode cX6_rise 63 = .ok (.ireturn, 1) := by decide +kernel
set_option maxRecDepth 20000 in
theorem ggX6_stepOf_X6_of : GoodIn wsX6_stepOf wsX6_of := goodIn_r _ [5] (by decide +kernel) (by decide +kernel)
set_option maxRecDepth 20000 in
theorem gX6_stepOf_X6_of : GoodIn wsX6_stepOf (va_wsS RX6 103 yX6_of wsX6_of) := goodIn_app (goodIn_of _ (by decide +kernel)) ggX6_stepOf_X6_of
set_option maxRecDepth 20000 in
theorem ggX6_stepOf_X6_rise : GoodIn wsX6_stepOf wsX6_rise := goodIn_r _ [8] (by decide +kernel) (by decide +kernel)
set_option maxRecDepth 20000 in
theorem gX6_stepOf_X6_rise : GoodIn wsX6_stepOf (va_wsS RX6 107 yX6_rise wsX6_rise) := goodIn_app (goodIn_of _ (by decide +kernel)) ggX6_stepOf_X6_rise
set_option maxRecDepth 20000 in
theorem ggX6_stepOf_X6_level : GoodIn wsX6_stepOf wsX6_level := goodIn_r _ [11] (by decide +kernel) (by decide +kernel)
set_option maxRecDepth 20000 in
theorem gX6_stepOf_X6_level : GoodIn wsX6_stepOf (va_wsS RX6 110 yX6_level wsX6_level) := goodIn_app (goodIn_of _ (by decide +kernel)) ggX6_stepOf_X6_level
theorem dX6_stepOf_0 : decode cX6_stepOf 0 = .ok (.aload_n 1, 1) := by decide +kernel
theorem dX6_stepOf_1 : decode cX6_stepOf 1 = .ok (.iload_n 2, 1) := by decide +kernel
theorem dX6_stepOf_2 : decode cX6_stepOf 2 = .ok (.iconst 0, 1) := by decide +kernel
theorem dX6_stepOf_3 : decode cX6_stepOf 3 = .ok (.invokestatic 103, 3) := by decide +kernel
theorem dX6_stepOf_6 : decode cX6_stepOf 6 = .ok (.istore 4, 2) := by decide +kernel
theorem dX6_stepOf_8 : decode cX6_stepOf 8 = .ok (.aload_n 1, 1) := by decide +kernel
theorem dX6_stepOf_9 : decode cX6_stepOf 9 = .ok (.iload_n 2, 1) := by decide +kernel
theorem dX6_stepOf_10 : decode cX6_stepOf 10 = .ok (.iconst 2, 1) := by decide +kernel
theorem dX6_stepOf_11 : decode cX6_stepOf 11 = .ok (.invokestatic 103, 3) := by decide +kernel
theorem dX6_stepOf_14 : decode cX6_stepOf 14 = .ok (.istore 5, 2) := by decide +kernel
theorem dX6_stepOf_16 : decode cX6_stepOf 16 = .ok (.iload_n 3, 1) := by decide +kernel
theorem dX6_stepOf_17 : decode cX6_stepOf 17 = .ok (.iconst 2, 1) := by decide +kernel
theorem dX6_stepOf_18 : decode cX6_stepOf 18 = .ok (.if_icmp .ne 11, 3) := by decide +kernel
theorem dX6_stepOf_21 : decode cX6_stepOf 21 = .ok (.iload 4, 2) := by decide +kernel
theorem dX6_stepOf_23 : decode cX6_stepOf 23 = .ok (.iload 5, 2) := by decide +kernel
theorem dX6_stepOf_25 : decode cX6_stepOf 25 = .ok (.invokestatic 107, 3) := by decide +kernel
theorem dX6_stepOf_28 : decode cX6_stepOf 28 = .ok (.ireturn, 1) := by decide +kernel
theorem dX6_stepOf_29 : decode cX6_stepOf 29 = .ok (.iload 4, 2) := by decide +kernel
theorem dX6_stepOf_31 : decode cX6_stepOf 31 = .ok (.iload 5, 2) := by decide +kernel
theorem dX6_stepOf_33 : decode cX6_stepOf 33 = .ok (.invokestatic 110, 3) := by decide +kernel
theorem dX6_stepOf_36 : decode cX6_stepOf 36 = .ok (.aload_n 0, 1) := by decide +kernel
theorem dX6_stepOf_37 : decode cX6_stepOf 37 = .ok (.getfield 48, 3) := by decide +kernel
theorem dX6_stepOf_40 : decode cX6_stepOf 40 = .ok (.aload_n 1, 1) := by decide +kernel
theorem dX6_stepOf_41 : decode cX6_stepOf 41 = .ok (.iload_n 2, 1) := by decide +kernel
theorem dX6_stepOf_42 : decode cX6_stepOf 42 = .ok (.iconst 1, 1) := by decide +kernel
theorem dX6_stepOf_43 : decode cX6_stepOf 43 = .ok (.invokestatic 103, 3) := by decide +kernel
theorem dX6_stepOf_46 : decode cX6_stepOf 46 = .ok (.iconst 3, 1) := by decide +kernel
theorem dX6_stepOf_47 : decode cX6_stepOf 47 = .ok (.iload_n 3, 1) := by decide +kernel
theorem dX6_stepOf_48 : decode cX6_stepOf 48 = .ok (.imul, 1) := by decide +kernel
theorem dX6_stepOf_49 : decode cX6_stepOf 49 = .ok (.iadd, 1) := by decide +kernel
theorem dX6_stepOf_50 : decode cX6_stepOf 50 = .ok (.bipush 12, 2) := by decide +kernel
theorem dX6_stepOf_52 : decode cX6_stepOf 52 = .ok (.irem, 1) := by decide +kernel
theorem dX6_stepOf_53 : decode cX6_stepOf 53 = .ok (.iaload, 1) := by decide +kernel
theorem dX6_stepOf_54 : decode cX6_stepOf 54 = .ok (.imul, 1) := by decide +kernel
theorem dX6_stepOf_55 : decode cX6_stepOf 55 = .ok (.bipush 100, 2) := by decide +kernel
theorem dX6_stepOf_57 : decode cX6_stepOf 57 = .ok (.idiv, 1) := by decide +kernel
theorem dX6_stepOf_58 : decode cX6_stepOf 58 = .ok (.ireturn, 1) := by decide +kernel
set_option maxRecDepth 20000 in
theorem ggX6_leg_X6_noLeg : GoodIn wsX6_leg wsX6_noLeg := goodIn_r _ [8, 3, 9, 10, 7, 11, 26, 27, 28, 29, 30, 31, 32, 33, 34, 35, 36, 37, 38, 39, 40, 41, 42, 43, 44, 45, 46, 47, 48, 49, 50, 51, 52, 53] (by decide +kernel) (by decide +kernel)
set_option maxRecDepth 20000 in
theorem gX6_leg_X6_noLeg : GoodIn wsX6_leg (wsV RX6 113 RX6 yX6_noLeg wsX6_noLeg) := goodIn_app (goodIn_of _ (by decide +kernel)) ggX6_leg_X6_noLeg
set_option maxRecDepth 20000 in
theorem ggX6_leg_X6_in : GoodIn wsX6_leg wsX6_in := goodIn_r _ [11] (by decide +kernel) (by decide +kernel)
set_option maxRecDepth 20000 in
theorem gX6_leg_X6_in : GoodIn wsX6_leg (va_wsS RX6 70 yX6_in wsX6_in) := goodIn_app (goodIn_of _ (by decide +kernel)) ggX6_leg_X6_in
set_option maxRecDepth 20000 in
theorem ggX6_leg_X6_of : GoodIn wsX6_leg wsX6_of := goodIn_r _ [14] (by decide +kernel) (by decide +kernel)
set_option maxRecDepth 20000 in
theorem gX6_leg_X6_of : GoodIn wsX6_leg (va_wsS RX6 103 yX6_of wsX6_of) := goodIn_app (goodIn_of _ (by decide +kernel)) ggX6_leg_X6_of
set_option maxRecDepth 20000 in
theorem ggX6_leg_X6_stepOf : GoodIn wsX6_leg wsX6_stepOf := goodIn_r _ [18, 19, 12, 13, 7, 14, 20, 21, 22, 23, 24, 25, 26, 27, 28, 29, 30, 31, 32, 33, 34, 35, 36, 37, 38, 39, 40, 41, 42, 43, 44, 45, 46, 47, 48, 49, 50, 51, 52, 53] (by decide +kernel) (by decide +kernel)
set_option maxRecDepth 20000 in
theorem gX6_leg_X6_stepOf : GoodIn wsX6_leg (wsV RX6 119 RX6 yX6_stepOf wsX6_stepOf) := goodIn_app (goodIn_of _ (by decide +kernel)) ggX6_leg_X6_stepOf
theorem dX6_leg_0 : decode cX6_leg 0 = .ok (.aload_n 0, 1) := by decide +kernel
theorem dX6_leg_1 : decode cX6_leg 1 = .ok (.iconst 0, 1) := by decide +kernel
theorem dX6_leg_2 : decode cX6_leg 2 = .ok (.putfield 67, 3) := by decide +kernel
theorem dX6_leg_5 : decode cX6_leg 5 = .ok (.aload_n 0, 1) := by decide +kernel
theorem dX6_leg_6 : decode cX6_leg 6 = .ok (.iload_n 1, 1) := by decide +kernel
theorem dX6_leg_7 : decode cX6_leg 7 = .ok (.invokevirtual 113, 3) := by decide +kernel
theorem dX6_leg_10 : decode cX6_leg 10 = .ok (.ifCond .eq 5, 3) := by decide +kernel
theorem dX6_leg_13 : decode cX6_leg 13 = .ok (.iconst (-1), 1) := by decide +kernel
theorem dX6_leg_14 : decode cX6_leg 14 = .ok (.ireturn, 1) := by decide +kernel
theorem dX6_leg_15 : decode cX6_leg 15 = .ok (.iload_n 2, 1) := by decide +kernel
theorem dX6_leg_16 : decode cX6_leg 16 = .ok (.i2l, 1) := by decide +kernel
theorem dX6_leg_17 : decode cX6_leg 17 = .ok (.lconst 0, 1) := by decide +kernel
theorem dX6_leg_18 : decode cX6_leg 18 = .ok (.ldc2_w 117, 3) := by decide +kernel
theorem dX6_leg_21 : decode cX6_leg 21 = .ok (.invokestatic 70, 3) := by decide +kernel
theorem dX6_leg_24 : decode cX6_leg 24 = .ok (.ifCond .ne 6, 3) := by decide +kernel
theorem dX6_leg_27 : decode cX6_leg 27 = .ok (.bipush (-2), 2) := by decide +kernel
theorem dX6_leg_29 : decode cX6_leg 29 = .ok (.ireturn, 1) := by decide +kernel
theorem dX6_leg_30 : decode cX6_leg 30 = .ok (.iload_n 2, 1) := by decide +kernel
theorem dX6_leg_31 : decode cX6_leg 31 = .ok (.bipush 6, 2) := by decide +kernel
theorem dX6_leg_33 : decode cX6_leg 33 = .ok (.if_icmp .ge 15, 3) := by decide +kernel
theorem dX6_leg_36 : decode cX6_leg 36 = .ok (.aload_n 0, 1) := by decide +kernel
theorem dX6_leg_37 : decode cX6_leg 37 = .ok (.getfield 20, 3) := by decide +kernel
theorem dX6_leg_40 : decode cX6_leg 40 = .ok (.iload_n 1, 1) := by decide +kernel
theorem dX6_leg_41 : decode cX6_leg 41 = .ok (.iload_n 2, 1) := by decide +kernel
theorem dX6_leg_42 : decode cX6_leg 42 = .ok (.invokestatic 103, 3) := by decide +kernel
theorem dX6_leg_45 : decode cX6_leg 45 = .ok (.goto 38, 3) := by decide +kernel
theorem dX6_leg_48 : decode cX6_leg 48 = .ok (.iload_n 2, 1) := by decide +kernel
theorem dX6_leg_49 : decode cX6_leg 49 = .ok (.bipush 6, 2) := by decide +kernel
theorem dX6_leg_51 : decode cX6_leg 51 = .ok (.if_icmp .ne 16, 3) := by decide +kernel
theorem dX6_leg_54 : decode cX6_leg 54 = .ok (.aload_n 0, 1) := by decide +kernel
theorem dX6_leg_55 : decode cX6_leg 55 = .ok (.getfield 20, 3) := by decide +kernel
theorem dX6_leg_58 : decode cX6_leg 58 = .ok (.iconst 1, 1) := by decide +kernel
theorem dX6_leg_59 : decode cX6_leg 59 = .ok (.iaload, 1) := by decide +kernel
theorem dX6_leg_60 : decode cX6_leg 60 = .ok (.iload_n 1, 1) := by decide +kernel
theorem dX6_leg_61 : decode cX6_leg 61 = .ok (.ishr, 1) := by decide +kernel
theorem dX6_leg_62 : decode cX6_leg 62 = .ok (.iconst 1, 1) := by decide +kernel
theorem dX6_leg_63 : decode cX6_leg 63 = .ok (.iand, 1) := by decide +kernel
theorem dX6_leg_64 : decode cX6_leg 64 = .ok (.goto 19, 3) := by decide +kernel
theorem dX6_leg_67 : decode cX6_leg 67 = .ok (.aload_n 0, 1) := by decide +kernel
theorem dX6_leg_68 : decode cX6_leg 68 = .ok (.aload_n 0, 1) := by decide +kernel
theorem dX6_leg_69 : decode cX6_leg 69 = .ok (.getfield 20, 3) := by decide +kernel
theorem dX6_leg_72 : decode cX6_leg 72 = .ok (.iload_n 1, 1) := by decide +kernel
theorem dX6_leg_73 : decode cX6_leg 73 = .ok (.iload_n 2, 1) := by decide +kernel
theorem dX6_leg_74 : decode cX6_leg 74 = .ok (.bipush 7, 2) := by decide +kernel
theorem dX6_leg_76 : decode cX6_leg 76 = .ok (.isub, 1) := by decide +kernel
theorem dX6_leg_77 : decode cX6_leg 77 = .ok (.invokevirtual 119, 3) := by decide +kernel
theorem dX6_leg_80 : decode cX6_leg 80 = .ok (.bipush 100, 2) := by decide +kernel
theorem dX6_leg_82 : decode cX6_leg 82 = .ok (.iadd, 1) := by decide +kernel
theorem dX6_leg_83 : decode cX6_leg 83 = .ok (.ireturn, 1) := by decide +kernel
theorem dX6_note_0 : decode cX6_note 0 = .ok (.aload_n 0, 1) := by decide +kernel
theorem dX6_note_1 : decode cX6_note 1 = .ok (.getfield 100, 3) := by decide +kernel
theorem dX6_note_4 : decode cX6_note 4 = .ok (.bipush 14, 2) := by decide +kernel
theorem dX6_note_6 : decode cX6_note 6 = .ok (.if_icmp .ne 43, 3) := by decide +kernel
theorem dX6_note_9 : decode cX6_note 9 = .ok (.iconst 0, 1) := by decide +kernel
theorem dX6_note_10 : decode cX6_note 10 = .ok (.istore_n 1, 1) := by decide +kernel
theorem dX6_note_11 : decode cX6_note 11 = .ok (.iload_n 1, 1) := by decide +kernel
theorem dX6_note_12 : decode cX6_note 12 = .ok (.sipush 650, 3) := by decide +kernel
theorem dX6_note_15 : decode cX6_note 15 = .ok (.if_icmp .ge 24, 3) := by decide +kernel
theorem dX6_note_18 : decode cX6_note 18 = .ok (.aload_n 0, 1) := by decide +kernel
theorem dX6_note_19 : decode cX6_note 19 = .ok (.getfield 26, 3) := by decide +kernel
theorem dX6_note_22 : decode cX6_note 22 = .ok (.iload_n 1, 1) := by decide +kernel
theorem dX6_note_23 : decode cX6_note 23 = .ok (.aload_n 0, 1) := by decide +kernel
theorem dX6_note_24 : decode cX6_note 24 = .ok (.getfield 26, 3) := by decide +kernel
theorem dX6_note_27 : decode cX6_note 27 = .ok (.iload_n 1, 1) := by decide +kernel
theorem dX6_note_28 : decode cX6_note 28 = .ok (.bipush 50, 2) := by decide +kernel
theorem dX6_note_30 : decode cX6_note 30 = .ok (.iadd, 1) := by decide +kernel
theorem dX6_note_31 : decode cX6_note 31 = .ok (.iaload, 1) := by decide +kernel
theorem dX6_note_32 : decode cX6_note 32 = .ok (.iastore, 1) := by decide +kernel
theorem dX6_note_33 : decode cX6_note 33 = .ok (.iinc 1 1, 3) := by decide +kernel
theorem dX6_note_36 : decode cX6_note 36 = .ok (.goto (-25), 3) := by decide +kernel
theorem dX6_note_39 : decode cX6_note 39 = .ok (.aload_n 0, 1) := by decide +kernel
theorem dX6_note_40 : decode cX6_note 40 = .ok (.dup, 1) := by decide +kernel
theorem dX6_note_41 : decode cX6_note 41 = .ok (.getfield 100, 3) := by decide +kernel
theorem dX6_note_44 : decode cX6_note 44 = .ok (.iconst 1, 1) := by decide +kernel
theorem dX6_note_45 : decode cX6_note 45 = .ok (.isub, 1) := by decide +kernel
theorem dX6_note_46 : decode cX6_note 46 = .ok (.putfield 100, 3) := by decide +kernel
theorem dX6_note_49 : decode cX6_note 49 = .ok (.iconst 0, 1) := by decide +kernel
theorem dX6_note_50 : decode cX6_note 50 = .ok (.istore_n 1, 1) := by decide +kernel
theorem dX6_note_51 : decode cX6_note 51 = .ok (.iload_n 1, 1) := by decide +kernel
theorem dX6_note_52 : decode cX6_note 52 = .ok (.bipush 50, 2) := by decide +kernel
theorem dX6_note_54 : decode cX6_note 54 = .ok (.if_icmp .ge 29, 3) := by decide +kernel
theorem dX6_note_57 : decode cX6_note 57 = .ok (.aload_n 0, 1) := by decide +kernel
theorem dX6_note_58 : decode cX6_note 58 = .ok (.getfield 26, 3) := by decide +kernel
theorem dX6_note_61 : decode cX6_note 61 = .ok (.bipush 50, 2) := by decide +kernel
theorem dX6_note_63 : decode cX6_note 63 = .ok (.aload_n 0, 1) := by decide +kernel
theorem dX6_note_64 : decode cX6_note 64 = .ok (.getfield 100, 3) := by decide +kernel
theorem dX6_note_67 : decode cX6_note 67 = .ok (.imul, 1) := by decide +kernel
theorem dX6_note_68 : decode cX6_note 68 = .ok (.iload_n 1, 1) := by decide +kernel
theorem dX6_note_69 : decode cX6_note 69 = .ok (.iadd, 1) := by decide +kernel
theorem dX6_note_70 : decode cX6_note 70 = .ok (.aload_n 0, 1) := by decide +kernel
theorem dX6_note_71 : decode cX6_note 71 = .ok (.getfield 20, 3) := by decide +kernel
theorem dX6_note_74 : decode cX6_note 74 = .ok (.iload_n 1, 1) := by decide +kernel
theorem dX6_note_75 : decode cX6_note 75 = .ok (.iaload, 1) := by decide +kernel
theorem dX6_note_76 : decode cX6_note 76 = .ok (.iastore, 1) := by decide +kernel
theorem dX6_note_77 : decode cX6_note 77 = .ok (.iinc 1 1, 3) := by decide +kernel
theorem dX6_note_80 : decode cX6_note 80 = .ok (.goto (-29), 3) := by decide +kernel
theorem dX6_note_83 : decode cX6_note 83 = .ok (.aload_n 0, 1) := by decide +kernel
theorem dX6_note_84 : decode cX6_note 84 = .ok (.dup, 1) := by decide +kernel
theorem dX6_note_85 : decode cX6_note 85 = .ok (.getfield 100, 3) := by decide +kernel
theorem dX6_note_88 : decode cX6_note 88 = .ok (.iconst 1, 1) := by decide +kernel
theorem dX6_note_89 : decode cX6_note 89 = .ok (.iadd, 1) := by decide +kernel
theorem dX6_note_90 : decode cX6_note 90 = .ok (.putfield 100, 3) := by decide +kernel
theorem dX6_note_93 : decode cX6_note 93 = .ok (.return_, 1) := by decide +kernel
set_option maxRecDepth 20000 in
theorem ggX6_fits_X6_in : GoodIn wsX6_fits wsX6_in := goodIn_r _ [8] (by decide +kernel) (by decide +kernel)
set_option maxRecDepth 20000 in
theorem gX6_fits_X6_in : GoodIn wsX6_fits (va_wsS RX6 70 yX6_in wsX6_in) := goodIn_app (goodIn_of _ (by decide +kernel)) ggX6_fits_X6_in
theorem dX6_fits_0 : decode cX6_fits 0 = .ok (.iload_n 0, 1) := by decide +kernel
theorem dX6_fits_1 : decode cX6_fits 1 = .ok (.ifCond .ne 15, 3) := by decide +kernel
theorem dX6_fits_4 : decode cX6_fits 4 = .ok (.iload_n 1, 1) := by decide +kernel
theorem dX6_fits_5 : decode cX6_fits 5 = .ok (.i2l, 1) := by decide +kernel
theorem dX6_fits_6 : decode cX6_fits 6 = .ok (.lconst 1, 1) := by decide +kernel
theorem dX6_fits_7 : decode cX6_fits 7 = .ok (.ldc2_w 122, 3) := by decide +kernel
theorem dX6_fits_10 : decode cX6_fits 10 = .ok (.invokestatic 70, 3) := by decide +kernel
theorem dX6_fits_13 : decode cX6_fits 13 = .ok (.goto 46, 3) := by decide +kernel
theorem dX6_fits_16 : decode cX6_fits 16 = .ok (.iload_n 0, 1) := by decide +kernel
theorem dX6_fits_17 : decode cX6_fits 17 = .ok (.iconst 1, 1) := by decide +kernel
theorem dX6_fits_18 : decode cX6_fits 18 = .ok (.if_icmp .ne 15, 3) := by decide +kernel
theorem dX6_fits_21 : decode cX6_fits 21 = .ok (.iload_n 1, 1) := by decide +kernel
theorem dX6_fits_22 : decode cX6_fits 22 = .ok (.i2l, 1) := by decide +kernel
theorem dX6_fits_23 : decode cX6_fits 23 = .ok (.lconst 0, 1) := by decide +kernel
theorem dX6_fits_24 : decode cX6_fits 24 = .ok (.ldc2_w 124, 3) := by decide +kernel
theorem dX6_fits_27 : decode cX6_fits 27 = .ok (.invokestatic 70, 3) := by decide +kernel
theorem dX6_fits_30 : decode cX6_fits 30 = .ok (.goto 29, 3) := by decide +kernel
theorem dX6_fits_33 : decode cX6_fits 33 = .ok (.iload_n 0, 1) := by decide +kernel
theorem dX6_fits_34 : decode cX6_fits 34 = .ok (.iconst 2, 1) := by decide +kernel
theorem dX6_fits_35 : decode cX6_fits 35 = .ok (.if_icmp .ne 15, 3) := by decide +kernel
theorem dX6_fits_38 : decode cX6_fits 38 = .ok (.iload_n 1, 1) := by decide +kernel
theorem dX6_fits_39 : decode cX6_fits 39 = .ok (.i2l, 1) := by decide +kernel
theorem dX6_fits_40 : decode cX6_fits 40 = .ok (.lconst 0, 1) := by decide +kernel
theorem dX6_fits_41 : decode cX6_fits 41 = .ok (.ldc2_w 126, 3) := by decide +kernel
theorem dX6_fits_44 : decode cX6_fits 44 = .ok (.invokestatic 70, 3) := by decide +kernel
theorem dX6_fits_47 : decode cX6_fits 47 = .ok (.goto 12, 3) := by decide +kernel
theorem dX6_fits_50 : decode cX6_fits 50 = .ok (.iload_n 1, 1) := by decide +kernel
theorem dX6_fits_51 : decode cX6_fits 51 = .ok (.i2l, 1) := by decide +kernel
theorem dX6_fits_52 : decode cX6_fits 52 = .ok (.lconst 1, 1) := by decide +kernel
theorem dX6_fits_53 : decode cX6_fits 53 = .ok (.ldc2_w 117, 3) := by decide +kernel
theorem dX6_fits_56 : decode cX6_fits 56 = .ok (.invokestatic 70, 3) := by decide +kernel
theorem dX6_fits_59 : decode cX6_fits 59 = .ok (.ireturn, 1) := by decide +kernel
set_option maxRecDepth 20000 in
theorem ggX6_measure_X6_noStation : GoodIn wsX6_measure wsX6_noStation := goodIn_r _ [7, 8, 9, 10, 6, 11, 25, 26, 27, 28, 29, 30, 31, 32, 33, 34, 35, 36, 37, 38, 39, 40, 41, 42, 43, 44, 45, 46, 47, 48, 49, 50, 51, 52] (by decide +kernel) (by decide +kernel)
set_option maxRecDepth 20000 in
theorem gX6_measure_X6_noStation : GoodIn wsX6_measure (wsV RX6 128 RX6 yX6_noStation wsX6_noStation) := goodIn_app (goodIn_of _ (by decide +kernel)) ggX6_measure_X6_noStation
set_option maxRecDepth 20000 in
theorem ggX6_measure_X6_fits : GoodIn wsX6_measure wsX6_fits := goodIn_r _ [14, 15, 16, 17, 18, 9, 10, 6, 11] (by decide +kernel) (by decide +kernel)
set_option maxRecDepth 20000 in
theorem gX6_measure_X6_fits : GoodIn wsX6_measure (va_wsS RX6 131 yX6_fits wsX6_fits) := goodIn_app (goodIn_of _ (by decide +kernel)) ggX6_measure_X6_fits
set_option maxRecDepth 20000 in
theorem ggX6_measure_X6_note : GoodIn wsX6_measure wsX6_note := goodIn_r _ [22, 23, 24, 2, 25, 26, 27, 28, 29, 30, 31, 32, 33, 34, 35, 36, 37, 38, 39, 40, 41, 42, 43, 44, 45, 46, 47, 48, 49, 50, 51, 52] (by decide +kernel) (by decide +kernel)
set_option maxRecDepth 20000 in
theorem gX6_measure_X6_note : GoodIn wsX6_measure (wsV RX6 135 RX6 yX6_note wsX6_note) := goodIn_app (goodIn_of _ (by decide +kernel)) ggX6_measure_X6_note
theorem dX6_measure_0 : decode cX6_measure 0 = .ok (.aload_n 0, 1) := by decide +kernel
theorem dX6_measure_1 : decode cX6_measure 1 = .ok (.iconst 0, 1) := by decide +kernel
theorem dX6_measure_2 : decode cX6_measure 2 = .ok (.putfield 67, 3) := by decide +kernel
theorem dX6_measure_5 : decode cX6_measure 5 = .ok (.aload_n 0, 1) := by decide +kernel
theorem dX6_measure_6 : decode cX6_measure 6 = .ok (.iload_n 1, 1) := by decide +kernel
theorem dX6_measure_7 : decode cX6_measure 7 = .ok (.invokevirtual 128, 3) := by decide +kernel
theorem dX6_measure_10 : decode cX6_measure 10 = .ok (.ifCond .ne 11, 3) := by decide +kernel
theorem dX6_measure_13 : decode cX6_measure 13 = .ok (.aload_n 0, 1) := by decide +kernel
theorem dX6_measure_14 : decode cX6_measure 14 = .ok (.iload_n 2, 1) := by decide +kernel
theorem dX6_measure_15 : decode cX6_measure 15 = .ok (.invokevirtual 128, 3) := by decide +kernel
theorem dX6_measure_18 : decode cX6_measure 18 = .ok (.ifCond .eq 5, 3) := by decide +kernel
theorem dX6_measure_21 : decode cX6_measure 21 = .ok (.iconst (-1), 1) := by decide +kernel
theorem dX6_measure_22 : decode cX6_measure 22 = .ok (.ireturn, 1) := by decide +kernel
theorem dX6_measure_23 : decode cX6_measure 23 = .ok (.iload_n 1, 1) := by decide +kernel
theorem dX6_measure_24 : decode cX6_measure 24 = .ok (.iload_n 2, 1) := by decide +kernel
theorem dX6_measure_25 : decode cX6_measure 25 = .ok (.if_icmp .ne 6, 3) := by decide +kernel
theorem dX6_measure_28 : decode cX6_measure 28 = .ok (.bipush (-3), 2) := by decide +kernel
theorem dX6_measure_30 : decode cX6_measure 30 = .ok (.ireturn, 1) := by decide +kernel
theorem dX6_measure_31 : decode cX6_measure 31 = .ok (.iconst 0, 1) := by decide +kernel
theorem dX6_measure_32 : decode cX6_measure 32 = .ok (.iload_n 3, 1) := by decide +kernel
theorem dX6_measure_33 : decode cX6_measure 33 = .ok (.invokestatic 131, 3) := by decide +kernel
theorem dX6_measure_36 : decode cX6_measure 36 = .ok (.ifCond .eq 30, 3) := by decide +kernel
theorem dX6_measure_39 : decode cX6_measure 39 = .ok (.iconst 1, 1) := by decide +kernel
theorem dX6_measure_40 : decode cX6_measure 40 = .ok (.iload 4, 2) := by decide +kernel
theorem dX6_measure_42 : decode cX6_measure 42 = .ok (.invokestatic 131, 3) := by decide +kernel
theorem dX6_measure_45 : decode cX6_measure 45 = .ok (.ifCond .eq 21, 3) := by decide +kernel
theorem dX6_measure_48 : decode cX6_measure 48 = .ok (.iconst 2, 1) := by decide +kernel
theorem dX6_measure_49 : decode cX6_measure 49 = .ok (.iload 5, 2) := by decide +kernel
theorem dX6_measure_51 : decode cX6_measure 51 = .ok (.invokestatic 131, 3) := by decide +kernel
theorem dX6_measure_54 : decode cX6_measure 54 = .ok (.ifCond .eq 12, 3) := by decide +kernel
theorem dX6_measure_57 : decode cX6_measure 57 = .ok (.iconst 3, 1) := by decide +kernel
theorem dX6_measure_58 : decode cX6_measure 58 = .ok (.iload 6, 2) := by decide +kernel
theorem dX6_measure_60 : decode cX6_measure 60 = .ok (.invokestatic 131, 3) := by decide +kernel
theorem dX6_measure_63 : decode cX6_measure 63 = .ok (.ifCond .ne 6, 3) := by decide +kernel
theorem dX6_measure_66 : decode cX6_measure 66 = .ok (.bipush (-2), 2) := by decide +kernel
theorem dX6_measure_68 : decode cX6_measure 68 = .ok (.ireturn, 1) := by decide +kernel
theorem dX6_measure_69 : decode cX6_measure 69 = .ok (.aload_n 0, 1) := by decide +kernel
theorem dX6_measure_70 : decode cX6_measure 70 = .ok (.getfield 20, 3) := by decide +kernel
theorem dX6_measure_73 : decode cX6_measure 73 = .ok (.iconst 0, 1) := by decide +kernel
theorem dX6_measure_74 : decode cX6_measure 74 = .ok (.iaload, 1) := by decide +kernel
theorem dX6_measure_75 : decode cX6_measure 75 = .ok (.bipush 8, 2) := by decide +kernel
theorem dX6_measure_77 : decode cX6_measure 77 = .ok (.if_icmp .ne 6, 3) := by decide +kernel
theorem dX6_measure_80 : decode cX6_measure 80 = .ok (.bipush (-4), 2) := by decide +kernel
theorem dX6_measure_82 : decode cX6_measure 82 = .ok (.ireturn, 1) := by decide +kernel
theorem dX6_measure_83 : decode cX6_measure 83 = .ok (.aload_n 0, 1) := by decide +kernel
theorem dX6_measure_84 : decode cX6_measure 84 = .ok (.invokevirtual 135, 3) := by decide +kernel
theorem dX6_measure_87 : decode cX6_measure 87 = .ok (.iconst 2, 1) := by decide +kernel
theorem dX6_measure_88 : decode cX6_measure 88 = .ok (.bipush 6, 2) := by decide +kernel
theorem dX6_measure_90 : decode cX6_measure 90 = .ok (.aload_n 0, 1) := by decide +kernel
theorem dX6_measure_91 : decode cX6_measure 91 = .ok (.getfield 20, 3) := by decide +kernel
theorem dX6_measure_94 : decode cX6_measure 94 = .ok (.iconst 0, 1) := by decide +kernel
theorem dX6_measure_95 : decode cX6_measure 95 = .ok (.iaload, 1) := by decide +kernel
theorem dX6_measure_96 : decode cX6_measure 96 = .ok (.imul, 1) := by decide +kernel
theorem dX6_measure_97 : decode cX6_measure 97 = .ok (.iadd, 1) := by decide +kernel
theorem dX6_measure_98 : decode cX6_measure 98 = .ok (.istore 7, 2) := by decide +kernel
theorem dX6_measure_100 : decode cX6_measure 100 = .ok (.aload_n 0, 1) := by decide +kernel
theorem dX6_measure_101 : decode cX6_measure 101 = .ok (.getfield 20, 3) := by decide +kernel
theorem dX6_measure_104 : decode cX6_measure 104 = .ok (.iload 7, 2) := by decide +kernel
theorem dX6_measure_106 : decode cX6_measure 106 = .ok (.iconst 0, 1) := by decide +kernel
theorem dX6_measure_107 : decode cX6_measure 107 = .ok (.iadd, 1) := by decide +kernel
theorem dX6_measure_108 : decode cX6_measure 108 = .ok (.iload_n 3, 1) := by decide +kernel
theorem dX6_measure_109 : decode cX6_measure 109 = .ok (.iastore, 1) := by decide +kernel
theorem dX6_measure_110 : decode cX6_measure 110 = .ok (.aload_n 0, 1) := by decide +kernel
theorem dX6_measure_111 : decode cX6_measure 111 = .ok (.getfield 20, 3) := by decide +kernel
theorem dX6_measure_114 : decode cX6_measure 114 = .ok (.iload 7, 2) := by decide +kernel
theorem dX6_measure_116 : decode cX6_measure 116 = .ok (.iconst 1, 1) := by decide +kernel
theorem dX6_measure_117 : decode cX6_measure 117 = .ok (.iadd, 1) := by decide +kernel
theorem dX6_measure_118 : decode cX6_measure 118 = .ok (.iload 4, 2) := by decide +kernel
theorem dX6_measure_120 : decode cX6_measure 120 = .ok (.iastore, 1) := by decide +kernel
theorem dX6_measure_121 : decode cX6_measure 121 = .ok (.aload_n 0, 1) := by decide +kernel
theorem dX6_measure_122 : decode cX6_measure 122 = .ok (.getfield 20, 3) := by decide +kernel
theorem dX6_measure_125 : decode cX6_measure 125 = .ok (.iload 7, 2) := by decide +kernel
theorem dX6_measure_127 : decode cX6_measure 127 = .ok (.iconst 2, 1) := by decide +kernel
theorem dX6_measure_128 : decode cX6_measure 128 = .ok (.iadd, 1) := by decide +kernel
theorem dX6_measure_129 : decode cX6_measure 129 = .ok (.iload 5, 2) := by decide +kernel
theorem dX6_measure_131 : decode cX6_measure 131 = .ok (.iastore, 1) := by decide +kernel
theorem dX6_measure_132 : decode cX6_measure 132 = .ok (.aload_n 0, 1) := by decide +kernel
theorem dX6_measure_133 : decode cX6_measure 133 = .ok (.getfield 20, 3) := by decide +kernel
theorem dX6_measure_136 : decode cX6_measure 136 = .ok (.iload 7, 2) := by decide +kernel
theorem dX6_measure_138 : decode cX6_measure 138 = .ok (.iconst 3, 1) := by decide +kernel
theorem dX6_measure_139 : decode cX6_measure 139 = .ok (.iadd, 1) := by decide +kernel
theorem dX6_measure_140 : decode cX6_measure 140 = .ok (.iload 6, 2) := by decide +kernel
theorem dX6_measure_142 : decode cX6_measure 142 = .ok (.iastore, 1) := by decide +kernel
theorem dX6_measure_143 : decode cX6_measure 143 = .ok (.aload_n 0, 1) := by decide +kernel
theorem dX6_measure_144 : decode cX6_measure 144 = .ok (.getfield 20, 3) := by decide +kernel
theorem dX6_measure_147 : decode cX6_measure 147 = .ok (.iload 7, 2) := by decide +kernel
theorem dX6_measure_149 : decode cX6_measure 149 = .ok (.iconst 4, 1) := by decide +kernel
theorem dX6_measure_150 : decode cX6_measure 150 = .ok (.iadd, 1) := by decide +kernel
theorem dX6_measure_151 : decode cX6_measure 151 = .ok (.iload_n 1, 1) := by decide +kernel
theorem dX6_measure_152 : decode cX6_measure 152 = .ok (.iastore, 1) := by decide +kernel
theorem dX6_measure_153 : decode cX6_measure 153 = .ok (.aload_n 0, 1) := by decide +kernel
theorem dX6_measure_154 : decode cX6_measure 154 = .ok (.getfield 20, 3) := by decide +kernel
theorem dX6_measure_157 : decode cX6_measure 157 = .ok (.iload 7, 2) := by decide +kernel
theorem dX6_measure_159 : decode cX6_measure 159 = .ok (.iconst 5, 1) := by decide +kernel
theorem dX6_measure_160 : decode cX6_measure 160 = .ok (.iadd, 1) := by decide +kernel
theorem dX6_measure_161 : decode cX6_measure 161 = .ok (.iload_n 2, 1) := by decide +kernel
theorem dX6_measure_162 : decode cX6_measure 162 = .ok (.iastore, 1) := by decide +kernel
theorem dX6_measure_163 : decode cX6_measure 163 = .ok (.aload_n 0, 1) := by decide +kernel
theorem dX6_measure_164 : decode cX6_measure 164 = .ok (.getfield 20, 3) := by decide +kernel
theorem dX6_measure_167 : decode cX6_measure 167 = .ok (.iconst 1, 1) := by decide +kernel
theorem dX6_measure_168 : decode cX6_measure 168 = .ok (.dup2, 1) := by decide +kernel
theorem dX6_measure_169 : decode cX6_measure 169 = .ok (.iaload, 1) := by decide +kernel
theorem dX6_measure_170 : decode cX6_measure 170 = .ok (.iconst 1, 1) := by decide +kernel
theorem dX6_measure_171 : decode cX6_measure 171 = .ok (.aload_n 0, 1) := by decide +kernel
theorem dX6_measure_172 : decode cX6_measure 172 = .ok (.getfield 20, 3) := by decide +kernel
theorem dX6_measure_175 : decode cX6_measure 175 = .ok (.iconst 0, 1) := by decide +kernel
theorem dX6_measure_176 : decode cX6_measure 176 = .ok (.iaload, 1) := by decide +kernel
theorem dX6_measure_177 : decode cX6_measure 177 = .ok (.ishl, 1) := by decide +kernel
theorem dX6_measure_178 : decode cX6_measure 178 = .ok (.iconst (-1), 1) := by decide +kernel
theorem dX6_measure_179 : decode cX6_measure 179 = .ok (.ixor, 1) := by decide +kernel
theorem dX6_measure_180 : decode cX6_measure 180 = .ok (.iand, 1) := by decide +kernel
theorem dX6_measure_181 : decode cX6_measure 181 = .ok (.iastore, 1) := by decide +kernel
theorem dX6_measure_182 : decode cX6_measure 182 = .ok (.aload_n 0, 1) := by decide +kernel
theorem dX6_measure_183 : decode cX6_measure 183 = .ok (.getfield 20, 3) := by decide +kernel
theorem dX6_measure_186 : decode cX6_measure 186 = .ok (.iconst 0, 1) := by decide +kernel
theorem dX6_measure_187 : decode cX6_measure 187 = .ok (.dup2, 1) := by decide +kernel
theorem dX6_measure_188 : decode cX6_measure 188 = .ok (.iaload, 1) := by decide +kernel
theorem dX6_measure_189 : decode cX6_measure 189 = .ok (.iconst 1, 1) := by decide +kernel
theorem dX6_measure_190 : decode cX6_measure 190 = .ok (.iadd, 1) := by decide +kernel
theorem dX6_measure_191 : decode cX6_measure 191 = .ok (.iastore, 1) := by decide +kernel
theorem dX6_measure_192 : decode cX6_measure 192 = .ok (.aload_n 0, 1) := by decide +kernel
theorem dX6_measure_193 : decode cX6_measure 193 = .ok (.getfield 20, 3) := by decide +kernel
theorem dX6_measure_196 : decode cX6_measure 196 = .ok (.iconst 0, 1) := by decide +kernel
theorem dX6_measure_197 : decode cX6_measure 197 = .ok (.iaload, 1) := by decide +kernel
theorem dX6_measure_198 : decode cX6_measure 198 = .ok (.ireturn, 1) := by decide +kernel
theorem dX6_takeOn_0 : decode cX6_takeOn 0 = .ok (.aload_n 0, 1) := by decide +kernel
theorem dX6_takeOn_1 : decode cX6_takeOn 1 = .ok (.iconst 0, 1) := by decide +kernel
theorem dX6_takeOn_2 : decode cX6_takeOn 2 = .ok (.dup2, 1) := by decide +kernel
theorem dX6_takeOn_3 : decode cX6_takeOn 3 = .ok (.iaload, 1) := by decide +kernel
theorem dX6_takeOn_4 : decode cX6_takeOn 4 = .ok (.iconst 1, 1) := by decide +kernel
theorem dX6_takeOn_5 : decode cX6_takeOn 5 = .ok (.isub, 1) := by decide +kernel
theorem dX6_takeOn_6 : decode cX6_takeOn 6 = .ok (.iastore, 1) := by decide +kernel
theorem dX6_takeOn_7 : decode cX6_takeOn 7 = .ok (.iconst 2, 1) := by decide +kernel
theorem dX6_takeOn_8 : decode cX6_takeOn 8 = .ok (.bipush 6, 2) := by decide +kernel
theorem dX6_takeOn_10 : decode cX6_takeOn 10 = .ok (.iload_n 1, 1) := by decide +kernel
theorem dX6_takeOn_11 : decode cX6_takeOn 11 = .ok (.imul, 1) := by decide +kernel
theorem dX6_takeOn_12 : decode cX6_takeOn 12 = .ok (.iadd, 1) := by decide +kernel
theorem dX6_takeOn_13 : decode cX6_takeOn 13 = .ok (.istore_n 2, 1) := by decide +kernel
theorem dX6_takeOn_14 : decode cX6_takeOn 14 = .ok (.iload_n 2, 1) := by decide +kernel
theorem dX6_takeOn_15 : decode cX6_takeOn 15 = .ok (.iconst 2, 1) := by decide +kernel
theorem dX6_takeOn_16 : decode cX6_takeOn 16 = .ok (.bipush 6, 2) := by decide +kernel
theorem dX6_takeOn_18 : decode cX6_takeOn 18 = .ok (.aload_n 0, 1) := by decide +kernel
theorem dX6_takeOn_19 : decode cX6_takeOn 19 = .ok (.iconst 0, 1) := by decide +kernel
theorem dX6_takeOn_20 : decode cX6_takeOn 20 = .ok (.iaload, 1) := by decide +kernel
theorem dX6_takeOn_21 : decode cX6_takeOn 21 = .ok (.imul, 1) := by decide +kernel
theorem dX6_takeOn_22 : decode cX6_takeOn 22 = .ok (.iadd, 1) := by decide +kernel
theorem dX6_takeOn_23 : decode cX6_takeOn 23 = .ok (.if_icmp .ge 18, 3) := by decide +kernel
theorem dX6_takeOn_26 : decode cX6_takeOn 26 = .ok (.aload_n 0, 1) := by decide +kernel
theorem dX6_takeOn_27 : decode cX6_takeOn 27 = .ok (.iload_n 2, 1) := by decide +kernel
theorem dX6_takeOn_28 : decode cX6_takeOn 28 = .ok (.aload_n 0, 1) := by decide +kernel
theorem dX6_takeOn_29 : decode cX6_takeOn 29 = .ok (.iload_n 2, 1) := by decide +kernel
theorem dX6_takeOn_30 : decode cX6_takeOn 30 = .ok (.bipush 6, 2) := by decide +kernel
theorem dX6_takeOn_32 : decode cX6_takeOn 32 = .ok (.iadd, 1) := by decide +kernel
theorem dX6_takeOn_33 : decode cX6_takeOn 33 = .ok (.iaload, 1) := by decide +kernel
theorem dX6_takeOn_34 : decode cX6_takeOn 34 = .ok (.iastore, 1) := by decide +kernel
theorem dX6_takeOn_35 : decode cX6_takeOn 35 = .ok (.iinc 2 1, 3) := by decide +kernel
theorem dX6_takeOn_38 : decode cX6_takeOn 38 = .ok (.goto (-24), 3) := by decide +kernel
theorem dX6_takeOn_41 : decode cX6_takeOn 41 = .ok (.aload_n 0, 1) := by decide +kernel
theorem dX6_takeOn_42 : decode cX6_takeOn 42 = .ok (.iconst 1, 1) := by decide +kernel
theorem dX6_takeOn_43 : decode cX6_takeOn 43 = .ok (.iaload, 1) := by decide +kernel
theorem dX6_takeOn_44 : decode cX6_takeOn 44 = .ok (.iconst 1, 1) := by decide +kernel
theorem dX6_takeOn_45 : decode cX6_takeOn 45 = .ok (.iload_n 1, 1) := by decide +kernel
theorem dX6_takeOn_46 : decode cX6_takeOn 46 = .ok (.ishl, 1) := by decide +kernel
theorem dX6_takeOn_47 : decode cX6_takeOn 47 = .ok (.iconst 1, 1) := by decide +kernel
theorem dX6_takeOn_48 : decode cX6_takeOn 48 = .ok (.isub, 1) := by decide +kernel
theorem dX6_takeOn_49 : decode cX6_takeOn 49 = .ok (.iand, 1) := by decide +kernel
theorem dX6_takeOn_50 : decode cX6_takeOn 50 = .ok (.istore_n 2, 1) := by decide +kernel
theorem dX6_takeOn_51 : decode cX6_takeOn 51 = .ok (.aload_n 0, 1) := by decide +kernel
theorem dX6_takeOn_52 : decode cX6_takeOn 52 = .ok (.iconst 1, 1) := by decide +kernel
theorem dX6_takeOn_53 : decode cX6_takeOn 53 = .ok (.iload_n 2, 1) := by decide +kernel
theorem dX6_takeOn_54 : decode cX6_takeOn 54 = .ok (.aload_n 0, 1) := by decide +kernel
theorem dX6_takeOn_55 : decode cX6_takeOn 55 = .ok (.iconst 1, 1) := by decide +kernel
theorem dX6_takeOn_56 : decode cX6_takeOn 56 = .ok (.iaload, 1) := by decide +kernel
theorem dX6_takeOn_57 : decode cX6_takeOn 57 = .ok (.iload_n 1, 1) := by decide +kernel
theorem dX6_takeOn_58 : decode cX6_takeOn 58 = .ok (.iconst 1, 1) := by decide +kernel
theorem dX6_takeOn_59 : decode cX6_takeOn 59 = .ok (.iadd, 1) := by decide +kernel
theorem dX6_takeOn_60 : decode cX6_takeOn 60 = .ok (.ishr, 1) := by decide +kernel
theorem dX6_takeOn_61 : decode cX6_takeOn 61 = .ok (.iload_n 1, 1) := by decide +kernel
theorem dX6_takeOn_62 : decode cX6_takeOn 62 = .ok (.ishl, 1) := by decide +kernel
theorem dX6_takeOn_63 : decode cX6_takeOn 63 = .ok (.ior, 1) := by decide +kernel
theorem dX6_takeOn_64 : decode cX6_takeOn 64 = .ok (.iastore, 1) := by decide +kernel
theorem dX6_takeOn_65 : decode cX6_takeOn 65 = .ok (.return_, 1) := by decide +kernel
set_option maxRecDepth 20000 in
theorem ggX6_take_X6_noLeg : GoodIn wsX6_take wsX6_noLeg := goodIn_r _ [7, 2, 8, 9, 6, 10, 20, 21, 22, 23, 24, 25, 26, 27, 28, 29, 30, 31, 32, 33, 34, 35, 36, 37, 38, 39, 40, 41, 42, 43, 44, 45, 46, 47] (by decide +kernel) (by decide +kernel)
set_option maxRecDepth 20000 in
theorem gX6_take_X6_noLeg : GoodIn wsX6_take (wsV RX6 113 RX6 yX6_noLeg wsX6_noLeg) := goodIn_app (goodIn_of _ (by decide +kernel)) ggX6_take_X6_noLeg
set_option maxRecDepth 20000 in
theorem ggX6_take_X6_note : GoodIn wsX6_take wsX6_note := goodIn_r _ [14, 15, 16, 2, 20, 21, 22, 23, 24, 25, 26, 27, 28, 29, 30, 31, 32, 33, 34, 35, 36, 37, 38, 39, 40, 41, 42, 43, 44, 45, 46, 47] (by decide +kernel) (by decide +kernel)
set_option maxRecDepth 20000 in
theorem gX6_take_X6_note : GoodIn wsX6_take (wsV RX6 135 RX6 yX6_note wsX6_note) := goodIn_app (goodIn_of _ (by decide +kernel)) ggX6_take_X6_note
set_option maxRecDepth 20000 in
theorem ggX6_take_X6_takeOn : GoodIn wsX6_take wsX6_takeOn := goodIn_r _ [19] (by decide +kernel) (by decide +kernel)
set_option maxRecDepth 20000 in
theorem gX6_take_X6_takeOn : GoodIn wsX6_take (va_wsS RX6 138 yX6_takeOn wsX6_takeOn) := goodIn_app (goodIn_of _ (by decide +kernel)) ggX6_take_X6_takeOn
theorem dX6_take_0 : decode cX6_take 0 = .ok (.aload_n 0, 1) := by decide +kernel
theorem dX6_take_1 : decode cX6_take 1 = .ok (.iconst 0, 1) := by decide +kernel
theorem dX6_take_2 : decode cX6_take 2 = .ok (.putfield 67, 3) := by decide +kernel
theorem dX6_take_5 : decode cX6_take 5 = .ok (.aload_n 0, 1) := by decide +kernel
theorem dX6_take_6 : decode cX6_take 6 = .ok (.iload_n 1, 1) := by decide +kernel
theorem dX6_take_7 : decode cX6_take 7 = .ok (.invokevirtual 113, 3) := by decide +kernel
theorem dX6_take_10 : decode cX6_take 10 = .ok (.ifCond .eq 5, 3) := by decide +kernel
theorem dX6_take_13 : decode cX6_take 13 = .ok (.iconst (-1), 1) := by decide +kernel
theorem dX6_take_14 : decode cX6_take 14 = .ok (.ireturn, 1) := by decide +kernel
theorem dX6_take_15 : decode cX6_take 15 = .ok (.aload_n 0, 1) := by decide +kernel
theorem dX6_take_16 : decode cX6_take 16 = .ok (.invokevirtual 135, 3) := by decide +kernel
theorem dX6_take_19 : decode cX6_take 19 = .ok (.aload_n 0, 1) := by decide +kernel
theorem dX6_take_20 : decode cX6_take 20 = .ok (.getfield 20, 3) := by decide +kernel
theorem dX6_take_23 : decode cX6_take 23 = .ok (.iload_n 1, 1) := by decide +kernel
theorem dX6_take_24 : decode cX6_take 24 = .ok (.invokestatic 138, 3) := by decide +kernel
theorem dX6_take_27 : decode cX6_take 27 = .ok (.aload_n 0, 1) := by decide +kernel
theorem dX6_take_28 : decode cX6_take 28 = .ok (.getfield 20, 3) := by decide +kernel
theorem dX6_take_31 : decode cX6_take 31 = .ok (.iconst 0, 1) := by decide +kernel
theorem dX6_take_32 : decode cX6_take 32 = .ok (.iaload, 1) := by decide +kernel
theorem dX6_take_33 : decode cX6_take 33 = .ok (.ireturn, 1) := by decide +kernel
set_option maxRecDepth 20000 in
theorem ggX6_read_X6_noLeg : GoodIn wsX6_read wsX6_noLeg := goodIn_r _ [8, 3, 9, 10, 7, 11, 28, 29, 30, 31, 32, 33, 34, 35, 36, 37, 38, 39, 40, 41, 42, 43, 44, 45, 46, 47, 48, 49, 50, 51, 52, 53, 54, 55] (by decide +kernel) (by decide +kernel)
set_option maxRecDepth 20000 in
theorem gX6_read_X6_noLeg : GoodIn wsX6_read (wsV RX6 113 RX6 yX6_noLeg wsX6_noLeg) := goodIn_app (goodIn_of _ (by decide +kernel)) ggX6_read_X6_noLeg
set_option maxRecDepth 20000 in
theorem ggX6_read_X6_in : GoodIn wsX6_read wsX6_in := goodIn_r _ [11] (by decide +kernel) (by decide +kernel)
set_option maxRecDepth 20000 in
theorem gX6_read_X6_in : GoodIn wsX6_read (va_wsS RX6 70 yX6_in wsX6_in) := goodIn_app (goodIn_of _ (by decide +kernel)) ggX6_read_X6_in
set_option maxRecDepth 20000 in
theorem ggX6_read_X6_fits : GoodIn wsX6_read wsX6_fits := goodIn_r _ [14, 15, 16, 17, 18, 9, 10, 7, 11] (by decide +kernel) (by decide +kernel)
set_option maxRecDepth 20000 in
theorem gX6_read_X6_fits : GoodIn wsX6_read (va_wsS RX6 131 yX6_fits wsX6_fits) := goodIn_app (goodIn_of _ (by decide +kernel)) ggX6_read_X6_fits
set_option maxRecDepth 20000 in
theorem ggX6_read_X6_note : GoodIn wsX6_read wsX6_note := goodIn_r _ [22, 23, 24, 3, 28, 29, 30, 31, 32, 33, 34, 35, 36, 37, 38, 39, 40, 41, 42, 43, 44, 45, 46, 47, 48, 49, 50, 51, 52, 53, 54, 55] (by decide +kernel) (by decide +kernel)
set_option maxRecDepth 20000 in
theorem gX6_read_X6_note : GoodIn wsX6_read (wsV RX6 135 RX6 yX6_note wsX6_note) := goodIn_app (goodIn_of _ (by decide +kernel)) ggX6_read_X6_note
set_option maxRecDepth 20000 in
theorem ggX6_read_X6_of : GoodIn wsX6_read wsX6_of := goodIn_r _ [27] (by decide +kernel) (by decide +kernel)
set_option maxRecDepth 20000 in
theorem gX6_read_X6_of : GoodIn wsX6_read (va_wsS RX6 103 yX6_of wsX6_of) := goodIn_app (goodIn_of _ (by decide +kernel)) ggX6_read_X6_of
theorem dX6_read_0 : decode cX6_read 0 = .ok (.aload_n 0, 1) := by decide +kernel
theorem dX6_read_1 : decode cX6_read 1 = .ok (.iconst 0, 1) := by decide +kernel
theorem dX6_read_2 : decode cX6_read 2 = .ok (.putfield 67, 3) := by decide +kernel
theorem dX6_read_5 : decode cX6_read 5 = .ok (.aload_n 0, 1) := by decide +kernel
theorem dX6_read_6 : decode cX6_read 6 = .ok (.iload_n 1, 1) := by decide +kernel
theorem dX6_read_7 : decode cX6_read 7 = .ok (.invokevirtual 113, 3) := by decide +kernel
theorem dX6_read_10 : decode cX6_read 10 = .ok (.ifCond .eq 5, 3) := by decide +kernel
theorem dX6_read_13 : decode cX6_read 13 = .ok (.iconst (-1), 1) := by decide +kernel
theorem dX6_read_14 : decode cX6_read 14 = .ok (.ireturn, 1) := by decide +kernel
theorem dX6_read_15 : decode cX6_read 15 = .ok (.iload_n 2, 1) := by decide +kernel
theorem dX6_read_16 : decode cX6_read 16 = .ok (.i2l, 1) := by decide +kernel
theorem dX6_read_17 : decode cX6_read 17 = .ok (.lconst 0, 1) := by decide +kernel
theorem dX6_read_18 : decode cX6_read 18 = .ok (.ldc2_w 142, 3) := by decide +kernel
theorem dX6_read_21 : decode cX6_read 21 = .ok (.invokestatic 70, 3) := by decide +kernel
theorem dX6_read_24 : decode cX6_read 24 = .ok (.ifCond .eq 11, 3) := by decide +kernel
theorem dX6_read_27 : decode cX6_read 27 = .ok (.iload_n 2, 1) := by decide +kernel
theorem dX6_read_28 : decode cX6_read 28 = .ok (.iload_n 3, 1) := by decide +kernel
theorem dX6_read_29 : decode cX6_read 29 = .ok (.invokestatic 131, 3) := by decide +kernel
theorem dX6_read_32 : decode cX6_read 32 = .ok (.ifCond .ne 6, 3) := by decide +kernel
theorem dX6_read_35 : decode cX6_read 35 = .ok (.bipush (-2), 2) := by decide +kernel
theorem dX6_read_37 : decode cX6_read 37 = .ok (.ireturn, 1) := by decide +kernel
theorem dX6_read_38 : decode cX6_read 38 = .ok (.aload_n 0, 1) := by decide +kernel
theorem dX6_read_39 : decode cX6_read 39 = .ok (.invokevirtual 135, 3) := by decide +kernel
theorem dX6_read_42 : decode cX6_read 42 = .ok (.aload_n 0, 1) := by decide +kernel
theorem dX6_read_43 : decode cX6_read 43 = .ok (.getfield 20, 3) := by decide +kernel
theorem dX6_read_46 : decode cX6_read 46 = .ok (.iload_n 1, 1) := by decide +kernel
theorem dX6_read_47 : decode cX6_read 47 = .ok (.iload_n 2, 1) := by decide +kernel
theorem dX6_read_48 : decode cX6_read 48 = .ok (.invokestatic 103, 3) := by decide +kernel
theorem dX6_read_51 : decode cX6_read 51 = .ok (.istore 4, 2) := by decide +kernel
theorem dX6_read_53 : decode cX6_read 53 = .ok (.aload_n 0, 1) := by decide +kernel
theorem dX6_read_54 : decode cX6_read 54 = .ok (.getfield 20, 3) := by decide +kernel
theorem dX6_read_57 : decode cX6_read 57 = .ok (.iconst 2, 1) := by decide +kernel
theorem dX6_read_58 : decode cX6_read 58 = .ok (.bipush 6, 2) := by decide +kernel
theorem dX6_read_60 : decode cX6_read 60 = .ok (.iload_n 1, 1) := by decide +kernel
theorem dX6_read_61 : decode cX6_read 61 = .ok (.imul, 1) := by decide +kernel
theorem dX6_read_62 : decode cX6_read 62 = .ok (.iadd, 1) := by decide +kernel
theorem dX6_read_63 : decode cX6_read 63 = .ok (.iload_n 2, 1) := by decide +kernel
theorem dX6_read_64 : decode cX6_read 64 = .ok (.iadd, 1) := by decide +kernel
theorem dX6_read_65 : decode cX6_read 65 = .ok (.iload_n 3, 1) := by decide +kernel
theorem dX6_read_66 : decode cX6_read 66 = .ok (.iastore, 1) := by decide +kernel
theorem dX6_read_67 : decode cX6_read 67 = .ok (.iload 4, 2) := by decide +kernel
theorem dX6_read_69 : decode cX6_read 69 = .ok (.ireturn, 1) := by decide +kernel
set_option maxRecDepth 20000 in
theorem ggX6_fall_X6_noLeg : GoodIn wsX6_fall wsX6_noLeg := goodIn_r _ [7, 2, 8, 9, 6, 10, 17, 18, 19, 20, 21, 22, 23, 24, 25, 26, 27, 28, 29, 30, 31, 32, 33, 34, 35, 36, 37, 38, 39, 40, 41, 42, 43, 44] (by decide +kernel) (by decide +kernel)
set_option maxRecDepth 20000 in
theorem gX6_fall_X6_noLeg : GoodIn wsX6_fall (wsV RX6 113 RX6 yX6_noLeg wsX6_noLeg) := goodIn_app (goodIn_of _ (by decide +kernel)) ggX6_fall_X6_noLeg
set_option maxRecDepth 20000 in
theorem ggX6_fall_X6_note : GoodIn wsX6_fall wsX6_note := goodIn_r _ [14, 15, 16, 2, 17, 18, 19, 20, 21, 22, 23, 24, 25, 26, 27, 28, 29, 30, 31, 32, 33, 34, 35, 36, 37, 38, 39, 40, 41, 42, 43, 44] (by decide +kernel) (by decide +kernel)
set_option maxRecDepth 20000 in
theorem gX6_fall_X6_note : GoodIn wsX6_fall (wsV RX6 135 RX6 yX6_note wsX6_note) := goodIn_app (goodIn_of _ (by decide +kernel)) ggX6_fall_X6_note
theorem dX6_fall_0 : decode cX6_fall 0 = .ok (.aload_n 0, 1) := by decide +kernel
theorem dX6_fall_1 : decode cX6_fall 1 = .ok (.iconst 0, 1) := by decide +kernel
theorem dX6_fall_2 : decode cX6_fall 2 = .ok (.putfield 67, 3) := by decide +kernel
theorem dX6_fall_5 : decode cX6_fall 5 = .ok (.aload_n 0, 1) := by decide +kernel
theorem dX6_fall_6 : decode cX6_fall 6 = .ok (.iload_n 1, 1) := by decide +kernel
theorem dX6_fall_7 : decode cX6_fall 7 = .ok (.invokevirtual 113, 3) := by decide +kernel
theorem dX6_fall_10 : decode cX6_fall 10 = .ok (.ifCond .eq 5, 3) := by decide +kernel
theorem dX6_fall_13 : decode cX6_fall 13 = .ok (.iconst (-1), 1) := by decide +kernel
theorem dX6_fall_14 : decode cX6_fall 14 = .ok (.ireturn, 1) := by decide +kernel
theorem dX6_fall_15 : decode cX6_fall 15 = .ok (.aload_n 0, 1) := by decide +kernel
theorem dX6_fall_16 : decode cX6_fall 16 = .ok (.invokevirtual 135, 3) := by decide +kernel
theorem dX6_fall_19 : decode cX6_fall 19 = .ok (.aload_n 0, 1) := by decide +kernel
theorem dX6_fall_20 : decode cX6_fall 20 = .ok (.getfield 20, 3) := by decide +kernel
theorem dX6_fall_23 : decode cX6_fall 23 = .ok (.iconst 1, 1) := by decide +kernel
theorem dX6_fall_24 : decode cX6_fall 24 = .ok (.dup2, 1) := by decide +kernel
theorem dX6_fall_25 : decode cX6_fall 25 = .ok (.iaload, 1) := by decide +kernel
theorem dX6_fall_26 : decode cX6_fall 26 = .ok (.iconst 1, 1) := by decide +kernel
theorem dX6_fall_27 : decode cX6_fall 27 = .ok (.iload_n 1, 1) := by decide +kernel
theorem dX6_fall_28 : decode cX6_fall 28 = .ok (.ishl, 1) := by decide +kernel
theorem dX6_fall_29 : decode cX6_fall 29 = .ok (.ixor, 1) := by decide +kernel
theorem dX6_fall_30 : decode cX6_fall 30 = .ok (.iastore, 1) := by decide +kernel
theorem dX6_fall_31 : decode cX6_fall 31 = .ok (.aload_n 0, 1) := by decide +kernel
theorem dX6_fall_32 : decode cX6_fall 32 = .ok (.getfield 20, 3) := by decide +kernel
theorem dX6_fall_35 : decode cX6_fall 35 = .ok (.iconst 1, 1) := by decide +kernel
theorem dX6_fall_36 : decode cX6_fall 36 = .ok (.iaload, 1) := by decide +kernel
theorem dX6_fall_37 : decode cX6_fall 37 = .ok (.iload_n 1, 1) := by decide +kernel
theorem dX6_fall_38 : decode cX6_fall 38 = .ok (.ishr, 1) := by decide +kernel
theorem dX6_fall_39 : decode cX6_fall 39 = .ok (.iconst 1, 1) := by decide +kernel
theorem dX6_fall_40 : decode cX6_fall 40 = .ok (.iand, 1) := by decide +kernel
theorem dX6_fall_41 : decode cX6_fall 41 = .ok (.ireturn, 1) := by decide +kernel
theorem dX6_undo_0 : decode cX6_undo 0 = .ok (.aload_n 0, 1) := by decide +kernel
theorem dX6_undo_1 : decode cX6_undo 1 = .ok (.iconst 0, 1) := by decide +kernel
theorem dX6_undo_2 : decode cX6_undo 2 = .ok (.putfield 67, 3) := by decide +kernel
theorem dX6_undo_5 : decode cX6_undo 5 = .ok (.aload_n 0, 1) := by decide +kernel
theorem dX6_undo_6 : decode cX6_undo 6 = .ok (.getfield 100, 3) := by decide +kernel
theorem dX6_undo_9 : decode cX6_undo 9 = .ok (.ifCond .ne 6, 3) := by decide +kernel
theorem dX6_undo_12 : decode cX6_undo 12 = .ok (.bipush (-3), 2) := by decide +kernel
theorem dX6_undo_14 : decode cX6_undo 14 = .ok (.ireturn, 1) := by decide +kernel
theorem dX6_undo_15 : decode cX6_undo 15 = .ok (.aload_n 0, 1) := by decide +kernel
theorem dX6_undo_16 : decode cX6_undo 16 = .ok (.dup, 1) := by decide +kernel
theorem dX6_undo_17 : decode cX6_undo 17 = .ok (.getfield 100, 3) := by decide +kernel
theorem dX6_undo_20 : decode cX6_undo 20 = .ok (.iconst 1, 1) := by decide +kernel
theorem dX6_undo_21 : decode cX6_undo 21 = .ok (.isub, 1) := by decide +kernel
theorem dX6_undo_22 : decode cX6_undo 22 = .ok (.putfield 100, 3) := by decide +kernel
theorem dX6_undo_25 : decode cX6_undo 25 = .ok (.iconst 0, 1) := by decide +kernel
theorem dX6_undo_26 : decode cX6_undo 26 = .ok (.istore_n 1, 1) := by decide +kernel
theorem dX6_undo_27 : decode cX6_undo 27 = .ok (.iload_n 1, 1) := by decide +kernel
theorem dX6_undo_28 : decode cX6_undo 28 = .ok (.bipush 50, 2) := by decide +kernel
theorem dX6_undo_30 : decode cX6_undo 30 = .ok (.if_icmp .ge 29, 3) := by decide +kernel
theorem dX6_undo_33 : decode cX6_undo 33 = .ok (.aload_n 0, 1) := by decide +kernel
theorem dX6_undo_34 : decode cX6_undo 34 = .ok (.getfield 20, 3) := by decide +kernel
theorem dX6_undo_37 : decode cX6_undo 37 = .ok (.iload_n 1, 1) := by decide +kernel
theorem dX6_undo_38 : decode cX6_undo 38 = .ok (.aload_n 0, 1) := by decide +kernel
theorem dX6_undo_39 : decode cX6_undo 39 = .ok (.getfield 26, 3) := by decide +kernel
theorem dX6_undo_42 : decode cX6_undo 42 = .ok (.bipush 50, 2) := by decide +kernel
theorem dX6_undo_44 : decode cX6_undo 44 = .ok (.aload_n 0, 1) := by decide +kernel
theorem dX6_undo_45 : decode cX6_undo 45 = .ok (.getfield 100, 3) := by decide +kernel
theorem dX6_undo_48 : decode cX6_undo 48 = .ok (.imul, 1) := by decide +kernel
theorem dX6_undo_49 : decode cX6_undo 49 = .ok (.iload_n 1, 1) := by decide +kernel
theorem dX6_undo_50 : decode cX6_undo 50 = .ok (.iadd, 1) := by decide +kernel
theorem dX6_undo_51 : decode cX6_undo 51 = .ok (.iaload, 1) := by decide +kernel
theorem dX6_undo_52 : decode cX6_undo 52 = .ok (.iastore, 1) := by decide +kernel
theorem dX6_undo_53 : decode cX6_undo 53 = .ok (.iinc 1 1, 3) := by decide +kernel
theorem dX6_undo_56 : decode cX6_undo 56 = .ok (.goto (-29), 3) := by decide +kernel
theorem dX6_undo_59 : decode cX6_undo 59 = .ok (.aload_n 0, 1) := by decide +kernel
theorem dX6_undo_60 : decode cX6_undo 60 = .ok (.getfield 100, 3) := by decide +kernel
theorem dX6_undo_63 : decode cX6_undo 63 = .ok (.ireturn, 1) := by decide +kernel
set_option maxRecDepth 20000 in
theorem ggX6_reached_X6_has : GoodIn wsX6_reached wsX6_has := goodIn_r _ [4] (by decide +kernel) (by decide +kernel)
set_option maxRecDepth 20000 in
theorem gX6_reached_X6_has : GoodIn wsX6_reached (va_wsS RX6 144 yX6_has wsX6_has) := goodIn_app (goodIn_of _ (by decide +kernel)) ggX6_reached_X6_has
set_option maxRecDepth 20000 in
theorem ggX6_reached_X6_of : GoodIn wsX6_reached wsX6_of := goodIn_r _ [7] (by decide +kernel) (by decide +kernel)
set_option maxRecDepth 20000 in
theorem gX6_reached_X6_of : GoodIn wsX6_reached (va_wsS RX6 103 yX6_of wsX6_of) := goodIn_app (goodIn_of _ (by decide +kernel)) ggX6_reached_X6_of
theorem dX6_reached_0 : decode cX6_reached 0 = .ok (.iconst 1, 1) := by decide +kernel
theorem dX6_reached_1 : decode cX6_reached 1 = .ok (.istore 4, 2) := by decide +kernel
theorem dX6_reached_3 : decode cX6_reached 3 = .ok (.iconst 0, 1) := by decide +kernel
theorem dX6_reached_4 : decode cX6_reached 4 = .ok (.istore 5, 2) := by decide +kernel
theorem dX6_reached_6 : decode cX6_reached 6 = .ok (.iload 5, 2) := by decide +kernel
theorem dX6_reached_8 : decode cX6_reached 8 = .ok (.bipush 6, 2) := by decide +kernel
theorem dX6_reached_10 : decode cX6_reached 10 = .ok (.if_icmp .ge 100, 3) := by decide +kernel
theorem dX6_reached_13 : decode cX6_reached 13 = .ok (.iconst 0, 1) := by decide +kernel
theorem dX6_reached_14 : decode cX6_reached 14 = .ok (.istore 6, 2) := by decide +kernel
theorem dX6_reached_16 : decode cX6_reached 16 = .ok (.iload 6, 2) := by decide +kernel
theorem dX6_reached_18 : decode cX6_reached 18 = .ok (.aload_n 1, 1) := by decide +kernel
theorem dX6_reached_19 : decode cX6_reached 19 = .ok (.iconst 0, 1) := by decide +kernel
theorem dX6_reached_20 : decode cX6_reached 20 = .ok (.iaload, 1) := by decide +kernel
theorem dX6_reached_21 : decode cX6_reached 21 = .ok (.if_icmp .ge 83, 3) := by decide +kernel
theorem dX6_reached_24 : decode cX6_reached 24 = .ok (.iload_n 2, 1) := by decide +kernel
theorem dX6_reached_25 : decode cX6_reached 25 = .ok (.iload 6, 2) := by decide +kernel
theorem dX6_reached_27 : decode cX6_reached 27 = .ok (.invokestatic 144, 3) := by decide +kernel
theorem dX6_reached_30 : decode cX6_reached 30 = .ok (.ifCond .eq 68, 3) := by decide +kernel
theorem dX6_reached_33 : decode cX6_reached 33 = .ok (.aload_n 1, 1) := by decide +kernel
theorem dX6_reached_34 : decode cX6_reached 34 = .ok (.iload 6, 2) := by decide +kernel
theorem dX6_reached_36 : decode cX6_reached 36 = .ok (.iconst 3, 1) := by decide +kernel
theorem dX6_reached_37 : decode cX6_reached 37 = .ok (.invokestatic 103, 3) := by decide +kernel
theorem dX6_reached_40 : decode cX6_reached 40 = .ok (.iload_n 3, 1) := by decide +kernel
theorem dX6_reached_41 : decode cX6_reached 41 = .ok (.if_icmp .lt 57, 3) := by decide +kernel
theorem dX6_reached_44 : decode cX6_reached 44 = .ok (.iload 4, 2) := by decide +kernel
theorem dX6_reached_46 : decode cX6_reached 46 = .ok (.aload_n 1, 1) := by decide +kernel
theorem dX6_reached_47 : decode cX6_reached 47 = .ok (.iload 6, 2) := by decide +kernel
theorem dX6_reached_49 : decode cX6_reached 49 = .ok (.iconst 4, 1) := by decide +kernel
theorem dX6_reached_50 : decode cX6_reached 50 = .ok (.invokestatic 103, 3) := by decide +kernel
theorem dX6_reached_53 : decode cX6_reached 53 = .ok (.invokestatic 144, 3) := by decide +kernel
theorem dX6_reached_56 : decode cX6_reached 56 = .ok (.ifCond .ne 18, 3) := by decide +kernel
theorem dX6_reached_59 : decode cX6_reached 59 = .ok (.iload 4, 2) := by decide +kernel
theorem dX6_reached_61 : decode cX6_reached 61 = .ok (.aload_n 1, 1) := by decide +kernel
theorem dX6_reached_62 : decode cX6_reached 62 = .ok (.iload 6, 2) := by decide +kernel
theorem dX6_reached_64 : decode cX6_reached 64 = .ok (.iconst 5, 1) := by decide +kernel
theorem dX6_reached_65 : decode cX6_reached 65 = .ok (.invokestatic 103, 3) := by decide +kernel
theorem dX6_reached_68 : decode cX6_reached 68 = .ok (.invokestatic 144, 3) := by decide +kernel
theorem dX6_reached_71 : decode cX6_reached 71 = .ok (.ifCond .eq 27, 3) := by decide +kernel
theorem dX6_reached_74 : decode cX6_reached 74 = .ok (.iload 4, 2) := by decide +kernel
theorem dX6_reached_76 : decode cX6_reached 76 = .ok (.iconst 1, 1) := by decide +kernel
theorem dX6_reached_77 : decode cX6_reached 77 = .ok (.aload_n 1, 1) := by decide +kernel
theorem dX6_reached_78 : decode cX6_reached 78 = .ok (.iload 6, 2) := by decide +kernel
theorem dX6_reached_80 : decode cX6_reached 80 = .ok (.iconst 4, 1) := by decide +kernel
theorem dX6_reached_81 : decode cX6_reached 81 = .ok (.invokestatic 103, 3) := by decide +kernel
theorem dX6_reached_84 : decode cX6_reached 84 = .ok (.ishl, 1) := by decide +kernel
theorem dX6_reached_85 : decode cX6_reached 85 = .ok (.iconst 1, 1) := by decide +kernel
theorem dX6_reached_86 : decode cX6_reached 86 = .ok (.aload_n 1, 1) := by decide +kernel
theorem dX6_reached_87 : decode cX6_reached 87 = .ok (.iload 6, 2) := by decide +kernel
theorem dX6_reached_89 : decode cX6_reached 89 = .ok (.iconst 5, 1) := by decide +kernel
theorem dX6_reached_90 : decode cX6_reached 90 = .ok (.invokestatic 103, 3) := by decide +kernel
theorem dX6_reached_93 : decode cX6_reached 93 = .ok (.ishl, 1) := by decide +kernel
theorem dX6_reached_94 : decode cX6_reached 94 = .ok (.ior, 1) := by decide +kernel
theorem dX6_reached_95 : decode cX6_reached 95 = .ok (.ior, 1) := by decide +kernel
theorem dX6_reached_96 : decode cX6_reached 96 = .ok (.istore 4, 2) := by decide +kernel
theorem dX6_reached_98 : decode cX6_reached 98 = .ok (.iinc 6 1, 3) := by decide +kernel
theorem dX6_reached_101 : decode cX6_reached 101 = .ok (.goto (-85), 3) := by decide +kernel
theorem dX6_reached_104 : decode cX6_reached 104 = .ok (.iinc 5 1, 3) := by decide +kernel
theorem dX6_reached_107 : decode cX6_reached 107 = .ok (.goto (-101), 3) := by decide +kernel
theorem dX6_reached_110 : decode cX6_reached 110 = .ok (.iload 4, 2) := by decide +kernel
theorem dX6_reached_112 : decode cX6_reached 112 = .ok (.ireturn, 1) := by decide +kernel
set_option maxRecDepth 20000 in
theorem ggX6_tiedBy_X6_reached : GoodIn wsX6_tiedBy wsX6_reached := goodIn_r _ [5, 6, 7, 4, 8, 9, 10, 11] (by decide +kernel) (by decide +kernel)
set_option maxRecDepth 20000 in
theorem gX6_tiedBy_X6_reached : GoodIn wsX6_tiedBy (wsV RX6 147 RX6 yX6_reached wsX6_reached) := goodIn_app (goodIn_of _ (by decide +kernel)) ggX6_tiedBy_X6_reached
theorem dX6_tiedBy_0 : decode cX6_tiedBy 0 = .ok (.aload_n 0, 1) := by decide +kernel
theorem dX6_tiedBy_1 : decode cX6_tiedBy 1 = .ok (.aload_n 1, 1) := by decide +kernel
theorem dX6_tiedBy_2 : decode cX6_tiedBy 2 = .ok (.iload_n 2, 1) := by decide +kernel
theorem dX6_tiedBy_3 : decode cX6_tiedBy 3 = .ok (.iconst 0, 1) := by decide +kernel
theorem dX6_tiedBy_4 : decode cX6_tiedBy 4 = .ok (.invokevirtual 147, 3) := by decide +kernel
theorem dX6_tiedBy_7 : decode cX6_tiedBy 7 = .ok (.ireturn, 1) := by decide +kernel
set_option maxRecDepth 20000 in
theorem ggX6_isTiedLeg_X6_of : GoodIn wsX6_isTiedLeg wsX6_of := goodIn_r _ [4] (by decide +kernel) (by decide +kernel)
set_option maxRecDepth 20000 in
theorem gX6_isTiedLeg_X6_of : GoodIn wsX6_isTiedLeg (va_wsS RX6 103 yX6_of wsX6_of) := goodIn_app (goodIn_of _ (by decide +kernel)) ggX6_isTiedLeg_X6_of
set_option maxRecDepth 20000 in
theorem ggX6_isTiedLeg_X6_has : GoodIn wsX6_isTiedLeg wsX6_has := goodIn_r _ [7] (by decide +kernel) (by decide +kernel)
set_option maxRecDepth 20000 in
theorem gX6_isTiedLeg_X6_has : GoodIn wsX6_isTiedLeg (va_wsS RX6 144 yX6_has wsX6_has) := goodIn_app (goodIn_of _ (by decide +kernel)) ggX6_isTiedLeg_X6_has
theorem dX6_isTiedLeg_0 : decode cX6_isTiedLeg 0 = .ok (.iload_n 3, 1) := by decide +kernel
theorem dX6_isTiedLeg_1 : decode cX6_isTiedLeg 1 = .ok (.aload_n 1, 1) := by decide +kernel
theorem dX6_isTiedLeg_2 : decode cX6_isTiedLeg 2 = .ok (.iload_n 2, 1) := by decide +kernel
theorem dX6_isTiedLeg_3 : decode cX6_isTiedLeg 3 = .ok (.iconst 4, 1) := by decide +kernel
theorem dX6_isTiedLeg_4 : decode cX6_isTiedLeg 4 = .ok (.invokestatic 103, 3) := by decide +kernel
theorem dX6_isTiedLeg_7 : decode cX6_isTiedLeg 7 = .ok (.invokestatic 144, 3) := by decide +kernel
theorem dX6_isTiedLeg_10 : decode cX6_isTiedLeg 10 = .ok (.ireturn, 1) := by decide +kernel
set_option maxRecDepth 20000 in
theorem ggX6_loops_X6_all : GoodIn wsX6_loops wsX6_all := goodIn_r _ [4] (by decide +kernel) (by decide +kernel)
set_option maxRecDepth 20000 in
theorem gX6_loops_X6_all : GoodIn wsX6_loops (va_wsS RX6 150 yX6_all wsX6_all) := goodIn_app (goodIn_of _ (by decide +kernel)) ggX6_loops_X6_all
set_option maxRecDepth 20000 in
theorem ggX6_loops_X6_tiedBy : GoodIn wsX6_loops wsX6_tiedBy := goodIn_r _ [8, 9, 10, 11, 3, 12, 13, 14, 15, 16, 17, 18] (by decide +kernel) (by decide +kernel)
set_option maxRecDepth 20000 in
theorem gX6_loops_X6_tiedBy : GoodIn wsX6_loops (wsV RX6 154 RX6 yX6_tiedBy wsX6_tiedBy) := goodIn_app (goodIn_of _ (by decide +kernel)) ggX6_loops_X6_tiedBy
set_option maxRecDepth 20000 in
theorem ggX6_loops_X6_ones : GoodIn wsX6_loops wsX6_ones := goodIn_r _ [21] (by decide +kernel) (by decide +kernel)
set_option maxRecDepth 20000 in
theorem gX6_loops_X6_ones : GoodIn wsX6_loops (va_wsS RX6 158 yX6_ones wsX6_ones) := goodIn_app (goodIn_of _ (by decide +kernel)) ggX6_loops_X6_ones
set_option maxRecDepth 20000 in
theorem ggX6_loops_X6_isTiedLeg : GoodIn wsX6_loops wsX6_isTiedLeg := goodIn_r _ [25, 16, 17, 3, 18, 13, 14, 15] (by decide +kernel) (by decide +kernel)
set_option maxRecDepth 20000 in
theorem gX6_loops_X6_isTiedLeg : GoodIn wsX6_loops (wsV RX6 162 RX6 yX6_isTiedLeg wsX6_isTiedLeg) := goodIn_app (goodIn_of _ (by decide +kernel)) ggX6_loops_X6_isTiedLeg
theorem dX6_loops_0 : decode cX6_loops 0 = .ok (.aload_n 0, 1) := by decide +kernel
theorem dX6_loops_1 : decode cX6_loops 1 = .ok (.aload_n 1, 1) := by decide +kernel
theorem dX6_loops_2 : decode cX6_loops 2 = .ok (.aload_n 1, 1) := by decide +kernel
theorem dX6_loops_3 : decode cX6_loops 3 = .ok (.invokestatic 150, 3) := by decide +kernel
theorem dX6_loops_6 : decode cX6_loops 6 = .ok (.invokevirtual 154, 3) := by decide +kernel
theorem dX6_loops_9 : decode cX6_loops 9 = .ok (.istore_n 2, 1) := by decide +kernel
theorem dX6_loops_10 : decode cX6_loops 10 = .ok (.iconst 1, 1) := by decide +kernel
theorem dX6_loops_11 : decode cX6_loops 11 = .ok (.iload_n 2, 1) := by decide +kernel
theorem dX6_loops_12 : decode cX6_loops 12 = .ok (.invokestatic 158, 3) := by decide +kernel
theorem dX6_loops_15 : decode cX6_loops 15 = .ok (.isub, 1) := by decide +kernel
theorem dX6_loops_16 : decode cX6_loops 16 = .ok (.istore_n 3, 1) := by decide +kernel
theorem dX6_loops_17 : decode cX6_loops 17 = .ok (.iconst 0, 1) := by decide +kernel
theorem dX6_loops_18 : decode cX6_loops 18 = .ok (.istore 4, 2) := by decide +kernel
theorem dX6_loops_20 : decode cX6_loops 20 = .ok (.iload 4, 2) := by decide +kernel
theorem dX6_loops_22 : decode cX6_loops 22 = .ok (.aload_n 1, 1) := by decide +kernel
theorem dX6_loops_23 : decode cX6_loops 23 = .ok (.iconst 0, 1) := by decide +kernel
theorem dX6_loops_24 : decode cX6_loops 24 = .ok (.iaload, 1) := by decide +kernel
theorem dX6_loops_25 : decode cX6_loops 25 = .ok (.if_icmp .ge 28, 3) := by decide +kernel
theorem dX6_loops_28 : decode cX6_loops 28 = .ok (.iload_n 3, 1) := by decide +kernel
theorem dX6_loops_29 : decode cX6_loops 29 = .ok (.aload_n 0, 1) := by decide +kernel
theorem dX6_loops_30 : decode cX6_loops 30 = .ok (.aload_n 1, 1) := by decide +kernel
theorem dX6_loops_31 : decode cX6_loops 31 = .ok (.iload 4, 2) := by decide +kernel
theorem dX6_loops_33 : decode cX6_loops 33 = .ok (.iload_n 2, 1) := by decide +kernel
theorem dX6_loops_34 : decode cX6_loops 34 = .ok (.invokevirtual 162, 3) := by decide +kernel
theorem dX6_loops_37 : decode cX6_loops 37 = .ok (.ifCond .eq 7, 3) := by decide +kernel
theorem dX6_loops_40 : decode cX6_loops 40 = .ok (.iconst 1, 1) := by decide +kernel
theorem dX6_loops_41 : decode cX6_loops 41 = .ok (.goto 4, 3) := by decide +kernel
theorem dX6_loops_44 : decode cX6_loops 44 = .ok (.iconst 0, 1) := by decide +kernel
theorem dX6_loops_45 : decode cX6_loops 45 = .ok (.iadd, 1) := by decide +kernel
theorem dX6_loops_46 : decode cX6_loops 46 = .ok (.istore_n 3, 1) := by decide +kernel
theorem dX6_loops_47 : decode cX6_loops 47 = .ok (.iinc 4 1, 3) := by decide +kernel
theorem dX6_loops_50 : decode cX6_loops 50 = .ok (.goto (-30), 3) := by decide +kernel
theorem dX6_loops_53 : decode cX6_loops 53 = .ok (.iload_n 3, 1) := by decide +kernel
theorem dX6_loops_54 : decode cX6_loops 54 = .ok (.ireturn, 1) := by decide +kernel
set_option maxRecDepth 20000 in
theorem ggX6_layOut_X6_of : GoodIn wsX6_layOut wsX6_of := goodIn_r _ [5] (by decide +kernel) (by decide +kernel)
set_option maxRecDepth 20000 in
theorem gX6_layOut_X6_of : GoodIn wsX6_layOut (va_wsS RX6 103 yX6_of wsX6_of) := goodIn_app (goodIn_of _ (by decide +kernel)) ggX6_layOut_X6_of
set_option maxRecDepth 20000 in
theorem ggX6_layOut_X6_has : GoodIn wsX6_layOut wsX6_has := goodIn_r _ [8] (by decide +kernel) (by decide +kernel)
set_option maxRecDepth 20000 in
theorem gX6_layOut_X6_has : GoodIn wsX6_layOut (va_wsS RX6 144 yX6_has wsX6_has) := goodIn_app (goodIn_of _ (by decide +kernel)) ggX6_layOut_X6_has
set_option maxRecDepth 20000 in
theorem ggX6_layOut_X6_stepOf : GoodIn wsX6_layOut wsX6_stepOf := goodIn_r _ [12, 13, 2, 3, 4, 5, 14, 15, 16, 17, 18, 19, 20, 21, 22, 23, 24, 25, 26, 27, 28, 29, 30, 31, 32, 33, 34, 35, 36, 37, 38, 39, 40, 41, 42, 43, 44, 45, 46, 47] (by decide +kernel) (by decide +kernel)
set_option maxRecDepth 20000 in
theorem gX6_layOut_X6_stepOf : GoodIn wsX6_layOut (wsV RX6 119 RX6 yX6_stepOf wsX6_stepOf) := goodIn_app (goodIn_of _ (by decide +kernel)) ggX6_layOut_X6_stepOf
theorem dX6_layOut_0 : decode cX6_layOut 0 = .ok (.iconst 1, 1) := by decide +kernel
theorem dX6_layOut_1 : decode cX6_layOut 1 = .ok (.istore_n 2, 1) := by decide +kernel
theorem dX6_layOut_2 : decode cX6_layOut 2 = .ok (.iconst 0, 1) := by decide +kernel
theorem dX6_layOut_3 : decode cX6_layOut 3 = .ok (.istore_n 3, 1) := by decide +kernel
theorem dX6_layOut_4 : decode cX6_layOut 4 = .ok (.iload_n 3, 1) := by decide +kernel
theorem dX6_layOut_5 : decode cX6_layOut 5 = .ok (.bipush 18, 2) := by decide +kernel
theorem dX6_layOut_7 : decode cX6_layOut 7 = .ok (.if_icmp .ge 16, 3) := by decide +kernel
theorem dX6_layOut_10 : decode cX6_layOut 10 = .ok (.aload_n 0, 1) := by decide +kernel
theorem dX6_layOut_11 : decode cX6_layOut 11 = .ok (.getfield 51, 3) := by decide +kernel
theorem dX6_layOut_14 : decode cX6_layOut 14 = .ok (.iload_n 3, 1) := by decide +kernel
theorem dX6_layOut_15 : decode cX6_layOut 15 = .ok (.iconst 0, 1) := by decide +kernel
theorem dX6_layOut_16 : decode cX6_layOut 16 = .ok (.iastore, 1) := by decide +kernel
theorem dX6_layOut_17 : decode cX6_layOut 17 = .ok (.iinc 3 1, 3) := by decide +kernel
theorem dX6_layOut_20 : decode cX6_layOut 20 = .ok (.goto (-16), 3) := by decide +kernel
theorem dX6_layOut_23 : decode cX6_layOut 23 = .ok (.iconst 0, 1) := by decide +kernel
theorem dX6_layOut_24 : decode cX6_layOut 24 = .ok (.istore_n 3, 1) := by decide +kernel
theorem dX6_layOut_25 : decode cX6_layOut 25 = .ok (.iload_n 3, 1) := by decide +kernel
theorem dX6_layOut_26 : decode cX6_layOut 26 = .ok (.aload_n 1, 1) := by decide +kernel
theorem dX6_layOut_27 : decode cX6_layOut 27 = .ok (.iconst 0, 1) := by decide +kernel
theorem dX6_layOut_28 : decode cX6_layOut 28 = .ok (.iaload, 1) := by decide +kernel
theorem dX6_layOut_29 : decode cX6_layOut 29 = .ok (.if_icmp .ge 152, 3) := by decide +kernel
theorem dX6_layOut_32 : decode cX6_layOut 32 = .ok (.aload_n 1, 1) := by decide +kernel
theorem dX6_layOut_33 : decode cX6_layOut 33 = .ok (.iload_n 3, 1) := by decide +kernel
theorem dX6_layOut_34 : decode cX6_layOut 34 = .ok (.iconst 4, 1) := by decide +kernel
theorem dX6_layOut_35 : decode cX6_layOut 35 = .ok (.invokestatic 103, 3) := by decide +kernel
theorem dX6_layOut_38 : decode cX6_layOut 38 = .ok (.istore 4, 2) := by decide +kernel
theorem dX6_layOut_40 : decode cX6_layOut 40 = .ok (.aload_n 1, 1) := by decide +kernel
theorem dX6_layOut_41 : decode cX6_layOut 41 = .ok (.iload_n 3, 1) := by decide +kernel
theorem dX6_layOut_42 : decode cX6_layOut 42 = .ok (.iconst 5, 1) := by decide +kernel
theorem dX6_layOut_43 : decode cX6_layOut 43 = .ok (.invokestatic 103, 3) := by decide +kernel
theorem dX6_layOut_46 : decode cX6_layOut 46 = .ok (.istore 5, 2) := by decide +kernel
theorem dX6_layOut_48 : decode cX6_layOut 48 = .ok (.iload_n 2, 1) := by decide +kernel
theorem dX6_layOut_49 : decode cX6_layOut 49 = .ok (.iload 4, 2) := by decide +kernel
theorem dX6_layOut_51 : decode cX6_layOut 51 = .ok (.invokestatic 144, 3) := by decide +kernel
theorem dX6_layOut_54 : decode cX6_layOut 54 = .ok (.iload_n 2, 1) := by decide +kernel
theorem dX6_layOut_55 : decode cX6_layOut 55 = .ok (.iload 5, 2) := by decide +kernel
theorem dX6_layOut_57 : decode cX6_layOut 57 = .ok (.invokestatic 144, 3) := by decide +kernel
theorem dX6_layOut_60 : decode cX6_layOut 60 = .ok (.if_icmp .ne 9, 3) := by decide +kernel
theorem dX6_layOut_63 : decode cX6_layOut 63 = .ok (.iinc 3 1, 3) := by decide +kernel
theorem dX6_layOut_66 : decode cX6_layOut 66 = .ok (.goto 112, 3) := by decide +kernel
theorem dX6_layOut_69 : decode cX6_layOut 69 = .ok (.iload_n 2, 1) := by decide +kernel
theorem dX6_layOut_70 : decode cX6_layOut 70 = .ok (.iload 4, 2) := by decide +kernel
theorem dX6_layOut_72 : decode cX6_layOut 72 = .ok (.invokestatic 144, 3) := by decide +kernel
theorem dX6_layOut_75 : decode cX6_layOut 75 = .ok (.istore 6, 2) := by decide +kernel
theorem dX6_layOut_77 : decode cX6_layOut 77 = .ok (.iconst 0, 1) := by decide +kernel
theorem dX6_layOut_78 : decode cX6_layOut 78 = .ok (.istore 7, 2) := by decide +kernel
theorem dX6_layOut_80 : decode cX6_layOut 80 = .ok (.iload 7, 2) := by decide +kernel
theorem dX6_layOut_82 : decode cX6_layOut 82 = .ok (.iconst 3, 1) := by decide +kernel
theorem dX6_layOut_83 : decode cX6_layOut 83 = .ok (.if_icmp .ge 81, 3) := by decide +kernel
theorem dX6_layOut_86 : decode cX6_layOut 86 = .ok (.aload_n 0, 1) := by decide +kernel
theorem dX6_layOut_87 : decode cX6_layOut 87 = .ok (.aload_n 1, 1) := by decide +kernel
theorem dX6_layOut_88 : decode cX6_layOut 88 = .ok (.iload_n 3, 1) := by decide +kernel
theorem dX6_layOut_89 : decode cX6_layOut 89 = .ok (.iload 7, 2) := by decide +kernel
theorem dX6_layOut_91 : decode cX6_layOut 91 = .ok (.invokevirtual 119, 3) := by decide +kernel
theorem dX6_layOut_94 : decode cX6_layOut 94 = .ok (.istore 8, 2) := by decide +kernel
theorem dX6_layOut_96 : decode cX6_layOut 96 = .ok (.iload 6, 2) := by decide +kernel
theorem dX6_layOut_98 : decode cX6_layOut 98 = .ok (.ifCond .eq 33, 3) := by decide +kernel
theorem dX6_layOut_101 : decode cX6_layOut 101 = .ok (.aload_n 0, 1) := by decide +kernel
theorem dX6_layOut_102 : decode cX6_layOut 102 = .ok (.getfield 51, 3) := by decide +kernel
theorem dX6_layOut_105 : decode cX6_layOut 105 = .ok (.iconst 3, 1) := by decide +kernel
theorem dX6_layOut_106 : decode cX6_layOut 106 = .ok (.iload 5, 2) := by decide +kernel
theorem dX6_layOut_108 : decode cX6_layOut 108 = .ok (.imul, 1) := by decide +kernel
theorem dX6_layOut_109 : decode cX6_layOut 109 = .ok (.iload 7, 2) := by decide +kernel
theorem dX6_layOut_111 : decode cX6_layOut 111 = .ok (.iadd, 1) := by decide +kernel
theorem dX6_layOut_112 : decode cX6_layOut 112 = .ok (.aload_n 0, 1) := by decide +kernel
theorem dX6_layOut_113 : decode cX6_layOut 113 = .ok (.getfield 51, 3) := by decide +kernel
theorem dX6_layOut_116 : decode cX6_layOut 116 = .ok (.iconst 3, 1) := by decide +kernel
theorem dX6_layOut_117 : decode cX6_layOut 117 = .ok (.iload 4, 2) := by decide +kernel
theorem dX6_layOut_119 : decode cX6_layOut 119 = .ok (.imul, 1) := by decide +kernel
theorem dX6_layOut_120 : decode cX6_layOut 120 = .ok (.iload 7, 2) := by decide +kernel
theorem dX6_layOut_122 : decode cX6_layOut 122 = .ok (.iadd, 1) := by decide +kernel
theorem dX6_layOut_123 : decode cX6_layOut 123 = .ok (.iaload, 1) := by decide +kernel
theorem dX6_layOut_124 : decode cX6_layOut 124 = .ok (.iload 8, 2) := by decide +kernel
theorem dX6_layOut_126 : decode cX6_layOut 126 = .ok (.iadd, 1) := by decide +kernel
theorem dX6_layOut_127 : decode cX6_layOut 127 = .ok (.iastore, 1) := by decide +kernel
theorem dX6_layOut_128 : decode cX6_layOut 128 = .ok (.goto 30, 3) := by decide +kernel
theorem dX6_layOut_131 : decode cX6_layOut 131 = .ok (.aload_n 0, 1) := by decide +kernel
theorem dX6_layOut_132 : decode cX6_layOut 132 = .ok (.getfield 51, 3) := by decide +kernel
theorem dX6_layOut_135 : decode cX6_layOut 135 = .ok (.iconst 3, 1) := by decide +kernel
theorem dX6_layOut_136 : decode cX6_layOut 136 = .ok (.iload 4, 2) := by decide +kernel
theorem dX6_layOut_138 : decode cX6_layOut 138 = .ok (.imul, 1) := by decide +kernel
theorem dX6_layOut_139 : decode cX6_layOut 139 = .ok (.iload 7, 2) := by decide +kernel
theorem dX6_layOut_141 : decode cX6_layOut 141 = .ok (.iadd, 1) := by decide +kernel
theorem dX6_layOut_142 : decode cX6_layOut 142 = .ok (.aload_n 0, 1) := by decide +kernel
theorem dX6_layOut_143 : decode cX6_layOut 143 = .ok (.getfield 51, 3) := by decide +kernel
theorem dX6_layOut_146 : decode cX6_layOut 146 = .ok (.iconst 3, 1) := by decide +kernel
theorem dX6_layOut_147 : decode cX6_layOut 147 = .ok (.iload 5, 2) := by decide +kernel
theorem dX6_layOut_149 : decode cX6_layOut 149 = .ok (.imul, 1) := by decide +kernel
theorem dX6_layOut_150 : decode cX6_layOut 150 = .ok (.iload 7, 2) := by decide +kernel
theorem dX6_layOut_152 : decode cX6_layOut 152 = .ok (.iadd, 1) := by decide +kernel
theorem dX6_layOut_153 : decode cX6_layOut 153 = .ok (.iaload, 1) := by decide +kernel
theorem dX6_layOut_154 : decode cX6_layOut 154 = .ok (.iload 8, 2) := by decide +kernel
theorem dX6_layOut_156 : decode cX6_layOut 156 = .ok (.isub, 1) := by decide +kernel
theorem dX6_layOut_157 : decode cX6_layOut 157 = .ok (.iastore, 1) := by decide +kernel
theorem dX6_layOut_158 : decode cX6_layOut 158 = .ok (.iinc 7 1, 3) := by decide +kernel
theorem dX6_layOut_161 : decode cX6_layOut 161 = .ok (.goto (-81), 3) := by decide +kernel
theorem dX6_layOut_164 : decode cX6_layOut 164 = .ok (.iload_n 2, 1) := by decide +kernel
theorem dX6_layOut_165 : decode cX6_layOut 165 = .ok (.iconst 1, 1) := by decide +kernel
theorem dX6_layOut_166 : decode cX6_layOut 166 = .ok (.iload 4, 2) := by decide +kernel
theorem dX6_layOut_168 : decode cX6_layOut 168 = .ok (.ishl, 1) := by decide +kernel
theorem dX6_layOut_169 : decode cX6_layOut 169 = .ok (.iconst 1, 1) := by decide +kernel
theorem dX6_layOut_170 : decode cX6_layOut 170 = .ok (.iload 5, 2) := by decide +kernel
theorem dX6_layOut_172 : decode cX6_layOut 172 = .ok (.ishl, 1) := by decide +kernel
theorem dX6_layOut_173 : decode cX6_layOut 173 = .ok (.ior, 1) := by decide +kernel
theorem dX6_layOut_174 : decode cX6_layOut 174 = .ok (.ior, 1) := by decide +kernel
theorem dX6_layOut_175 : decode cX6_layOut 175 = .ok (.istore_n 2, 1) := by decide +kernel
theorem dX6_layOut_176 : decode cX6_layOut 176 = .ok (.iconst 0, 1) := by decide +kernel
theorem dX6_layOut_177 : decode cX6_layOut 177 = .ok (.istore_n 3, 1) := by decide +kernel
theorem dX6_layOut_178 : decode cX6_layOut 178 = .ok (.goto (-153), 3) := by decide +kernel
theorem dX6_layOut_181 : decode cX6_layOut 181 = .ok (.return_, 1) := by decide +kernel
set_option maxRecDepth 20000 in
theorem ggX6_missOf_X6_stepOf : GoodIn wsX6_missOf wsX6_stepOf := goodIn_r _ [6, 7, 8, 9, 5, 10, 11, 12, 13, 14, 15, 16, 17, 18, 19, 20, 21, 22, 23, 24, 25, 26, 27, 28, 29, 30, 31, 32, 33, 34, 35, 36, 37, 38, 39, 40, 41, 42, 43, 44] (by decide +kernel) (by decide +kernel)
set_option maxRecDepth 20000 in
theorem gX6_missOf_X6_stepOf : GoodIn wsX6_missOf (wsV RX6 119 RX6 yX6_stepOf wsX6_stepOf) := goodIn_app (goodIn_of _ (by decide +kernel)) ggX6_missOf_X6_stepOf
set_option maxRecDepth 20000 in
theorem ggX6_missOf_X6_of : GoodIn wsX6_missOf wsX6_of := goodIn_r _ [10] (by decide +kernel) (by decide +kernel)
set_option maxRecDepth 20000 in
theorem gX6_missOf_X6_of : GoodIn wsX6_missOf (va_wsS RX6 103 yX6_of wsX6_of) := goodIn_app (goodIn_of _ (by decide +kernel)) ggX6_missOf_X6_of
theorem dX6_missOf_0 : decode cX6_missOf 0 = .ok (.aload_n 0, 1) := by decide +kernel
theorem dX6_missOf_1 : decode cX6_missOf 1 = .ok (.aload_n 1, 1) := by decide +kernel
theorem dX6_missOf_2 : decode cX6_missOf 2 = .ok (.iload_n 2, 1) := by decide +kernel
theorem dX6_missOf_3 : decode cX6_missOf 3 = .ok (.iload_n 3, 1) := by decide +kernel
theorem dX6_missOf_4 : decode cX6_missOf 4 = .ok (.invokevirtual 119, 3) := by decide +kernel
theorem dX6_missOf_7 : decode cX6_missOf 7 = .ok (.aload_n 0, 1) := by decide +kernel
theorem dX6_missOf_8 : decode cX6_missOf 8 = .ok (.getfield 51, 3) := by decide +kernel
theorem dX6_missOf_11 : decode cX6_missOf 11 = .ok (.iconst 3, 1) := by decide +kernel
theorem dX6_missOf_12 : decode cX6_missOf 12 = .ok (.aload_n 1, 1) := by decide +kernel
theorem dX6_missOf_13 : decode cX6_missOf 13 = .ok (.iload_n 2, 1) := by decide +kernel
theorem dX6_missOf_14 : decode cX6_missOf 14 = .ok (.iconst 5, 1) := by decide +kernel
theorem dX6_missOf_15 : decode cX6_missOf 15 = .ok (.invokestatic 103, 3) := by decide +kernel
theorem dX6_missOf_18 : decode cX6_missOf 18 = .ok (.imul, 1) := by decide +kernel
theorem dX6_missOf_19 : decode cX6_missOf 19 = .ok (.iload_n 3, 1) := by decide +kernel
theorem dX6_missOf_20 : decode cX6_missOf 20 = .ok (.iadd, 1) := by decide +kernel
theorem dX6_missOf_21 : decode cX6_missOf 21 = .ok (.iaload, 1) := by decide +kernel
theorem dX6_missOf_22 : decode cX6_missOf 22 = .ok (.isub, 1) := by decide +kernel
theorem dX6_missOf_23 : decode cX6_missOf 23 = .ok (.aload_n 0, 1) := by decide +kernel
theorem dX6_missOf_24 : decode cX6_missOf 24 = .ok (.getfield 51, 3) := by decide +kernel
theorem dX6_missOf_27 : decode cX6_missOf 27 = .ok (.iconst 3, 1) := by decide +kernel
theorem dX6_missOf_28 : decode cX6_missOf 28 = .ok (.aload_n 1, 1) := by decide +kernel
theorem dX6_missOf_29 : decode cX6_missOf 29 = .ok (.iload_n 2, 1) := by decide +kernel
theorem dX6_missOf_30 : decode cX6_missOf 30 = .ok (.iconst 4, 1) := by decide +kernel
theorem dX6_missOf_31 : decode cX6_missOf 31 = .ok (.invokestatic 103, 3) := by decide +kernel
theorem dX6_missOf_34 : decode cX6_missOf 34 = .ok (.imul, 1) := by decide +kernel
theorem dX6_missOf_35 : decode cX6_missOf 35 = .ok (.iload_n 3, 1) := by decide +kernel
theorem dX6_missOf_36 : decode cX6_missOf 36 = .ok (.iadd, 1) := by decide +kernel
theorem dX6_missOf_37 : decode cX6_missOf 37 = .ok (.iaload, 1) := by decide +kernel
theorem dX6_missOf_38 : decode cX6_missOf 38 = .ok (.iadd, 1) := by decide +kernel
theorem dX6_missOf_39 : decode cX6_missOf 39 = .ok (.ireturn, 1) := by decide +kernel
set_option maxRecDepth 20000 in
theorem ggX6_laid_X6_noStation : GoodIn wsX6_laid wsX6_noStation := goodIn_r _ [9, 10, 11, 12, 8, 13, 46, 47, 48, 49, 50, 51, 52, 53, 54, 55, 56, 57, 58, 59, 60, 61, 62, 63, 64, 65, 66, 67, 68, 69, 70, 71, 72, 73] (by decide +kernel) (by decide +kernel)
set_option maxRecDepth 20000 in
theorem gX6_laid_X6_noStation : GoodIn wsX6_laid (wsV RX6 128 RX6 yX6_noStation wsX6_noStation) := goodIn_app (goodIn_of _ (by decide +kernel)) ggX6_laid_X6_noStation
set_option maxRecDepth 20000 in
theorem ggX6_laid_X6_in : GoodIn wsX6_laid wsX6_in := goodIn_r _ [13] (by decide +kernel) (by decide +kernel)
set_option maxRecDepth 20000 in
theorem gX6_laid_X6_in : GoodIn wsX6_laid (va_wsS RX6 70 yX6_in wsX6_in) := goodIn_app (goodIn_of _ (by decide +kernel)) ggX6_laid_X6_in
set_option maxRecDepth 20000 in
theorem ggX6_laid_X6_all : GoodIn wsX6_laid wsX6_all := goodIn_r _ [16] (by decide +kernel) (by decide +kernel)
set_option maxRecDepth 20000 in
theorem gX6_laid_X6_all : GoodIn wsX6_laid (va_wsS RX6 150 yX6_all wsX6_all) := goodIn_app (goodIn_of _ (by decide +kernel)) ggX6_laid_X6_all
set_option maxRecDepth 20000 in
theorem ggX6_laid_X6_tiedBy : GoodIn wsX6_laid wsX6_tiedBy := goodIn_r _ [20, 21, 22, 23, 8, 24, 25, 26, 27, 28, 29, 30] (by decide +kernel) (by decide +kernel)
set_option maxRecDepth 20000 in
theorem gX6_laid_X6_tiedBy : GoodIn wsX6_laid (wsV RX6 154 RX6 yX6_tiedBy wsX6_tiedBy) := goodIn_app (goodIn_of _ (by decide +kernel)) ggX6_laid_X6_tiedBy
set_option maxRecDepth 20000 in
theorem ggX6_laid_X6_has : GoodIn wsX6_laid wsX6_has := goodIn_r _ [27] (by decide +kernel) (by decide +kernel)
set_option maxRecDepth 20000 in
theorem gX6_laid_X6_has : GoodIn wsX6_laid (va_wsS RX6 144 yX6_has wsX6_has) := goodIn_app (goodIn_of _ (by decide +kernel)) ggX6_laid_X6_has
set_option maxRecDepth 20000 in
theorem ggX6_laid_X6_layOut : GoodIn wsX6_laid wsX6_layOut := goodIn_r _ [34, 4, 28, 29, 8, 30, 25, 26, 27, 35, 36, 37, 38, 39, 40, 41, 42, 43, 44, 45, 46, 47, 48, 49, 50, 51, 52, 53, 54, 55, 56, 57, 58, 59, 60, 61, 62, 63, 64, 65, 66, 67, 68, 69, 70, 71, 72, 73] (by decide +kernel) (by decide +kernel)
set_option maxRecDepth 20000 in
theorem gX6_laid_X6_layOut : GoodIn wsX6_laid (wsV RX6 168 RX6 yX6_layOut wsX6_layOut) := goodIn_app (goodIn_of _ (by decide +kernel)) ggX6_laid_X6_layOut
theorem dX6_laid_0 : decode cX6_laid 0 = .ok (.aload_n 0, 1) := by decide +kernel
theorem dX6_laid_1 : decode cX6_laid 1 = .ok (.iconst 0, 1) := by decide +kernel
theorem dX6_laid_2 : decode cX6_laid 2 = .ok (.putfield 67, 3) := by decide +kernel
theorem dX6_laid_5 : decode cX6_laid 5 = .ok (.aload_n 0, 1) := by decide +kernel
theorem dX6_laid_6 : decode cX6_laid 6 = .ok (.iload_n 1, 1) := by decide +kernel
theorem dX6_laid_7 : decode cX6_laid 7 = .ok (.invokevirtual 128, 3) := by decide +kernel
theorem dX6_laid_10 : decode cX6_laid 10 = .ok (.ifCond .eq 5, 3) := by decide +kernel
theorem dX6_laid_13 : decode cX6_laid 13 = .ok (.iconst (-1), 1) := by decide +kernel
theorem dX6_laid_14 : decode cX6_laid 14 = .ok (.ireturn, 1) := by decide +kernel
theorem dX6_laid_15 : decode cX6_laid 15 = .ok (.iload_n 2, 1) := by decide +kernel
theorem dX6_laid_16 : decode cX6_laid 16 = .ok (.i2l, 1) := by decide +kernel
theorem dX6_laid_17 : decode cX6_laid 17 = .ok (.lconst 0, 1) := by decide +kernel
theorem dX6_laid_18 : decode cX6_laid 18 = .ok (.ldc2_w 166, 3) := by decide +kernel
theorem dX6_laid_21 : decode cX6_laid 21 = .ok (.invokestatic 70, 3) := by decide +kernel
theorem dX6_laid_24 : decode cX6_laid 24 = .ok (.ifCond .ne 6, 3) := by decide +kernel
theorem dX6_laid_27 : decode cX6_laid 27 = .ok (.bipush (-2), 2) := by decide +kernel
theorem dX6_laid_29 : decode cX6_laid 29 = .ok (.ireturn, 1) := by decide +kernel
theorem dX6_laid_30 : decode cX6_laid 30 = .ok (.aload_n 0, 1) := by decide +kernel
theorem dX6_laid_31 : decode cX6_laid 31 = .ok (.aload_n 0, 1) := by decide +kernel
theorem dX6_laid_32 : decode cX6_laid 32 = .ok (.getfield 20, 3) := by decide +kernel
theorem dX6_laid_35 : decode cX6_laid 35 = .ok (.aload_n 0, 1) := by decide +kernel
theorem dX6_laid_36 : decode cX6_laid 36 = .ok (.getfield 20, 3) := by decide +kernel
theorem dX6_laid_39 : decode cX6_laid 39 = .ok (.invokestatic 150, 3) := by decide +kernel
theorem dX6_laid_42 : decode cX6_laid 42 = .ok (.invokevirtual 154, 3) := by decide +kernel
theorem dX6_laid_45 : decode cX6_laid 45 = .ok (.iload_n 1, 1) := by decide +kernel
theorem dX6_laid_46 : decode cX6_laid 46 = .ok (.invokestatic 144, 3) := by decide +kernel
theorem dX6_laid_49 : decode cX6_laid 49 = .ok (.ifCond .ne 6, 3) := by decide +kernel
theorem dX6_laid_52 : decode cX6_laid 52 = .ok (.bipush (-3), 2) := by decide +kernel
theorem dX6_laid_54 : decode cX6_laid 54 = .ok (.ireturn, 1) := by decide +kernel
theorem dX6_laid_55 : decode cX6_laid 55 = .ok (.aload_n 0, 1) := by decide +kernel
theorem dX6_laid_56 : decode cX6_laid 56 = .ok (.aload_n 0, 1) := by decide +kernel
theorem dX6_laid_57 : decode cX6_laid 57 = .ok (.getfield 20, 3) := by decide +kernel
theorem dX6_laid_60 : decode cX6_laid 60 = .ok (.invokevirtual 168, 3) := by decide +kernel
theorem dX6_laid_63 : decode cX6_laid 63 = .ok (.aload_n 0, 1) := by decide +kernel
theorem dX6_laid_64 : decode cX6_laid 64 = .ok (.getfield 51, 3) := by decide +kernel
theorem dX6_laid_67 : decode cX6_laid 67 = .ok (.iconst 3, 1) := by decide +kernel
theorem dX6_laid_68 : decode cX6_laid 68 = .ok (.iload_n 1, 1) := by decide +kernel
theorem dX6_laid_69 : decode cX6_laid 69 = .ok (.imul, 1) := by decide +kernel
theorem dX6_laid_70 : decode cX6_laid 70 = .ok (.iload_n 2, 1) := by decide +kernel
theorem dX6_laid_71 : decode cX6_laid 71 = .ok (.iadd, 1) := by decide +kernel
theorem dX6_laid_72 : decode cX6_laid 72 = .ok (.iaload, 1) := by decide +kernel
theorem dX6_laid_73 : decode cX6_laid 73 = .ok (.sipush 1000, 3) := by decide +kernel
theorem dX6_laid_76 : decode cX6_laid 76 = .ok (.iadd, 1) := by decide +kernel
theorem dX6_laid_77 : decode cX6_laid 77 = .ok (.ireturn, 1) := by decide +kernel
set_option maxRecDepth 20000 in
theorem ggX6_miss_X6_noLeg : GoodIn wsX6_miss wsX6_noLeg := goodIn_r _ [8, 3, 9, 10, 7, 11, 53, 54, 55, 56, 57, 58, 59, 60, 61, 62, 63, 64, 65, 66, 67, 68, 69, 70, 71, 72, 73, 74, 75, 76, 77, 78, 79, 80] (by decide +kernel) (by decide +kernel)
set_option maxRecDepth 20000 in
theorem gX6_miss_X6_noLeg : GoodIn wsX6_miss (wsV RX6 113 RX6 yX6_noLeg wsX6_noLeg) := goodIn_app (goodIn_of _ (by decide +kernel)) ggX6_miss_X6_noLeg
set_option maxRecDepth 20000 in
theorem ggX6_miss_X6_in : GoodIn wsX6_miss wsX6_in := goodIn_r _ [11] (by decide +kernel) (by decide +kernel)
set_option maxRecDepth 20000 in
theorem gX6_miss_X6_in : GoodIn wsX6_miss (va_wsS RX6 70 yX6_in wsX6_in) := goodIn_app (goodIn_of _ (by decide +kernel)) ggX6_miss_X6_in
set_option maxRecDepth 20000 in
theorem ggX6_miss_X6_all : GoodIn wsX6_miss wsX6_all := goodIn_r _ [14] (by decide +kernel) (by decide +kernel)
set_option maxRecDepth 20000 in
theorem gX6_miss_X6_all : GoodIn wsX6_miss (va_wsS RX6 150 yX6_all wsX6_all) := goodIn_app (goodIn_of _ (by decide +kernel)) ggX6_miss_X6_all
set_option maxRecDepth 20000 in
theorem ggX6_miss_X6_tiedBy : GoodIn wsX6_miss wsX6_tiedBy := goodIn_r _ [18, 19, 20, 21, 7, 22, 23, 24, 25, 26, 27, 28] (by decide +kernel) (by decide +kernel)
set_option maxRecDepth 20000 in
theorem gX6_miss_X6_tiedBy : GoodIn wsX6_miss (wsV RX6 154 RX6 yX6_tiedBy wsX6_tiedBy) := goodIn_app (goodIn_of _ (by decide +kernel)) ggX6_miss_X6_tiedBy
set_option maxRecDepth 20000 in
theorem ggX6_miss_X6_isTiedLeg : GoodIn wsX6_miss wsX6_isTiedLeg := goodIn_r _ [32, 26, 27, 7, 28, 23, 24, 25] (by decide +kernel) (by decide +kernel)
set_option maxRecDepth 20000 in
theorem gX6_miss_X6_isTiedLeg : GoodIn wsX6_miss (wsV RX6 162 RX6 yX6_isTiedLeg wsX6_isTiedLeg) := goodIn_app (goodIn_of _ (by decide +kernel)) ggX6_miss_X6_isTiedLeg
set_option maxRecDepth 20000 in
theorem ggX6_miss_X6_layOut : GoodIn wsX6_miss wsX6_layOut := goodIn_r _ [36, 37, 26, 27, 7, 28, 23, 24, 25, 38, 39, 40, 41, 42, 43, 44, 45, 46, 47, 48, 53, 54, 55, 56, 57, 58, 59, 60, 61, 62, 63, 64, 65, 66, 67, 68, 69, 70, 71, 72, 73, 74, 75, 76, 77, 78, 79, 80] (by decide +kernel) (by decide +kernel)
set_option maxRecDepth 20000 in
theorem gX6_miss_X6_layOut : GoodIn wsX6_miss (wsV RX6 168 RX6 yX6_layOut wsX6_layOut) := goodIn_app (goodIn_of _ (by decide +kernel)) ggX6_miss_X6_layOut
set_option maxRecDepth 20000 in
theorem ggX6_miss_X6_missOf : GoodIn wsX6_miss wsX6_missOf := goodIn_r _ [52, 37, 38, 39, 40, 7, 41, 42, 26, 27, 28, 43, 44, 45, 46, 47, 48, 53, 54, 55, 56, 57, 58, 59, 60, 61, 62, 63, 64, 65, 66, 67, 68, 69, 70, 71, 72, 73, 74, 75, 76, 77, 78, 79, 80] (by decide +kernel) (by decide +kernel)
set_option maxRecDepth 20000 in
theorem gX6_miss_X6_missOf : GoodIn wsX6_miss (wsV RX6 172 RX6 yX6_missOf wsX6_missOf) := goodIn_app (goodIn_of _ (by decide +kernel)) ggX6_miss_X6_missOf
theorem dX6_miss_0 : decode cX6_miss 0 = .ok (.aload_n 0, 1) := by decide +kernel
theorem dX6_miss_1 : decode cX6_miss 1 = .ok (.iconst 0, 1) := by decide +kernel
theorem dX6_miss_2 : decode cX6_miss 2 = .ok (.putfield 67, 3) := by decide +kernel
theorem dX6_miss_5 : decode cX6_miss 5 = .ok (.aload_n 0, 1) := by decide +kernel
theorem dX6_miss_6 : decode cX6_miss 6 = .ok (.iload_n 1, 1) := by decide +kernel
theorem dX6_miss_7 : decode cX6_miss 7 = .ok (.invokevirtual 113, 3) := by decide +kernel
theorem dX6_miss_10 : decode cX6_miss 10 = .ok (.ifCond .eq 5, 3) := by decide +kernel
theorem dX6_miss_13 : decode cX6_miss 13 = .ok (.iconst (-1), 1) := by decide +kernel
theorem dX6_miss_14 : decode cX6_miss 14 = .ok (.ireturn, 1) := by decide +kernel
theorem dX6_miss_15 : decode cX6_miss 15 = .ok (.iload_n 2, 1) := by decide +kernel
theorem dX6_miss_16 : decode cX6_miss 16 = .ok (.i2l, 1) := by decide +kernel
theorem dX6_miss_17 : decode cX6_miss 17 = .ok (.lconst 0, 1) := by decide +kernel
theorem dX6_miss_18 : decode cX6_miss 18 = .ok (.ldc2_w 166, 3) := by decide +kernel
theorem dX6_miss_21 : decode cX6_miss 21 = .ok (.invokestatic 70, 3) := by decide +kernel
theorem dX6_miss_24 : decode cX6_miss 24 = .ok (.ifCond .ne 6, 3) := by decide +kernel
theorem dX6_miss_27 : decode cX6_miss 27 = .ok (.bipush (-2), 2) := by decide +kernel
theorem dX6_miss_29 : decode cX6_miss 29 = .ok (.ireturn, 1) := by decide +kernel
theorem dX6_miss_30 : decode cX6_miss 30 = .ok (.aload_n 0, 1) := by decide +kernel
theorem dX6_miss_31 : decode cX6_miss 31 = .ok (.aload_n 0, 1) := by decide +kernel
theorem dX6_miss_32 : decode cX6_miss 32 = .ok (.getfield 20, 3) := by decide +kernel
theorem dX6_miss_35 : decode cX6_miss 35 = .ok (.iload_n 1, 1) := by decide +kernel
theorem dX6_miss_36 : decode cX6_miss 36 = .ok (.aload_n 0, 1) := by decide +kernel
theorem dX6_miss_37 : decode cX6_miss 37 = .ok (.aload_n 0, 1) := by decide +kernel
theorem dX6_miss_38 : decode cX6_miss 38 = .ok (.getfield 20, 3) := by decide +kernel
theorem dX6_miss_41 : decode cX6_miss 41 = .ok (.aload_n 0, 1) := by decide +kernel
theorem dX6_miss_42 : decode cX6_miss 42 = .ok (.getfield 20, 3) := by decide +kernel
theorem dX6_miss_45 : decode cX6_miss 45 = .ok (.invokestatic 150, 3) := by decide +kernel
theorem dX6_miss_48 : decode cX6_miss 48 = .ok (.invokevirtual 154, 3) := by decide +kernel
theorem dX6_miss_51 : decode cX6_miss 51 = .ok (.invokevirtual 162, 3) := by decide +kernel
theorem dX6_miss_54 : decode cX6_miss 54 = .ok (.ifCond .ne 6, 3) := by decide +kernel
theorem dX6_miss_57 : decode cX6_miss 57 = .ok (.bipush (-3), 2) := by decide +kernel
theorem dX6_miss_59 : decode cX6_miss 59 = .ok (.ireturn, 1) := by decide +kernel
theorem dX6_miss_60 : decode cX6_miss 60 = .ok (.aload_n 0, 1) := by decide +kernel
theorem dX6_miss_61 : decode cX6_miss 61 = .ok (.aload_n 0, 1) := by decide +kernel
theorem dX6_miss_62 : decode cX6_miss 62 = .ok (.getfield 20, 3) := by decide +kernel
theorem dX6_miss_65 : decode cX6_miss 65 = .ok (.invokevirtual 168, 3) := by decide +kernel
theorem dX6_miss_68 : decode cX6_miss 68 = .ok (.aload_n 0, 1) := by decide +kernel
theorem dX6_miss_69 : decode cX6_miss 69 = .ok (.aload_n 0, 1) := by decide +kernel
theorem dX6_miss_70 : decode cX6_miss 70 = .ok (.getfield 20, 3) := by decide +kernel
theorem dX6_miss_73 : decode cX6_miss 73 = .ok (.iload_n 1, 1) := by decide +kernel
theorem dX6_miss_74 : decode cX6_miss 74 = .ok (.iload_n 2, 1) := by decide +kernel
theorem dX6_miss_75 : decode cX6_miss 75 = .ok (.invokevirtual 172, 3) := by decide +kernel
theorem dX6_miss_78 : decode cX6_miss 78 = .ok (.sipush 1000, 3) := by decide +kernel
theorem dX6_miss_81 : decode cX6_miss 81 = .ok (.iadd, 1) := by decide +kernel
theorem dX6_miss_82 : decode cX6_miss 82 = .ok (.ireturn, 1) := by decide +kernel
set_option maxRecDepth 20000 in
theorem ggX6_layColumns_X6_has : GoodIn wsX6_layColumns wsX6_has := goodIn_r _ [6] (by decide +kernel) (by decide +kernel)
set_option maxRecDepth 20000 in
theorem gX6_layColumns_X6_has : GoodIn wsX6_layColumns (va_wsS RX6 144 yX6_has wsX6_has) := goodIn_app (goodIn_of _ (by decide +kernel)) ggX6_layColumns_X6_has
theorem dX6_layColumns_0 : decode cX6_layColumns 0 = .ok (.aload_n 0, 1) := by decide +kernel
theorem dX6_layColumns_1 : decode cX6_layColumns 1 = .ok (.iconst 0, 1) := by decide +kernel
theorem dX6_layColumns_2 : decode cX6_layColumns 2 = .ok (.putfield 175, 3) := by decide +kernel
theorem dX6_layColumns_5 : decode cX6_layColumns 5 = .ok (.iconst 0, 1) := by decide +kernel
theorem dX6_layColumns_6 : decode cX6_layColumns 6 = .ok (.istore_n 2, 1) := by decide +kernel
theorem dX6_layColumns_7 : decode cX6_layColumns 7 = .ok (.iload_n 2, 1) := by decide +kernel
theorem dX6_layColumns_8 : decode cX6_layColumns 8 = .ok (.bipush 6, 2) := by decide +kernel
theorem dX6_layColumns_10 : decode cX6_layColumns 10 = .ok (.if_icmp .ge 64, 3) := by decide +kernel
theorem dX6_layColumns_13 : decode cX6_layColumns 13 = .ok (.iload_n 2, 1) := by decide +kernel
theorem dX6_layColumns_14 : decode cX6_layColumns 14 = .ok (.ifCond .le 15, 3) := by decide +kernel
theorem dX6_layColumns_17 : decode cX6_layColumns 17 = .ok (.iload_n 1, 1) := by decide +kernel
theorem dX6_layColumns_18 : decode cX6_layColumns 18 = .ok (.iload_n 2, 1) := by decide +kernel
theorem dX6_layColumns_19 : decode cX6_layColumns 19 = .ok (.invokestatic 144, 3) := by decide +kernel
theorem dX6_layColumns_22 : decode cX6_layColumns 22 = .ok (.ifCond .eq 7, 3) := by decide +kernel
theorem dX6_layColumns_25 : decode cX6_layColumns 25 = .ok (.iconst 1, 1) := by decide +kernel
theorem dX6_layColumns_26 : decode cX6_layColumns 26 = .ok (.goto 4, 3) := by decide +kernel
theorem dX6_layColumns_29 : decode cX6_layColumns 29 = .ok (.iconst 0, 1) := by decide +kernel
theorem dX6_layColumns_30 : decode cX6_layColumns 30 = .ok (.istore_n 3, 1) := by decide +kernel
theorem dX6_layColumns_31 : decode cX6_layColumns 31 = .ok (.aload_n 0, 1) := by decide +kernel
theorem dX6_layColumns_32 : decode cX6_layColumns 32 = .ok (.getfield 54, 3) := by decide +kernel
theorem dX6_layColumns_35 : decode cX6_layColumns 35 = .ok (.iload_n 2, 1) := by decide +kernel
theorem dX6_layColumns_36 : decode cX6_layColumns 36 = .ok (.iload_n 3, 1) := by decide +kernel
theorem dX6_layColumns_37 : decode cX6_layColumns 37 = .ok (.ifCond .eq 10, 3) := by decide +kernel
theorem dX6_layColumns_40 : decode cX6_layColumns 40 = .ok (.aload_n 0, 1) := by decide +kernel
theorem dX6_layColumns_41 : decode cX6_layColumns 41 = .ok (.getfield 175, 3) := by decide +kernel
theorem dX6_layColumns_44 : decode cX6_layColumns 44 = .ok (.goto 5, 3) := by decide +kernel
theorem dX6_layColumns_47 : decode cX6_layColumns 47 = .ok (.bipush (-9), 2) := by decide +kernel
theorem dX6_layColumns_49 : decode cX6_layColumns 49 = .ok (.iastore, 1) := by decide +kernel
theorem dX6_layColumns_50 : decode cX6_layColumns 50 = .ok (.aload_n 0, 1) := by decide +kernel
theorem dX6_layColumns_51 : decode cX6_layColumns 51 = .ok (.dup, 1) := by decide +kernel
theorem dX6_layColumns_52 : decode cX6_layColumns 52 = .ok (.getfield 175, 3) := by decide +kernel
theorem dX6_layColumns_55 : decode cX6_layColumns 55 = .ok (.iload_n 3, 1) := by decide +kernel
theorem dX6_layColumns_56 : decode cX6_layColumns 56 = .ok (.ifCond .eq 7, 3) := by decide +kernel
theorem dX6_layColumns_59 : decode cX6_layColumns 59 = .ok (.iconst 1, 1) := by decide +kernel
theorem dX6_layColumns_60 : decode cX6_layColumns 60 = .ok (.goto 4, 3) := by decide +kernel
theorem dX6_layColumns_63 : decode cX6_layColumns 63 = .ok (.iconst 0, 1) := by decide +kernel
theorem dX6_layColumns_64 : decode cX6_layColumns 64 = .ok (.iadd, 1) := by decide +kernel
theorem dX6_layColumns_65 : decode cX6_layColumns 65 = .ok (.putfield 175, 3) := by decide +kernel
theorem dX6_layColumns_68 : decode cX6_layColumns 68 = .ok (.iinc 2 1, 3) := by decide +kernel
theorem dX6_layColumns_71 : decode cX6_layColumns 71 = .ok (.goto (-64), 3) := by decide +kernel
theorem dX6_layColumns_74 : decode cX6_layColumns 74 = .ok (.return_, 1) := by decide +kernel
set_option maxRecDepth 20000 in
theorem ggX6_layGram_X6_layColumns : GoodIn wsX6_layGram wsX6_layColumns := goodIn_r _ [8, 9, 3, 10, 11, 7, 12, 31, 32, 33, 34, 35, 36, 37, 38, 39, 40, 41, 42, 43, 44, 45, 46, 47, 48, 49, 50, 51, 52, 53, 54, 55, 56, 57, 58] (by decide +kernel) (by decide +kernel)
set_option maxRecDepth 20000 in
theorem gX6_layGram_X6_layColumns : GoodIn wsX6_layGram (wsV RX6 178 RX6 yX6_layColumns wsX6_layColumns) := goodIn_app (goodIn_of _ (by decide +kernel)) ggX6_layGram_X6_layColumns
set_option maxRecDepth 20000 in
theorem ggX6_layGram_X6_has : GoodIn wsX6_layGram wsX6_has := goodIn_r _ [12] (by decide +kernel) (by decide +kernel)
set_option maxRecDepth 20000 in
theorem gX6_layGram_X6_has : GoodIn wsX6_layGram (va_wsS RX6 144 yX6_has wsX6_has) := goodIn_app (goodIn_of _ (by decide +kernel)) ggX6_layGram_X6_has
set_option maxRecDepth 20000 in
theorem ggX6_layGram_X6_isTiedLeg : GoodIn wsX6_layGram wsX6_isTiedLeg := goodIn_r _ [16, 17, 18, 7, 19, 10, 11, 12] (by decide +kernel) (by decide +kernel)
set_option maxRecDepth 20000 in
theorem gX6_layGram_X6_isTiedLeg : GoodIn wsX6_layGram (wsV RX6 162 RX6 yX6_isTiedLeg wsX6_isTiedLeg) := goodIn_app (goodIn_of _ (by decide +kernel)) ggX6_layGram_X6_isTiedLeg
set_option maxRecDepth 20000 in
theorem ggX6_layGram_X6_of : GoodIn wsX6_layGram wsX6_of := goodIn_r _ [19] (by decide +kernel) (by decide +kernel)
set_option maxRecDepth 20000 in
theorem gX6_layGram_X6_of : GoodIn wsX6_layGram (va_wsS RX6 103 yX6_of wsX6_of) := goodIn_app (goodIn_of _ (by decide +kernel)) ggX6_layGram_X6_of
set_option maxRecDepth 20000 in
theorem ggX6_layGram_X6_stepOf : GoodIn wsX6_layGram wsX6_stepOf := goodIn_r _ [23, 24, 17, 18, 7, 19, 25, 26, 27, 28, 29, 30, 31, 32, 33, 34, 35, 36, 37, 38, 39, 40, 41, 42, 43, 44, 45, 46, 47, 48, 49, 50, 51, 52, 53, 54, 55, 56, 57, 58] (by decide +kernel) (by decide +kernel)
set_option maxRecDepth 20000 in
theorem gX6_layGram_X6_stepOf : GoodIn wsX6_layGram (wsV RX6 119 RX6 yX6_stepOf wsX6_stepOf) := goodIn_app (goodIn_of _ (by decide +kernel)) ggX6_layGram_X6_stepOf
