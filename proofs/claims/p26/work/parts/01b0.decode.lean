theorem dX0_init_0 : decode cX0_init 0 = .ok (.aload_n 0, 1) := by decide +kernel
theorem dX0_init_1 : decode cX0_init 1 = .ok (.invokespecial 3, 3) := by decide +kernel
theorem dX0_init_4 : decode cX0_init 4 = .ok (.aload_n 0, 1) := by decide +kernel
theorem dX0_init_5 : decode cX0_init 5 = .ok (.bipush 8, 2) := by decide +kernel
theorem dX0_init_7 : decode cX0_init 7 = .ok (.anewarray 9, 3) := by decide +kernel
theorem dX0_init_10 : decode cX0_init 10 = .ok (.putfield 11, 3) := by decide +kernel
theorem dX0_init_13 : decode cX0_init 13 = .ok (.aload_n 0, 1) := by decide +kernel
theorem dX0_init_14 : decode cX0_init 14 = .ok (.new 9, 3) := by decide +kernel
theorem dX0_init_17 : decode cX0_init 17 = .ok (.dup, 1) := by decide +kernel
theorem dX0_init_18 : decode cX0_init 18 = .ok (.invokespecial 17, 3) := by decide +kernel
theorem dX0_init_21 : decode cX0_init 21 = .ok (.putfield 18, 3) := by decide +kernel
theorem dX0_init_24 : decode cX0_init 24 = .ok (.iconst 0, 1) := by decide +kernel
theorem dX0_init_25 : decode cX0_init 25 = .ok (.istore_n 1, 1) := by decide +kernel
theorem dX0_init_26 : decode cX0_init 26 = .ok (.iload_n 1, 1) := by decide +kernel
theorem dX0_init_27 : decode cX0_init 27 = .ok (.bipush 8, 2) := by decide +kernel
theorem dX0_init_29 : decode cX0_init 29 = .ok (.if_icmp .ge 22, 3) := by decide +kernel
theorem dX0_init_32 : decode cX0_init 32 = .ok (.aload_n 0, 1) := by decide +kernel
theorem dX0_init_33 : decode cX0_init 33 = .ok (.getfield 11, 3) := by decide +kernel
theorem dX0_init_36 : decode cX0_init 36 = .ok (.iload_n 1, 1) := by decide +kernel
theorem dX0_init_37 : decode cX0_init 37 = .ok (.new 9, 3) := by decide +kernel
theorem dX0_init_40 : decode cX0_init 40 = .ok (.dup, 1) := by decide +kernel
theorem dX0_init_41 : decode cX0_init 41 = .ok (.invokespecial 17, 3) := by decide +kernel
theorem dX0_init_44 : decode cX0_init 44 = .ok (.aastore, 1) := by decide +kernel
theorem dX0_init_45 : decode cX0_init 45 = .ok (.iinc 1 1, 3) := by decide +kernel
theorem dX0_init_48 : decode cX0_init 48 = .ok (.goto (-22), 3) := by decide +kernel
theorem dX0_init_51 : decode cX0_init 51 = .ok (.return_, 1) := by decide +kernel
theorem dX0_has_0 : decode cX0_has 0 = .ok (.iload_n 1, 1) := by decide +kernel
theorem dX0_has_1 : decode cX0_has 1 = .ok (.ifCond .lt 15, 3) := by decide +kernel
theorem dX0_has_4 : decode cX0_has 4 = .ok (.iload_n 1, 1) := by decide +kernel
theorem dX0_has_5 : decode cX0_has 5 = .ok (.aload_n 0, 1) := by decide +kernel
theorem dX0_has_6 : decode cX0_has 6 = .ok (.getfield 22, 3) := by decide +kernel
theorem dX0_has_9 : decode cX0_has 9 = .ok (.if_icmp .ge 7, 3) := by decide +kernel
theorem dX0_has_12 : decode cX0_has 12 = .ok (.iconst 1, 1) := by decide +kernel
theorem dX0_has_13 : decode cX0_has 13 = .ok (.goto 4, 3) := by decide +kernel
theorem dX0_has_16 : decode cX0_has 16 = .ok (.iconst 0, 1) := by decide +kernel
theorem dX0_has_17 : decode cX0_has 17 = .ok (.ireturn, 1) := by decide +kernel
theorem dX0_at_0 : decode cX0_at 0 = .ok (.iload_n 1, 1) := by decide +kernel
theorem dX0_at_1 : decode cX0_at 1 = .ok (.ifCond .lt 18, 3) := by decide +kernel
theorem dX0_at_4 : decode cX0_at 4 = .ok (.iload_n 1, 1) := by decide +kernel
theorem dX0_at_5 : decode cX0_at 5 = .ok (.bipush 8, 2) := by decide +kernel
theorem dX0_at_7 : decode cX0_at 7 = .ok (.if_icmp .ge 12, 3) := by decide +kernel
theorem dX0_at_10 : decode cX0_at 10 = .ok (.aload_n 0, 1) := by decide +kernel
theorem dX0_at_11 : decode cX0_at 11 = .ok (.getfield 11, 3) := by decide +kernel
theorem dX0_at_14 : decode cX0_at 14 = .ok (.iload_n 1, 1) := by decide +kernel
theorem dX0_at_15 : decode cX0_at 15 = .ok (.aaload, 1) := by decide +kernel
theorem dX0_at_16 : decode cX0_at 16 = .ok (.goto 7, 3) := by decide +kernel
theorem dX0_at_19 : decode cX0_at 19 = .ok (.aload_n 0, 1) := by decide +kernel
theorem dX0_at_20 : decode cX0_at 20 = .ok (.getfield 18, 3) := by decide +kernel
theorem dX0_at_23 : decode cX0_at 23 = .ok (.areturn, 1) := by decide +kernel
theorem dX0_addBody_0 : decode cX0_addBody 0 = .ok (.aload_n 0, 1) := by decide +kernel
theorem dX0_addBody_1 : decode cX0_addBody 1 = .ok (.getfield 22, 3) := by decide +kernel
theorem dX0_addBody_4 : decode cX0_addBody 4 = .ok (.istore_n 1, 1) := by decide +kernel
theorem dX0_addBody_5 : decode cX0_addBody 5 = .ok (.aload_n 0, 1) := by decide +kernel
theorem dX0_addBody_6 : decode cX0_addBody 6 = .ok (.iload_n 1, 1) := by decide +kernel
theorem dX0_addBody_7 : decode cX0_addBody 7 = .ok (.iconst 1, 1) := by decide +kernel
theorem dX0_addBody_8 : decode cX0_addBody 8 = .ok (.iadd, 1) := by decide +kernel
theorem dX0_addBody_9 : decode cX0_addBody 9 = .ok (.putfield 22, 3) := by decide +kernel
theorem dX0_addBody_12 : decode cX0_addBody 12 = .ok (.iload_n 1, 1) := by decide +kernel
theorem dX0_addBody_13 : decode cX0_addBody 13 = .ok (.ireturn, 1) := by decide +kernel
theorem dX1_init_0 : decode cX1_init 0 = .ok (.aload_n 0, 1) := by decide +kernel
theorem dX1_init_1 : decode cX1_init 1 = .ok (.invokespecial 3, 3) := by decide +kernel
theorem dX1_init_4 : decode cX1_init 4 = .ok (.aload_n 0, 1) := by decide +kernel
theorem dX1_init_5 : decode cX1_init 5 = .ok (.bipush 12, 2) := by decide +kernel
theorem dX1_init_7 : decode cX1_init 7 = .ok (.newarray .int, 2) := by decide +kernel
theorem dX1_init_9 : decode cX1_init 9 = .ok (.putfield 9, 3) := by decide +kernel
theorem dX1_init_12 : decode cX1_init 12 = .ok (.aload_n 0, 1) := by decide +kernel
theorem dX1_init_13 : decode cX1_init 13 = .ok (.bipush 12, 2) := by decide +kernel
theorem dX1_init_15 : decode cX1_init 15 = .ok (.newarray .int, 2) := by decide +kernel
theorem dX1_init_17 : decode cX1_init 17 = .ok (.putfield 15, 3) := by decide +kernel
theorem dX1_init_20 : decode cX1_init 20 = .ok (.aload_n 0, 1) := by decide +kernel
theorem dX1_init_21 : decode cX1_init 21 = .ok (.bipush 12, 2) := by decide +kernel
theorem dX1_init_23 : decode cX1_init 23 = .ok (.newarray .int, 2) := by decide +kernel
theorem dX1_init_25 : decode cX1_init 25 = .ok (.putfield 18, 3) := by decide +kernel
theorem dX1_init_28 : decode cX1_init 28 = .ok (.return_, 1) := by decide +kernel
theorem dX1_hasLine_0 : decode cX1_hasLine 0 = .ok (.iload_n 1, 1) := by decide +kernel
theorem dX1_hasLine_1 : decode cX1_hasLine 1 = .ok (.ifCond .lt 15, 3) := by decide +kernel
theorem dX1_hasLine_4 : decode cX1_hasLine 4 = .ok (.iload_n 1, 1) := by decide +kernel
theorem dX1_hasLine_5 : decode cX1_hasLine 5 = .ok (.aload_n 0, 1) := by decide +kernel
theorem dX1_hasLine_6 : decode cX1_hasLine 6 = .ok (.getfield 21, 3) := by decide +kernel
theorem dX1_hasLine_9 : decode cX1_hasLine 9 = .ok (.if_icmp .ge 7, 3) := by decide +kernel
theorem dX1_hasLine_12 : decode cX1_hasLine 12 = .ok (.iconst 1, 1) := by decide +kernel
theorem dX1_hasLine_13 : decode cX1_hasLine 13 = .ok (.goto 4, 3) := by decide +kernel
theorem dX1_hasLine_16 : decode cX1_hasLine 16 = .ok (.iconst 0, 1) := by decide +kernel
theorem dX1_hasLine_17 : decode cX1_hasLine 17 = .ok (.ireturn, 1) := by decide +kernel
theorem dX1_kindAt_0 : decode cX1_kindAt 0 = .ok (.aload_n 0, 1) := by decide +kernel
theorem dX1_kindAt_1 : decode cX1_kindAt 1 = .ok (.iload_n 1, 1) := by decide +kernel
theorem dX1_kindAt_2 : decode cX1_kindAt 2 = .ok (.invokevirtual 25, 3) := by decide +kernel
theorem dX1_kindAt_5 : decode cX1_kindAt 5 = .ok (.ifCond .eq 12, 3) := by decide +kernel
theorem dX1_kindAt_8 : decode cX1_kindAt 8 = .ok (.aload_n 0, 1) := by decide +kernel
theorem dX1_kindAt_9 : decode cX1_kindAt 9 = .ok (.getfield 9, 3) := by decide +kernel
theorem dX1_kindAt_12 : decode cX1_kindAt 12 = .ok (.iload_n 1, 1) := by decide +kernel
theorem dX1_kindAt_13 : decode cX1_kindAt 13 = .ok (.iaload, 1) := by decide +kernel
theorem dX1_kindAt_14 : decode cX1_kindAt 14 = .ok (.goto 5, 3) := by decide +kernel
theorem dX1_kindAt_17 : decode cX1_kindAt 17 = .ok (.bipush 11, 2) := by decide +kernel
theorem dX1_kindAt_19 : decode cX1_kindAt 19 = .ok (.ireturn, 1) := by decide +kernel
theorem dX1_aAt_0 : decode cX1_aAt 0 = .ok (.aload_n 0, 1) := by decide +kernel
theorem dX1_aAt_1 : decode cX1_aAt 1 = .ok (.iload_n 1, 1) := by decide +kernel
theorem dX1_aAt_2 : decode cX1_aAt 2 = .ok (.invokevirtual 25, 3) := by decide +kernel
theorem dX1_aAt_5 : decode cX1_aAt 5 = .ok (.ifCond .eq 12, 3) := by decide +kernel
theorem dX1_aAt_8 : decode cX1_aAt 8 = .ok (.aload_n 0, 1) := by decide +kernel
theorem dX1_aAt_9 : decode cX1_aAt 9 = .ok (.getfield 15, 3) := by decide +kernel
theorem dX1_aAt_12 : decode cX1_aAt 12 = .ok (.iload_n 1, 1) := by decide +kernel
theorem dX1_aAt_13 : decode cX1_aAt 13 = .ok (.iaload, 1) := by decide +kernel
theorem dX1_aAt_14 : decode cX1_aAt 14 = .ok (.goto 4, 3) := by decide +kernel
theorem dX1_aAt_17 : decode cX1_aAt 17 = .ok (.iconst 0, 1) := by decide +kernel
theorem dX1_aAt_18 : decode cX1_aAt 18 = .ok (.ireturn, 1) := by decide +kernel
theorem dX1_bAt_0 : decode cX1_bAt 0 = .ok (.aload_n 0, 1) := by decide +kernel
theorem dX1_bAt_1 : decode cX1_bAt 1 = .ok (.iload_n 1, 1) := by decide +kernel
theorem dX1_bAt_2 : decode cX1_bAt 2 = .ok (.invokevirtual 25, 3) := by decide +kernel
theorem dX1_bAt_5 : decode cX1_bAt 5 = .ok (.ifCond .eq 12, 3) := by decide +kernel
theorem dX1_bAt_8 : decode cX1_bAt 8 = .ok (.aload_n 0, 1) := by decide +kernel
theorem dX1_bAt_9 : decode cX1_bAt 9 = .ok (.getfield 18, 3) := by decide +kernel
theorem dX1_bAt_12 : decode cX1_bAt 12 = .ok (.iload_n 1, 1) := by decide +kernel
theorem dX1_bAt_13 : decode cX1_bAt 13 = .ok (.iaload, 1) := by decide +kernel
theorem dX1_bAt_14 : decode cX1_bAt 14 = .ok (.goto 4, 3) := by decide +kernel
theorem dX1_bAt_17 : decode cX1_bAt 17 = .ok (.iconst 0, 1) := by decide +kernel
theorem dX1_bAt_18 : decode cX1_bAt 18 = .ok (.ireturn, 1) := by decide +kernel
theorem dX1_fits_0 : decode cX1_fits 0 = .ok (.iload_n 1, 1) := by decide +kernel
theorem dX1_fits_1 : decode cX1_fits 1 = .ok (.tableswitch 294 0 15 #[79, 100, 100, 280, 119, 146, 171, 146, 280, 201, 221, 280, 241, 280, 221, 261], 79) := by decide +kernel
theorem dX1_fits_80 : decode cX1_fits 80 = .ok (.iload_n 2, 1) := by decide +kernel
theorem dX1_fits_81 : decode cX1_fits 81 = .ok (.bipush (-99), 2) := by decide +kernel
theorem dX1_fits_83 : decode cX1_fits 83 = .ok (.bipush 99, 2) := by decide +kernel
theorem dX1_fits_85 : decode cX1_fits 85 = .ok (.invokestatic 29, 3) := by decide +kernel
theorem dX1_fits_88 : decode cX1_fits 88 = .ok (.ifCond .eq 11, 3) := by decide +kernel
theorem dX1_fits_91 : decode cX1_fits 91 = .ok (.iload_n 3, 1) := by decide +kernel
theorem dX1_fits_92 : decode cX1_fits 92 = .ok (.ifCond .ne 7, 3) := by decide +kernel
theorem dX1_fits_95 : decode cX1_fits 95 = .ok (.iconst 1, 1) := by decide +kernel
theorem dX1_fits_96 : decode cX1_fits 96 = .ok (.goto 4, 3) := by decide +kernel
theorem dX1_fits_99 : decode cX1_fits 99 = .ok (.iconst 0, 1) := by decide +kernel
theorem dX1_fits_100 : decode cX1_fits 100 = .ok (.ireturn, 1) := by decide +kernel
theorem dX1_fits_101 : decode cX1_fits 101 = .ok (.iload_n 2, 1) := by decide +kernel
theorem dX1_fits_102 : decode cX1_fits 102 = .ok (.iconst 0, 1) := by decide +kernel
theorem dX1_fits_103 : decode cX1_fits 103 = .ok (.iconst 3, 1) := by decide +kernel
theorem dX1_fits_104 : decode cX1_fits 104 = .ok (.invokestatic 29, 3) := by decide +kernel
theorem dX1_fits_107 : decode cX1_fits 107 = .ok (.ifCond .eq 11, 3) := by decide +kernel
theorem dX1_fits_110 : decode cX1_fits 110 = .ok (.iload_n 3, 1) := by decide +kernel
theorem dX1_fits_111 : decode cX1_fits 111 = .ok (.ifCond .ne 7, 3) := by decide +kernel
theorem dX1_fits_114 : decode cX1_fits 114 = .ok (.iconst 1, 1) := by decide +kernel
theorem dX1_fits_115 : decode cX1_fits 115 = .ok (.goto 4, 3) := by decide +kernel
theorem dX1_fits_118 : decode cX1_fits 118 = .ok (.iconst 0, 1) := by decide +kernel
theorem dX1_fits_119 : decode cX1_fits 119 = .ok (.ireturn, 1) := by decide +kernel
theorem dX1_fits_120 : decode cX1_fits 120 = .ok (.iload_n 2, 1) := by decide +kernel
theorem dX1_fits_121 : decode cX1_fits 121 = .ok (.iconst 0, 1) := by decide +kernel
theorem dX1_fits_122 : decode cX1_fits 122 = .ok (.iconst 3, 1) := by decide +kernel
theorem dX1_fits_123 : decode cX1_fits 123 = .ok (.invokestatic 29, 3) := by decide +kernel
theorem dX1_fits_126 : decode cX1_fits 126 = .ok (.ifCond .eq 19, 3) := by decide +kernel
theorem dX1_fits_129 : decode cX1_fits 129 = .ok (.iload_n 3, 1) := by decide +kernel
theorem dX1_fits_130 : decode cX1_fits 130 = .ok (.iconst 0, 1) := by decide +kernel
theorem dX1_fits_131 : decode cX1_fits 131 = .ok (.aload_n 0, 1) := by decide +kernel
theorem dX1_fits_132 : decode cX1_fits 132 = .ok (.getfield 21, 3) := by decide +kernel
theorem dX1_fits_135 : decode cX1_fits 135 = .ok (.invokestatic 29, 3) := by decide +kernel
theorem dX1_fits_138 : decode cX1_fits 138 = .ok (.ifCond .eq 7, 3) := by decide +kernel
theorem dX1_fits_141 : decode cX1_fits 141 = .ok (.iconst 1, 1) := by decide +kernel
theorem dX1_fits_142 : decode cX1_fits 142 = .ok (.goto 4, 3) := by decide +kernel
theorem dX1_fits_145 : decode cX1_fits 145 = .ok (.iconst 0, 1) := by decide +kernel
theorem dX1_fits_146 : decode cX1_fits 146 = .ok (.ireturn, 1) := by decide +kernel
theorem dX1_fits_147 : decode cX1_fits 147 = .ok (.iload_n 2, 1) := by decide +kernel
theorem dX1_fits_148 : decode cX1_fits 148 = .ok (.ifCond .ne 22, 3) := by decide +kernel
theorem dX1_fits_151 : decode cX1_fits 151 = .ok (.iload_n 3, 1) := by decide +kernel
theorem dX1_fits_152 : decode cX1_fits 152 = .ok (.aload_n 0, 1) := by decide +kernel
theorem dX1_fits_153 : decode cX1_fits 153 = .ok (.getfield 21, 3) := by decide +kernel
theorem dX1_fits_156 : decode cX1_fits 156 = .ok (.iconst 1, 1) := by decide +kernel
theorem dX1_fits_157 : decode cX1_fits 157 = .ok (.iadd, 1) := by decide +kernel
theorem dX1_fits_158 : decode cX1_fits 158 = .ok (.bipush 12, 2) := by decide +kernel
theorem dX1_fits_160 : decode cX1_fits 160 = .ok (.invokestatic 29, 3) := by decide +kernel
theorem dX1_fits_163 : decode cX1_fits 163 = .ok (.ifCond .eq 7, 3) := by decide +kernel
theorem dX1_fits_166 : decode cX1_fits 166 = .ok (.iconst 1, 1) := by decide +kernel
theorem dX1_fits_167 : decode cX1_fits 167 = .ok (.goto 4, 3) := by decide +kernel
theorem dX1_fits_170 : decode cX1_fits 170 = .ok (.iconst 0, 1) := by decide +kernel
theorem dX1_fits_171 : decode cX1_fits 171 = .ok (.ireturn, 1) := by decide +kernel
theorem dX1_fits_172 : decode cX1_fits 172 = .ok (.iload_n 2, 1) := by decide +kernel
theorem dX1_fits_173 : decode cX1_fits 173 = .ok (.iconst 0, 1) := by decide +kernel
theorem dX1_fits_174 : decode cX1_fits 174 = .ok (.iconst 1, 1) := by decide +kernel
theorem dX1_fits_175 : decode cX1_fits 175 = .ok (.invokestatic 29, 3) := by decide +kernel
theorem dX1_fits_178 : decode cX1_fits 178 = .ok (.ifCond .eq 22, 3) := by decide +kernel
theorem dX1_fits_181 : decode cX1_fits 181 = .ok (.iload_n 3, 1) := by decide +kernel
theorem dX1_fits_182 : decode cX1_fits 182 = .ok (.aload_n 0, 1) := by decide +kernel
theorem dX1_fits_183 : decode cX1_fits 183 = .ok (.getfield 21, 3) := by decide +kernel
theorem dX1_fits_186 : decode cX1_fits 186 = .ok (.iconst 1, 1) := by decide +kernel
theorem dX1_fits_187 : decode cX1_fits 187 = .ok (.iadd, 1) := by decide +kernel
theorem dX1_fits_188 : decode cX1_fits 188 = .ok (.bipush 12, 2) := by decide +kernel
theorem dX1_fits_190 : decode cX1_fits 190 = .ok (.invokestatic 29, 3) := by decide +kernel
theorem dX1_fits_193 : decode cX1_fits 193 = .ok (.ifCond .eq 7, 3) := by decide +kernel
theorem dX1_fits_196 : decode cX1_fits 196 = .ok (.iconst 1, 1) := by decide +kernel
theorem dX1_fits_197 : decode cX1_fits 197 = .ok (.goto 4, 3) := by decide +kernel
theorem dX1_fits_200 : decode cX1_fits 200 = .ok (.iconst 0, 1) := by decide +kernel
theorem dX1_fits_201 : decode cX1_fits 201 = .ok (.ireturn, 1) := by decide +kernel
theorem dX1_fits_202 : decode cX1_fits 202 = .ok (.iload_n 2, 1) := by decide +kernel
theorem dX1_fits_203 : decode cX1_fits 203 = .ok (.iconst 1, 1) := by decide +kernel
theorem dX1_fits_204 : decode cX1_fits 204 = .ok (.bipush 7, 2) := by decide +kernel
theorem dX1_fits_206 : decode cX1_fits 206 = .ok (.invokestatic 29, 3) := by decide +kernel
theorem dX1_fits_209 : decode cX1_fits 209 = .ok (.ifCond .eq 11, 3) := by decide +kernel
theorem dX1_fits_212 : decode cX1_fits 212 = .ok (.iload_n 3, 1) := by decide +kernel
theorem dX1_fits_213 : decode cX1_fits 213 = .ok (.ifCond .ne 7, 3) := by decide +kernel
theorem dX1_fits_216 : decode cX1_fits 216 = .ok (.iconst 1, 1) := by decide +kernel
theorem dX1_fits_217 : decode cX1_fits 217 = .ok (.goto 4, 3) := by decide +kernel
theorem dX1_fits_220 : decode cX1_fits 220 = .ok (.iconst 0, 1) := by decide +kernel
theorem dX1_fits_221 : decode cX1_fits 221 = .ok (.ireturn, 1) := by decide +kernel
theorem dX1_fits_222 : decode cX1_fits 222 = .ok (.iload_n 2, 1) := by decide +kernel
theorem dX1_fits_223 : decode cX1_fits 223 = .ok (.iconst 0, 1) := by decide +kernel
theorem dX1_fits_224 : decode cX1_fits 224 = .ok (.bipush 7, 2) := by decide +kernel
theorem dX1_fits_226 : decode cX1_fits 226 = .ok (.invokestatic 29, 3) := by decide +kernel
theorem dX1_fits_229 : decode cX1_fits 229 = .ok (.ifCond .eq 11, 3) := by decide +kernel
theorem dX1_fits_232 : decode cX1_fits 232 = .ok (.iload_n 3, 1) := by decide +kernel
theorem dX1_fits_233 : decode cX1_fits 233 = .ok (.ifCond .ne 7, 3) := by decide +kernel
theorem dX1_fits_236 : decode cX1_fits 236 = .ok (.iconst 1, 1) := by decide +kernel
theorem dX1_fits_237 : decode cX1_fits 237 = .ok (.goto 4, 3) := by decide +kernel
theorem dX1_fits_240 : decode cX1_fits 240 = .ok (.iconst 0, 1) := by decide +kernel
theorem dX1_fits_241 : decode cX1_fits 241 = .ok (.ireturn, 1) := by decide +kernel
theorem dX1_fits_242 : decode cX1_fits 242 = .ok (.iload_n 2, 1) := by decide +kernel
theorem dX1_fits_243 : decode cX1_fits 243 = .ok (.iconst 1, 1) := by decide +kernel
theorem dX1_fits_244 : decode cX1_fits 244 = .ok (.bipush 9, 2) := by decide +kernel
theorem dX1_fits_246 : decode cX1_fits 246 = .ok (.invokestatic 29, 3) := by decide +kernel
theorem dX1_fits_249 : decode cX1_fits 249 = .ok (.ifCond .eq 11, 3) := by decide +kernel
theorem dX1_fits_252 : decode cX1_fits 252 = .ok (.iload_n 3, 1) := by decide +kernel
theorem dX1_fits_253 : decode cX1_fits 253 = .ok (.ifCond .ne 7, 3) := by decide +kernel
theorem dX1_fits_256 : decode cX1_fits 256 = .ok (.iconst 1, 1) := by decide +kernel
theorem dX1_fits_257 : decode cX1_fits 257 = .ok (.goto 4, 3) := by decide +kernel
theorem dX1_fits_260 : decode cX1_fits 260 = .ok (.iconst 0, 1) := by decide +kernel
theorem dX1_fits_261 : decode cX1_fits 261 = .ok (.ireturn, 1) := by decide +kernel
theorem dX1_fits_262 : decode cX1_fits 262 = .ok (.iload_n 2, 1) := by decide +kernel
theorem dX1_fits_263 : decode cX1_fits 263 = .ok (.iconst 0, 1) := by decide +kernel
theorem dX1_fits_264 : decode cX1_fits 264 = .ok (.iconst 1, 1) := by decide +kernel
theorem dX1_fits_265 : decode cX1_fits 265 = .ok (.invokestatic 29, 3) := by decide +kernel
theorem dX1_fits_268 : decode cX1_fits 268 = .ok (.ifCond .eq 11, 3) := by decide +kernel
theorem dX1_fits_271 : decode cX1_fits 271 = .ok (.iload_n 3, 1) := by decide +kernel
theorem dX1_fits_272 : decode cX1_fits 272 = .ok (.ifCond .ne 7, 3) := by decide +kernel
theorem dX1_fits_275 : decode cX1_fits 275 = .ok (.iconst 1, 1) := by decide +kernel
theorem dX1_fits_276 : decode cX1_fits 276 = .ok (.goto 4, 3) := by decide +kernel
theorem dX1_fits_279 : decode cX1_fits 279 = .ok (.iconst 0, 1) := by decide +kernel
theorem dX1_fits_280 : decode cX1_fits 280 = .ok (.ireturn, 1) := by decide +kernel
theorem dX1_fits_281 : decode cX1_fits 281 = .ok (.iload_n 2, 1) := by decide +kernel
theorem dX1_fits_282 : decode cX1_fits 282 = .ok (.ifCond .ne 11, 3) := by decide +kernel
theorem dX1_fits_285 : decode cX1_fits 285 = .ok (.iload_n 3, 1) := by decide +kernel
theorem dX1_fits_286 : decode cX1_fits 286 = .ok (.ifCond .ne 7, 3) := by decide +kernel
theorem dX1_fits_289 : decode cX1_fits 289 = .ok (.iconst 1, 1) := by decide +kernel
theorem dX1_fits_290 : decode cX1_fits 290 = .ok (.goto 4, 3) := by decide +kernel
theorem dX1_fits_293 : decode cX1_fits 293 = .ok (.iconst 0, 1) := by decide +kernel
theorem dX1_fits_294 : decode cX1_fits 294 = .ok (.ireturn, 1) := by decide +kernel
theorem dX1_fits_295 : decode cX1_fits 295 = .ok (.iconst 0, 1) := by decide +kernel
theorem dX1_fits_296 : decode cX1_fits 296 = .ok (.ireturn, 1) := by decide +kernel
theorem dX1_addLine_0 : decode cX1_addLine 0 = .ok (.aload_n 0, 1) := by decide +kernel
theorem dX1_addLine_1 : decode cX1_addLine 1 = .ok (.getfield 21, 3) := by decide +kernel
theorem dX1_addLine_4 : decode cX1_addLine 4 = .ok (.istore 4, 2) := by decide +kernel
theorem dX1_addLine_6 : decode cX1_addLine 6 = .ok (.iload 4, 2) := by decide +kernel
theorem dX1_addLine_8 : decode cX1_addLine 8 = .ok (.bipush 12, 2) := by decide +kernel
theorem dX1_addLine_10 : decode cX1_addLine 10 = .ok (.if_icmp .ge 35, 3) := by decide +kernel
theorem dX1_addLine_13 : decode cX1_addLine 13 = .ok (.aload_n 0, 1) := by decide +kernel
theorem dX1_addLine_14 : decode cX1_addLine 14 = .ok (.getfield 9, 3) := by decide +kernel
theorem dX1_addLine_17 : decode cX1_addLine 17 = .ok (.iload 4, 2) := by decide +kernel
theorem dX1_addLine_19 : decode cX1_addLine 19 = .ok (.iload_n 1, 1) := by decide +kernel
theorem dX1_addLine_20 : decode cX1_addLine 20 = .ok (.iastore, 1) := by decide +kernel
theorem dX1_addLine_21 : decode cX1_addLine 21 = .ok (.aload_n 0, 1) := by decide +kernel
theorem dX1_addLine_22 : decode cX1_addLine 22 = .ok (.getfield 15, 3) := by decide +kernel
theorem dX1_addLine_25 : decode cX1_addLine 25 = .ok (.iload 4, 2) := by decide +kernel
theorem dX1_addLine_27 : decode cX1_addLine 27 = .ok (.iload_n 2, 1) := by decide +kernel
theorem dX1_addLine_28 : decode cX1_addLine 28 = .ok (.iastore, 1) := by decide +kernel
theorem dX1_addLine_29 : decode cX1_addLine 29 = .ok (.aload_n 0, 1) := by decide +kernel
theorem dX1_addLine_30 : decode cX1_addLine 30 = .ok (.getfield 18, 3) := by decide +kernel
theorem dX1_addLine_33 : decode cX1_addLine 33 = .ok (.iload 4, 2) := by decide +kernel
theorem dX1_addLine_35 : decode cX1_addLine 35 = .ok (.iload_n 3, 1) := by decide +kernel
theorem dX1_addLine_36 : decode cX1_addLine 36 = .ok (.iastore, 1) := by decide +kernel
theorem dX1_addLine_37 : decode cX1_addLine 37 = .ok (.aload_n 0, 1) := by decide +kernel
theorem dX1_addLine_38 : decode cX1_addLine 38 = .ok (.iload 4, 2) := by decide +kernel
theorem dX1_addLine_40 : decode cX1_addLine 40 = .ok (.iconst 1, 1) := by decide +kernel
theorem dX1_addLine_41 : decode cX1_addLine 41 = .ok (.iadd, 1) := by decide +kernel
theorem dX1_addLine_42 : decode cX1_addLine 42 = .ok (.putfield 21, 3) := by decide +kernel
theorem dX1_addLine_45 : decode cX1_addLine 45 = .ok (.iload 4, 2) := by decide +kernel
theorem dX1_addLine_47 : decode cX1_addLine 47 = .ok (.ireturn, 1) := by decide +kernel
theorem dX1_howManyWaits_0 : decode cX1_howManyWaits 0 = .ok (.iconst 1, 1) := by decide +kernel
theorem dX1_howManyWaits_1 : decode cX1_howManyWaits 1 = .ok (.istore_n 1, 1) := by decide +kernel
theorem dX1_howManyWaits_2 : decode cX1_howManyWaits 2 = .ok (.iconst 0, 1) := by decide +kernel
theorem dX1_howManyWaits_3 : decode cX1_howManyWaits 3 = .ok (.istore_n 2, 1) := by decide +kernel
theorem dX1_howManyWaits_4 : decode cX1_howManyWaits 4 = .ok (.iload_n 2, 1) := by decide +kernel
theorem dX1_howManyWaits_5 : decode cX1_howManyWaits 5 = .ok (.bipush 12, 2) := by decide +kernel
theorem dX1_howManyWaits_7 : decode cX1_howManyWaits 7 = .ok (.if_icmp .ge 41, 3) := by decide +kernel
theorem dX1_howManyWaits_10 : decode cX1_howManyWaits 10 = .ok (.iconst 0, 1) := by decide +kernel
theorem dX1_howManyWaits_11 : decode cX1_howManyWaits 11 = .ok (.istore_n 3, 1) := by decide +kernel
theorem dX1_howManyWaits_12 : decode cX1_howManyWaits 12 = .ok (.iload_n 3, 1) := by decide +kernel
theorem dX1_howManyWaits_13 : decode cX1_howManyWaits 13 = .ok (.aload_n 0, 1) := by decide +kernel
theorem dX1_howManyWaits_14 : decode cX1_howManyWaits 14 = .ok (.getfield 21, 3) := by decide +kernel
theorem dX1_howManyWaits_17 : decode cX1_howManyWaits 17 = .ok (.if_icmp .ge 25, 3) := by decide +kernel
theorem dX1_howManyWaits_20 : decode cX1_howManyWaits 20 = .ok (.iload_n 1, 1) := by decide +kernel
theorem dX1_howManyWaits_21 : decode cX1_howManyWaits 21 = .ok (.iload_n 3, 1) := by decide +kernel
theorem dX1_howManyWaits_22 : decode cX1_howManyWaits 22 = .ok (.ishr, 1) := by decide +kernel
theorem dX1_howManyWaits_23 : decode cX1_howManyWaits 23 = .ok (.iconst 1, 1) := by decide +kernel
theorem dX1_howManyWaits_24 : decode cX1_howManyWaits 24 = .ok (.iand, 1) := by decide +kernel
theorem dX1_howManyWaits_25 : decode cX1_howManyWaits 25 = .ok (.ifCond .eq 11, 3) := by decide +kernel
theorem dX1_howManyWaits_28 : decode cX1_howManyWaits 28 = .ok (.iload_n 1, 1) := by decide +kernel
theorem dX1_howManyWaits_29 : decode cX1_howManyWaits 29 = .ok (.aload_n 0, 1) := by decide +kernel
theorem dX1_howManyWaits_30 : decode cX1_howManyWaits 30 = .ok (.iload_n 3, 1) := by decide +kernel
theorem dX1_howManyWaits_31 : decode cX1_howManyWaits 31 = .ok (.invokevirtual 33, 3) := by decide +kernel
theorem dX1_howManyWaits_34 : decode cX1_howManyWaits 34 = .ok (.ior, 1) := by decide +kernel
theorem dX1_howManyWaits_35 : decode cX1_howManyWaits 35 = .ok (.istore_n 1, 1) := by decide +kernel
theorem dX1_howManyWaits_36 : decode cX1_howManyWaits 36 = .ok (.iinc 3 1, 3) := by decide +kernel
theorem dX1_howManyWaits_39 : decode cX1_howManyWaits 39 = .ok (.goto (-27), 3) := by decide +kernel
theorem dX1_howManyWaits_42 : decode cX1_howManyWaits 42 = .ok (.iinc 2 1, 3) := by decide +kernel
theorem dX1_howManyWaits_45 : decode cX1_howManyWaits 45 = .ok (.goto (-41), 3) := by decide +kernel
theorem dX1_howManyWaits_48 : decode cX1_howManyWaits 48 = .ok (.iconst 0, 1) := by decide +kernel
theorem dX1_howManyWaits_49 : decode cX1_howManyWaits 49 = .ok (.istore_n 2, 1) := by decide +kernel
theorem dX1_howManyWaits_50 : decode cX1_howManyWaits 50 = .ok (.iconst 0, 1) := by decide +kernel
theorem dX1_howManyWaits_51 : decode cX1_howManyWaits 51 = .ok (.istore_n 3, 1) := by decide +kernel
theorem dX1_howManyWaits_52 : decode cX1_howManyWaits 52 = .ok (.iload_n 3, 1) := by decide +kernel
theorem dX1_howManyWaits_53 : decode cX1_howManyWaits 53 = .ok (.aload_n 0, 1) := by decide +kernel
theorem dX1_howManyWaits_54 : decode cX1_howManyWaits 54 = .ok (.getfield 21, 3) := by decide +kernel
theorem dX1_howManyWaits_57 : decode cX1_howManyWaits 57 = .ok (.if_icmp .ge 31, 3) := by decide +kernel
theorem dX1_howManyWaits_60 : decode cX1_howManyWaits 60 = .ok (.iload_n 1, 1) := by decide +kernel
theorem dX1_howManyWaits_61 : decode cX1_howManyWaits 61 = .ok (.iload_n 3, 1) := by decide +kernel
theorem dX1_howManyWaits_62 : decode cX1_howManyWaits 62 = .ok (.ishr, 1) := by decide +kernel
theorem dX1_howManyWaits_63 : decode cX1_howManyWaits 63 = .ok (.iconst 1, 1) := by decide +kernel
theorem dX1_howManyWaits_64 : decode cX1_howManyWaits 64 = .ok (.iand, 1) := by decide +kernel
theorem dX1_howManyWaits_65 : decode cX1_howManyWaits 65 = .ok (.ifCond .eq 17, 3) := by decide +kernel
theorem dX1_howManyWaits_68 : decode cX1_howManyWaits 68 = .ok (.aload_n 0, 1) := by decide +kernel
theorem dX1_howManyWaits_69 : decode cX1_howManyWaits 69 = .ok (.iload_n 3, 1) := by decide +kernel
theorem dX1_howManyWaits_70 : decode cX1_howManyWaits 70 = .ok (.invokevirtual 37, 3) := by decide +kernel
theorem dX1_howManyWaits_73 : decode cX1_howManyWaits 73 = .ok (.invokestatic 40, 3) := by decide +kernel
theorem dX1_howManyWaits_76 : decode cX1_howManyWaits 76 = .ok (.ifCond .eq 6, 3) := by decide +kernel
theorem dX1_howManyWaits_79 : decode cX1_howManyWaits 79 = .ok (.iinc 2 1, 3) := by decide +kernel
theorem dX1_howManyWaits_82 : decode cX1_howManyWaits 82 = .ok (.iinc 3 1, 3) := by decide +kernel
theorem dX1_howManyWaits_85 : decode cX1_howManyWaits 85 = .ok (.goto (-33), 3) := by decide +kernel
theorem dX1_howManyWaits_88 : decode cX1_howManyWaits 88 = .ok (.iload_n 2, 1) := by decide +kernel
theorem dX1_howManyWaits_89 : decode cX1_howManyWaits 89 = .ok (.ireturn, 1) := by decide +kernel
theorem dX1_nextOf_0 : decode cX1_nextOf 0 = .ok (.iconst 1, 1) := by decide +kernel
theorem dX1_nextOf_1 : decode cX1_nextOf 1 = .ok (.iload_n 1, 1) := by decide +kernel
theorem dX1_nextOf_2 : decode cX1_nextOf 2 = .ok (.iconst 1, 1) := by decide +kernel
theorem dX1_nextOf_3 : decode cX1_nextOf 3 = .ok (.iadd, 1) := by decide +kernel
theorem dX1_nextOf_4 : decode cX1_nextOf 4 = .ok (.ishl, 1) := by decide +kernel
theorem dX1_nextOf_5 : decode cX1_nextOf 5 = .ok (.istore_n 2, 1) := by decide +kernel
theorem dX1_nextOf_6 : decode cX1_nextOf 6 = .ok (.aload_n 0, 1) := by decide +kernel
theorem dX1_nextOf_7 : decode cX1_nextOf 7 = .ok (.iload_n 1, 1) := by decide +kernel
theorem dX1_nextOf_8 : decode cX1_nextOf 8 = .ok (.invokevirtual 37, 3) := by decide +kernel
theorem dX1_nextOf_11 : decode cX1_nextOf 11 = .ok (.tableswitch 65 4 11 #[45, 45, 45, 55, 65, 63, 65, 63], 45) := by decide +kernel
theorem dX1_nextOf_56 : decode cX1_nextOf 56 = .ok (.iload_n 2, 1) := by decide +kernel
theorem dX1_nextOf_57 : decode cX1_nextOf 57 = .ok (.iconst 1, 1) := by decide +kernel
theorem dX1_nextOf_58 : decode cX1_nextOf 58 = .ok (.aload_n 0, 1) := by decide +kernel
theorem dX1_nextOf_59 : decode cX1_nextOf 59 = .ok (.iload_n 1, 1) := by decide +kernel
theorem dX1_nextOf_60 : decode cX1_nextOf 60 = .ok (.invokevirtual 43, 3) := by decide +kernel
theorem dX1_nextOf_63 : decode cX1_nextOf 63 = .ok (.ishl, 1) := by decide +kernel
theorem dX1_nextOf_64 : decode cX1_nextOf 64 = .ok (.ior, 1) := by decide +kernel
theorem dX1_nextOf_65 : decode cX1_nextOf 65 = .ok (.ireturn, 1) := by decide +kernel
theorem dX1_nextOf_66 : decode cX1_nextOf 66 = .ok (.iconst 1, 1) := by decide +kernel
theorem dX1_nextOf_67 : decode cX1_nextOf 67 = .ok (.aload_n 0, 1) := by decide +kernel
theorem dX1_nextOf_68 : decode cX1_nextOf 68 = .ok (.iload_n 1, 1) := by decide +kernel
theorem dX1_nextOf_69 : decode cX1_nextOf 69 = .ok (.invokevirtual 43, 3) := by decide +kernel
theorem dX1_nextOf_72 : decode cX1_nextOf 72 = .ok (.ishl, 1) := by decide +kernel
theorem dX1_nextOf_73 : decode cX1_nextOf 73 = .ok (.ireturn, 1) := by decide +kernel
theorem dX1_nextOf_74 : decode cX1_nextOf 74 = .ok (.iconst 0, 1) := by decide +kernel
theorem dX1_nextOf_75 : decode cX1_nextOf 75 = .ok (.ireturn, 1) := by decide +kernel
theorem dX1_nextOf_76 : decode cX1_nextOf 76 = .ok (.iload_n 2, 1) := by decide +kernel
theorem dX1_nextOf_77 : decode cX1_nextOf 77 = .ok (.ireturn, 1) := by decide +kernel
theorem dX1_isWait_0 : decode cX1_isWait 0 = .ok (.iload_n 0, 1) := by decide +kernel
theorem dX1_isWait_1 : decode cX1_isWait 1 = .ok (.iconst 3, 1) := by decide +kernel
theorem dX1_isWait_2 : decode cX1_isWait 2 = .ok (.if_icmp .eq 21, 3) := by decide +kernel
theorem dX1_isWait_5 : decode cX1_isWait 5 = .ok (.iload_n 0, 1) := by decide +kernel
theorem dX1_isWait_6 : decode cX1_isWait 6 = .ok (.bipush 10, 2) := by decide +kernel
theorem dX1_isWait_8 : decode cX1_isWait 8 = .ok (.if_icmp .eq 15, 3) := by decide +kernel
theorem dX1_isWait_11 : decode cX1_isWait 11 = .ok (.iload_n 0, 1) := by decide +kernel
theorem dX1_isWait_12 : decode cX1_isWait 12 = .ok (.bipush 12, 2) := by decide +kernel
theorem dX1_isWait_14 : decode cX1_isWait 14 = .ok (.if_icmp .eq 9, 3) := by decide +kernel
theorem dX1_isWait_17 : decode cX1_isWait 17 = .ok (.iload_n 0, 1) := by decide +kernel
theorem dX1_isWait_18 : decode cX1_isWait 18 = .ok (.bipush 13, 2) := by decide +kernel
theorem dX1_isWait_20 : decode cX1_isWait 20 = .ok (.if_icmp .ne 7, 3) := by decide +kernel
theorem dX1_isWait_23 : decode cX1_isWait 23 = .ok (.iconst 1, 1) := by decide +kernel
theorem dX1_isWait_24 : decode cX1_isWait 24 = .ok (.goto 4, 3) := by decide +kernel
theorem dX1_isWait_27 : decode cX1_isWait 27 = .ok (.iconst 0, 1) := by decide +kernel
theorem dX1_isWait_28 : decode cX1_isWait 28 = .ok (.ireturn, 1) := by decide +kernel
theorem dX2_init_0 : decode cX2_init 0 = .ok (.aload_n 0, 1) := by decide +kernel
theorem dX2_init_1 : decode cX2_init 1 = .ok (.invokespecial 3, 3) := by decide +kernel
theorem dX2_init_4 : decode cX2_init 4 = .ok (.aload_n 0, 1) := by decide +kernel
theorem dX2_init_5 : decode cX2_init 5 = .ok (.iconst 4, 1) := by decide +kernel
theorem dX2_init_6 : decode cX2_init 6 = .ok (.newarray .int, 2) := by decide +kernel
theorem dX2_init_8 : decode cX2_init 8 = .ok (.putfield 9, 3) := by decide +kernel
theorem dX2_init_11 : decode cX2_init 11 = .ok (.aload_n 0, 1) := by decide +kernel
theorem dX2_init_12 : decode cX2_init 12 = .ok (.new 15, 3) := by decide +kernel
theorem dX2_init_15 : decode cX2_init 15 = .ok (.dup, 1) := by decide +kernel
theorem dX2_init_16 : decode cX2_init 16 = .ok (.invokespecial 17, 3) := by decide +kernel
theorem dX2_init_19 : decode cX2_init 19 = .ok (.putfield 18, 3) := by decide +kernel
theorem dX2_init_22 : decode cX2_init 22 = .ok (.aload_n 0, 1) := by decide +kernel
theorem dX2_init_23 : decode cX2_init 23 = .ok (.iload_n 1, 1) := by decide +kernel
theorem dX2_init_24 : decode cX2_init 24 = .ok (.putfield 22, 3) := by decide +kernel
theorem dX2_init_27 : decode cX2_init 27 = .ok (.return_, 1) := by decide +kernel
theorem dX2_becomeNew_0 : decode cX2_becomeNew 0 = .ok (.iconst 0, 1) := by decide +kernel
theorem dX2_becomeNew_1 : decode cX2_becomeNew 1 = .ok (.istore 4, 2) := by decide +kernel
theorem dX2_becomeNew_3 : decode cX2_becomeNew 3 = .ok (.iload 4, 2) := by decide +kernel
theorem dX2_becomeNew_5 : decode cX2_becomeNew 5 = .ok (.iconst 4, 1) := by decide +kernel
theorem dX2_becomeNew_6 : decode cX2_becomeNew 6 = .ok (.if_icmp .ge 17, 3) := by decide +kernel
theorem dX2_becomeNew_9 : decode cX2_becomeNew 9 = .ok (.aload_n 0, 1) := by decide +kernel
theorem dX2_becomeNew_10 : decode cX2_becomeNew 10 = .ok (.getfield 9, 3) := by decide +kernel
theorem dX2_becomeNew_13 : decode cX2_becomeNew 13 = .ok (.iload 4, 2) := by decide +kernel
theorem dX2_becomeNew_15 : decode cX2_becomeNew 15 = .ok (.iconst 0, 1) := by decide +kernel
theorem dX2_becomeNew_16 : decode cX2_becomeNew 16 = .ok (.iastore, 1) := by decide +kernel
theorem dX2_becomeNew_17 : decode cX2_becomeNew 17 = .ok (.iinc 4 1, 3) := by decide +kernel
theorem dX2_becomeNew_20 : decode cX2_becomeNew 20 = .ok (.goto (-17), 3) := by decide +kernel
theorem dX2_becomeNew_23 : decode cX2_becomeNew 23 = .ok (.aload_n 0, 1) := by decide +kernel
theorem dX2_becomeNew_24 : decode cX2_becomeNew 24 = .ok (.getfield 18, 3) := by decide +kernel
theorem dX2_becomeNew_27 : decode cX2_becomeNew 27 = .ok (.iconst 0, 1) := by decide +kernel
theorem dX2_becomeNew_28 : decode cX2_becomeNew 28 = .ok (.putfield 26, 3) := by decide +kernel
theorem dX2_becomeNew_31 : decode cX2_becomeNew 31 = .ok (.aload_n 0, 1) := by decide +kernel
theorem dX2_becomeNew_32 : decode cX2_becomeNew 32 = .ok (.iload_n 1, 1) := by decide +kernel
theorem dX2_becomeNew_33 : decode cX2_becomeNew 33 = .ok (.putfield 29, 3) := by decide +kernel
theorem dX2_becomeNew_36 : decode cX2_becomeNew 36 = .ok (.aload_n 0, 1) := by decide +kernel
theorem dX2_becomeNew_37 : decode cX2_becomeNew 37 = .ok (.iload_n 2, 1) := by decide +kernel
theorem dX2_becomeNew_38 : decode cX2_becomeNew 38 = .ok (.putfield 32, 3) := by decide +kernel
theorem dX2_becomeNew_41 : decode cX2_becomeNew 41 = .ok (.aload_n 0, 1) := by decide +kernel
theorem dX2_becomeNew_42 : decode cX2_becomeNew 42 = .ok (.iconst 0, 1) := by decide +kernel
theorem dX2_becomeNew_43 : decode cX2_becomeNew 43 = .ok (.putfield 35, 3) := by decide +kernel
theorem dX2_becomeNew_46 : decode cX2_becomeNew 46 = .ok (.aload_n 0, 1) := by decide +kernel
theorem dX2_becomeNew_47 : decode cX2_becomeNew 47 = .ok (.iconst 0, 1) := by decide +kernel
theorem dX2_becomeNew_48 : decode cX2_becomeNew 48 = .ok (.putfield 38, 3) := by decide +kernel
theorem dX2_becomeNew_51 : decode cX2_becomeNew 51 = .ok (.aload_n 0, 1) := by decide +kernel
theorem dX2_becomeNew_52 : decode cX2_becomeNew 52 = .ok (.iconst 0, 1) := by decide +kernel
theorem dX2_becomeNew_53 : decode cX2_becomeNew 53 = .ok (.putfield 41, 3) := by decide +kernel
theorem dX2_becomeNew_56 : decode cX2_becomeNew 56 = .ok (.aload_n 0, 1) := by decide +kernel
theorem dX2_becomeNew_57 : decode cX2_becomeNew 57 = .ok (.iconst (-1), 1) := by decide +kernel
theorem dX2_becomeNew_58 : decode cX2_becomeNew 58 = .ok (.putfield 44, 3) := by decide +kernel
theorem dX2_becomeNew_61 : decode cX2_becomeNew 61 = .ok (.aload_n 0, 1) := by decide +kernel
theorem dX2_becomeNew_62 : decode cX2_becomeNew 62 = .ok (.iconst (-1), 1) := by decide +kernel
theorem dX2_becomeNew_63 : decode cX2_becomeNew 63 = .ok (.putfield 47, 3) := by decide +kernel
theorem dX2_becomeNew_66 : decode cX2_becomeNew 66 = .ok (.aload_n 0, 1) := by decide +kernel
theorem dX2_becomeNew_67 : decode cX2_becomeNew 67 = .ok (.iconst 0, 1) := by decide +kernel
theorem dX2_becomeNew_68 : decode cX2_becomeNew 68 = .ok (.putfield 50, 3) := by decide +kernel
theorem dX2_becomeNew_71 : decode cX2_becomeNew 71 = .ok (.aload_n 0, 1) := by decide +kernel
theorem dX2_becomeNew_72 : decode cX2_becomeNew 72 = .ok (.iconst (-1), 1) := by decide +kernel
theorem dX2_becomeNew_73 : decode cX2_becomeNew 73 = .ok (.putfield 53, 3) := by decide +kernel
theorem dX2_becomeNew_76 : decode cX2_becomeNew 76 = .ok (.aload_n 0, 1) := by decide +kernel
theorem dX2_becomeNew_77 : decode cX2_becomeNew 77 = .ok (.iconst (-1), 1) := by decide +kernel
theorem dX2_becomeNew_78 : decode cX2_becomeNew 78 = .ok (.putfield 56, 3) := by decide +kernel
theorem dX2_becomeNew_81 : decode cX2_becomeNew 81 = .ok (.aload_n 0, 1) := by decide +kernel
theorem dX2_becomeNew_82 : decode cX2_becomeNew 82 = .ok (.iconst 0, 1) := by decide +kernel
theorem dX2_becomeNew_83 : decode cX2_becomeNew 83 = .ok (.putfield 59, 3) := by decide +kernel
theorem dX2_becomeNew_86 : decode cX2_becomeNew 86 = .ok (.aload_n 0, 1) := by decide +kernel
theorem dX2_becomeNew_87 : decode cX2_becomeNew 87 = .ok (.iconst 0, 1) := by decide +kernel
theorem dX2_becomeNew_88 : decode cX2_becomeNew 88 = .ok (.putfield 62, 3) := by decide +kernel
theorem dX2_becomeNew_91 : decode cX2_becomeNew 91 = .ok (.aload_n 0, 1) := by decide +kernel
theorem dX2_becomeNew_92 : decode cX2_becomeNew 92 = .ok (.iload_n 3, 1) := by decide +kernel
theorem dX2_becomeNew_93 : decode cX2_becomeNew 93 = .ok (.putfield 66, 3) := by decide +kernel
theorem dX2_becomeNew_96 : decode cX2_becomeNew 96 = .ok (.return_, 1) := by decide +kernel
theorem dX2_copyFrom_0 : decode cX2_copyFrom 0 = .ok (.aload_n 1, 1) := by decide +kernel
theorem dX2_copyFrom_1 : decode cX2_copyFrom 1 = .ok (.getfield 9, 3) := by decide +kernel
theorem dX2_copyFrom_4 : decode cX2_copyFrom 4 = .ok (.iconst 0, 1) := by decide +kernel
theorem dX2_copyFrom_5 : decode cX2_copyFrom 5 = .ok (.aload_n 0, 1) := by decide +kernel
theorem dX2_copyFrom_6 : decode cX2_copyFrom 6 = .ok (.getfield 9, 3) := by decide +kernel
theorem dX2_copyFrom_9 : decode cX2_copyFrom 9 = .ok (.iconst 0, 1) := by decide +kernel
theorem dX2_copyFrom_10 : decode cX2_copyFrom 10 = .ok (.iconst 4, 1) := by decide +kernel
theorem dX2_copyFrom_11 : decode cX2_copyFrom 11 = .ok (.invokestatic 69, 3) := by decide +kernel
theorem dX2_copyFrom_14 : decode cX2_copyFrom 14 = .ok (.aload_n 0, 1) := by decide +kernel
theorem dX2_copyFrom_15 : decode cX2_copyFrom 15 = .ok (.getfield 18, 3) := by decide +kernel
theorem dX2_copyFrom_18 : decode cX2_copyFrom 18 = .ok (.aload_n 1, 1) := by decide +kernel
theorem dX2_copyFrom_19 : decode cX2_copyFrom 19 = .ok (.getfield 18, 3) := by decide +kernel
theorem dX2_copyFrom_22 : decode cX2_copyFrom 22 = .ok (.invokevirtual 75, 3) := by decide +kernel
theorem dX2_copyFrom_25 : decode cX2_copyFrom 25 = .ok (.aload_n 0, 1) := by decide +kernel
theorem dX2_copyFrom_26 : decode cX2_copyFrom 26 = .ok (.aload_n 1, 1) := by decide +kernel
theorem dX2_copyFrom_27 : decode cX2_copyFrom 27 = .ok (.getfield 29, 3) := by decide +kernel
theorem dX2_copyFrom_30 : decode cX2_copyFrom 30 = .ok (.putfield 29, 3) := by decide +kernel
theorem dX2_copyFrom_33 : decode cX2_copyFrom 33 = .ok (.aload_n 0, 1) := by decide +kernel
theorem dX2_copyFrom_34 : decode cX2_copyFrom 34 = .ok (.aload_n 1, 1) := by decide +kernel
theorem dX2_copyFrom_35 : decode cX2_copyFrom 35 = .ok (.getfield 32, 3) := by decide +kernel
theorem dX2_copyFrom_38 : decode cX2_copyFrom 38 = .ok (.putfield 32, 3) := by decide +kernel
theorem dX2_copyFrom_41 : decode cX2_copyFrom 41 = .ok (.aload_n 0, 1) := by decide +kernel
theorem dX2_copyFrom_42 : decode cX2_copyFrom 42 = .ok (.aload_n 1, 1) := by decide +kernel
theorem dX2_copyFrom_43 : decode cX2_copyFrom 43 = .ok (.getfield 35, 3) := by decide +kernel
theorem dX2_copyFrom_46 : decode cX2_copyFrom 46 = .ok (.putfield 35, 3) := by decide +kernel
theorem dX2_copyFrom_49 : decode cX2_copyFrom 49 = .ok (.aload_n 0, 1) := by decide +kernel
theorem dX2_copyFrom_50 : decode cX2_copyFrom 50 = .ok (.aload_n 1, 1) := by decide +kernel
theorem dX2_copyFrom_51 : decode cX2_copyFrom 51 = .ok (.getfield 38, 3) := by decide +kernel
theorem dX2_copyFrom_54 : decode cX2_copyFrom 54 = .ok (.putfield 38, 3) := by decide +kernel
theorem dX2_copyFrom_57 : decode cX2_copyFrom 57 = .ok (.aload_n 0, 1) := by decide +kernel
theorem dX2_copyFrom_58 : decode cX2_copyFrom 58 = .ok (.aload_n 1, 1) := by decide +kernel
theorem dX2_copyFrom_59 : decode cX2_copyFrom 59 = .ok (.getfield 41, 3) := by decide +kernel
theorem dX2_copyFrom_62 : decode cX2_copyFrom 62 = .ok (.putfield 41, 3) := by decide +kernel
theorem dX2_copyFrom_65 : decode cX2_copyFrom 65 = .ok (.aload_n 0, 1) := by decide +kernel
theorem dX2_copyFrom_66 : decode cX2_copyFrom 66 = .ok (.aload_n 1, 1) := by decide +kernel
theorem dX2_copyFrom_67 : decode cX2_copyFrom 67 = .ok (.getfield 44, 3) := by decide +kernel
theorem dX2_copyFrom_70 : decode cX2_copyFrom 70 = .ok (.putfield 44, 3) := by decide +kernel
theorem dX2_copyFrom_73 : decode cX2_copyFrom 73 = .ok (.aload_n 0, 1) := by decide +kernel
theorem dX2_copyFrom_74 : decode cX2_copyFrom 74 = .ok (.aload_n 1, 1) := by decide +kernel
theorem dX2_copyFrom_75 : decode cX2_copyFrom 75 = .ok (.getfield 47, 3) := by decide +kernel
theorem dX2_copyFrom_78 : decode cX2_copyFrom 78 = .ok (.putfield 47, 3) := by decide +kernel
theorem dX2_copyFrom_81 : decode cX2_copyFrom 81 = .ok (.aload_n 0, 1) := by decide +kernel
theorem dX2_copyFrom_82 : decode cX2_copyFrom 82 = .ok (.aload_n 1, 1) := by decide +kernel
theorem dX2_copyFrom_83 : decode cX2_copyFrom 83 = .ok (.getfield 50, 3) := by decide +kernel
theorem dX2_copyFrom_86 : decode cX2_copyFrom 86 = .ok (.putfield 50, 3) := by decide +kernel
theorem dX2_copyFrom_89 : decode cX2_copyFrom 89 = .ok (.aload_n 0, 1) := by decide +kernel
theorem dX2_copyFrom_90 : decode cX2_copyFrom 90 = .ok (.aload_n 1, 1) := by decide +kernel
theorem dX2_copyFrom_91 : decode cX2_copyFrom 91 = .ok (.getfield 53, 3) := by decide +kernel
theorem dX2_copyFrom_94 : decode cX2_copyFrom 94 = .ok (.putfield 53, 3) := by decide +kernel
theorem dX2_copyFrom_97 : decode cX2_copyFrom 97 = .ok (.aload_n 0, 1) := by decide +kernel
theorem dX2_copyFrom_98 : decode cX2_copyFrom 98 = .ok (.aload_n 1, 1) := by decide +kernel
theorem dX2_copyFrom_99 : decode cX2_copyFrom 99 = .ok (.getfield 56, 3) := by decide +kernel
theorem dX2_copyFrom_102 : decode cX2_copyFrom 102 = .ok (.putfield 56, 3) := by decide +kernel
theorem dX2_copyFrom_105 : decode cX2_copyFrom 105 = .ok (.aload_n 0, 1) := by decide +kernel
theorem dX2_copyFrom_106 : decode cX2_copyFrom 106 = .ok (.aload_n 1, 1) := by decide +kernel
theorem dX2_copyFrom_107 : decode cX2_copyFrom 107 = .ok (.getfield 59, 3) := by decide +kernel
theorem dX2_copyFrom_110 : decode cX2_copyFrom 110 = .ok (.putfield 59, 3) := by decide +kernel
theorem dX2_copyFrom_113 : decode cX2_copyFrom 113 = .ok (.aload_n 0, 1) := by decide +kernel
theorem dX2_copyFrom_114 : decode cX2_copyFrom 114 = .ok (.aload_n 1, 1) := by decide +kernel
theorem dX2_copyFrom_115 : decode cX2_copyFrom 115 = .ok (.getfield 62, 3) := by decide +kernel
theorem dX2_copyFrom_118 : decode cX2_copyFrom 118 = .ok (.putfield 62, 3) := by decide +kernel
theorem dX2_copyFrom_121 : decode cX2_copyFrom 121 = .ok (.aload_n 0, 1) := by decide +kernel
theorem dX2_copyFrom_122 : decode cX2_copyFrom 122 = .ok (.aload_n 1, 1) := by decide +kernel
theorem dX2_copyFrom_123 : decode cX2_copyFrom 123 = .ok (.getfield 66, 3) := by decide +kernel
theorem dX2_copyFrom_126 : decode cX2_copyFrom 126 = .ok (.putfield 66, 3) := by decide +kernel
theorem dX2_copyFrom_129 : decode cX2_copyFrom 129 = .ok (.return_, 1) := by decide +kernel
theorem dX2_isOver_0 : decode cX2_isOver 0 = .ok (.aload_n 0, 1) := by decide +kernel
theorem dX2_isOver_1 : decode cX2_isOver 1 = .ok (.getfield 35, 3) := by decide +kernel
theorem dX2_isOver_4 : decode cX2_isOver 4 = .ok (.iconst 3, 1) := by decide +kernel
theorem dX2_isOver_5 : decode cX2_isOver 5 = .ok (.if_icmp .eq 11, 3) := by decide +kernel
theorem dX2_isOver_8 : decode cX2_isOver 8 = .ok (.aload_n 0, 1) := by decide +kernel
theorem dX2_isOver_9 : decode cX2_isOver 9 = .ok (.getfield 35, 3) := by decide +kernel
theorem dX2_isOver_12 : decode cX2_isOver 12 = .ok (.iconst 4, 1) := by decide +kernel
theorem dX2_isOver_13 : decode cX2_isOver 13 = .ok (.if_icmp .ne 7, 3) := by decide +kernel
theorem dX2_isOver_16 : decode cX2_isOver 16 = .ok (.iconst 1, 1) := by decide +kernel
theorem dX2_isOver_17 : decode cX2_isOver 17 = .ok (.goto 4, 3) := by decide +kernel
theorem dX2_isOver_20 : decode cX2_isOver 20 = .ok (.iconst 0, 1) := by decide +kernel
theorem dX2_isOver_21 : decode cX2_isOver 21 = .ok (.ireturn, 1) := by decide +kernel
theorem dX2_localAt_0 : decode cX2_localAt 0 = .ok (.iload_n 1, 1) := by decide +kernel
theorem dX2_localAt_1 : decode cX2_localAt 1 = .ok (.ifCond .lt 17, 3) := by decide +kernel
theorem dX2_localAt_4 : decode cX2_localAt 4 = .ok (.iload_n 1, 1) := by decide +kernel
theorem dX2_localAt_5 : decode cX2_localAt 5 = .ok (.iconst 4, 1) := by decide +kernel
theorem dX2_localAt_6 : decode cX2_localAt 6 = .ok (.if_icmp .ge 12, 3) := by decide +kernel
theorem dX2_localAt_9 : decode cX2_localAt 9 = .ok (.aload_n 0, 1) := by decide +kernel
theorem dX2_localAt_10 : decode cX2_localAt 10 = .ok (.getfield 9, 3) := by decide +kernel
theorem dX2_localAt_13 : decode cX2_localAt 13 = .ok (.iload_n 1, 1) := by decide +kernel
theorem dX2_localAt_14 : decode cX2_localAt 14 = .ok (.iaload, 1) := by decide +kernel
theorem dX2_localAt_15 : decode cX2_localAt 15 = .ok (.goto 4, 3) := by decide +kernel
theorem dX2_localAt_18 : decode cX2_localAt 18 = .ok (.iconst 0, 1) := by decide +kernel
theorem dX2_localAt_19 : decode cX2_localAt 19 = .ok (.ireturn, 1) := by decide +kernel
theorem dX2_setLocal_0 : decode cX2_setLocal 0 = .ok (.iload_n 1, 1) := by decide +kernel
theorem dX2_setLocal_1 : decode cX2_setLocal 1 = .ok (.ifCond .lt 15, 3) := by decide +kernel
theorem dX2_setLocal_4 : decode cX2_setLocal 4 = .ok (.iload_n 1, 1) := by decide +kernel
theorem dX2_setLocal_5 : decode cX2_setLocal 5 = .ok (.iconst 4, 1) := by decide +kernel
theorem dX2_setLocal_6 : decode cX2_setLocal 6 = .ok (.if_icmp .ge 10, 3) := by decide +kernel
theorem dX2_setLocal_9 : decode cX2_setLocal 9 = .ok (.aload_n 0, 1) := by decide +kernel
theorem dX2_setLocal_10 : decode cX2_setLocal 10 = .ok (.getfield 9, 3) := by decide +kernel
theorem dX2_setLocal_13 : decode cX2_setLocal 13 = .ok (.iload_n 1, 1) := by decide +kernel
theorem dX2_setLocal_14 : decode cX2_setLocal 14 = .ok (.iload_n 2, 1) := by decide +kernel
theorem dX2_setLocal_15 : decode cX2_setLocal 15 = .ok (.iastore, 1) := by decide +kernel
theorem dX2_setLocal_16 : decode cX2_setLocal 16 = .ok (.return_, 1) := by decide +kernel
theorem dX2_goOnAt_0 : decode cX2_goOnAt 0 = .ok (.aload_n 0, 1) := by decide +kernel
theorem dX2_goOnAt_1 : decode cX2_goOnAt 1 = .ok (.iconst 2, 1) := by decide +kernel
theorem dX2_goOnAt_2 : decode cX2_goOnAt 2 = .ok (.putfield 35, 3) := by decide +kernel
theorem dX2_goOnAt_5 : decode cX2_goOnAt 5 = .ok (.aload_n 0, 1) := by decide +kernel
theorem dX2_goOnAt_6 : decode cX2_goOnAt 6 = .ok (.iload_n 1, 1) := by decide +kernel
theorem dX2_goOnAt_7 : decode cX2_goOnAt 7 = .ok (.putfield 38, 3) := by decide +kernel
theorem dX2_goOnAt_10 : decode cX2_goOnAt 10 = .ok (.return_, 1) := by decide +kernel
theorem dX2_end_0 : decode cX2_end 0 = .ok (.aload_n 0, 1) := by decide +kernel
theorem dX2_end_1 : decode cX2_end 1 = .ok (.iload_n 1, 1) := by decide +kernel
theorem dX2_end_2 : decode cX2_end 2 = .ok (.putfield 35, 3) := by decide +kernel
theorem dX2_end_5 : decode cX2_end 5 = .ok (.aload_n 0, 1) := by decide +kernel
theorem dX2_end_6 : decode cX2_end 6 = .ok (.iload_n 2, 1) := by decide +kernel
theorem dX2_end_7 : decode cX2_end 7 = .ok (.putfield 41, 3) := by decide +kernel
theorem dX2_end_10 : decode cX2_end 10 = .ok (.return_, 1) := by decide +kernel
theorem dX2_beginReturn_0 : decode cX2_beginReturn 0 = .ok (.aload_n 0, 1) := by decide +kernel
theorem dX2_beginReturn_1 : decode cX2_beginReturn 1 = .ok (.aload_n 0, 1) := by decide +kernel
theorem dX2_beginReturn_2 : decode cX2_beginReturn 2 = .ok (.getfield 41, 3) := by decide +kernel
theorem dX2_beginReturn_5 : decode cX2_beginReturn 5 = .ok (.putfield 79, 3) := by decide +kernel
theorem dX2_beginReturn_8 : decode cX2_beginReturn 8 = .ok (.bipush (-4), 2) := by decide +kernel
theorem dX2_beginReturn_10 : decode cX2_beginReturn 10 = .ok (.ireturn, 1) := by decide +kernel
theorem dX2_leave_0 : decode cX2_leave 0 = .ok (.aload_n 0, 1) := by decide +kernel
theorem dX2_leave_1 : decode cX2_leave 1 = .ok (.getfield 18, 3) := by decide +kernel
theorem dX2_leave_4 : decode cX2_leave 4 = .ok (.getfield 26, 3) := by decide +kernel
theorem dX2_leave_7 : decode cX2_leave 7 = .ok (.istore_n 2, 1) := by decide +kernel
theorem dX2_leave_8 : decode cX2_leave 8 = .ok (.iload_n 2, 1) := by decide +kernel
theorem dX2_leave_9 : decode cX2_leave 9 = .ok (.ifCond .le 85, 3) := by decide +kernel
theorem dX2_leave_12 : decode cX2_leave 12 = .ok (.aload_n 0, 1) := by decide +kernel
theorem dX2_leave_13 : decode cX2_leave 13 = .ok (.getfield 18, 3) := by decide +kernel
theorem dX2_leave_16 : decode cX2_leave 16 = .ok (.invokevirtual 82, 3) := by decide +kernel
theorem dX2_leave_19 : decode cX2_leave 19 = .ok (.istore_n 3, 1) := by decide +kernel
theorem dX2_leave_20 : decode cX2_leave 20 = .ok (.aload_n 0, 1) := by decide +kernel
theorem dX2_leave_21 : decode cX2_leave 21 = .ok (.getfield 18, 3) := by decide +kernel
theorem dX2_leave_24 : decode cX2_leave 24 = .ok (.invokevirtual 86, 3) := by decide +kernel
theorem dX2_leave_27 : decode cX2_leave 27 = .ok (.istore 4, 2) := by decide +kernel
theorem dX2_leave_29 : decode cX2_leave 29 = .ok (.aload_n 0, 1) := by decide +kernel
theorem dX2_leave_30 : decode cX2_leave 30 = .ok (.getfield 18, 3) := by decide +kernel
theorem dX2_leave_33 : decode cX2_leave 33 = .ok (.invokevirtual 89, 3) := by decide +kernel
theorem dX2_leave_36 : decode cX2_leave 36 = .ok (.iload_n 3, 1) := by decide +kernel
theorem dX2_leave_37 : decode cX2_leave 37 = .ok (.bipush (-2), 2) := by decide +kernel
theorem dX2_leave_39 : decode cX2_leave 39 = .ok (.if_icmp .ne 22, 3) := by decide +kernel
theorem dX2_leave_42 : decode cX2_leave 42 = .ok (.aload_n 0, 1) := by decide +kernel
theorem dX2_leave_43 : decode cX2_leave 43 = .ok (.getfield 18, 3) := by decide +kernel
theorem dX2_leave_46 : decode cX2_leave 46 = .ok (.iload_n 1, 1) := by decide +kernel
theorem dX2_leave_47 : decode cX2_leave 47 = .ok (.aload_n 0, 1) := by decide +kernel
theorem dX2_leave_48 : decode cX2_leave 48 = .ok (.getfield 79, 3) := by decide +kernel
theorem dX2_leave_51 : decode cX2_leave 51 = .ok (.invokevirtual 92, 3) := by decide +kernel
theorem dX2_leave_54 : decode cX2_leave 54 = .ok (.aload_n 0, 1) := by decide +kernel
theorem dX2_leave_55 : decode cX2_leave 55 = .ok (.iload 4, 2) := by decide +kernel
theorem dX2_leave_57 : decode cX2_leave 57 = .ok (.invokevirtual 96, 3) := by decide +kernel
theorem dX2_leave_60 : decode cX2_leave 60 = .ok (.return_, 1) := by decide +kernel
theorem dX2_leave_61 : decode cX2_leave 61 = .ok (.iload_n 3, 1) := by decide +kernel
theorem dX2_leave_62 : decode cX2_leave 62 = .ok (.iconst (-1), 1) := by decide +kernel
theorem dX2_leave_63 : decode cX2_leave 63 = .ok (.if_icmp .ne 25, 3) := by decide +kernel
theorem dX2_leave_66 : decode cX2_leave 66 = .ok (.iload_n 1, 1) := by decide +kernel
theorem dX2_leave_67 : decode cX2_leave 67 = .ok (.iconst 1, 1) := by decide +kernel
theorem dX2_leave_68 : decode cX2_leave 68 = .ok (.bipush 9, 2) := by decide +kernel
theorem dX2_leave_70 : decode cX2_leave 70 = .ok (.invokestatic 100, 3) := by decide +kernel
theorem dX2_leave_73 : decode cX2_leave 73 = .ok (.ifCond .eq 15, 3) := by decide +kernel
theorem dX2_leave_76 : decode cX2_leave 76 = .ok (.aload_n 0, 1) := by decide +kernel
theorem dX2_leave_77 : decode cX2_leave 77 = .ok (.iload_n 1, 1) := by decide +kernel
theorem dX2_leave_78 : decode cX2_leave 78 = .ok (.putfield 41, 3) := by decide +kernel
theorem dX2_leave_81 : decode cX2_leave 81 = .ok (.aload_n 0, 1) := by decide +kernel
theorem dX2_leave_82 : decode cX2_leave 82 = .ok (.iload 4, 2) := by decide +kernel
theorem dX2_leave_84 : decode cX2_leave 84 = .ok (.invokevirtual 96, 3) := by decide +kernel
theorem dX2_leave_87 : decode cX2_leave 87 = .ok (.return_, 1) := by decide +kernel
theorem dX2_leave_88 : decode cX2_leave 88 = .ok (.iinc 2 (-1), 3) := by decide +kernel
theorem dX2_leave_91 : decode cX2_leave 91 = .ok (.goto (-83), 3) := by decide +kernel
theorem dX2_leave_94 : decode cX2_leave 94 = .ok (.iload_n 1, 1) := by decide +kernel
theorem dX2_leave_95 : decode cX2_leave 95 = .ok (.bipush (-4), 2) := by decide +kernel
theorem dX2_leave_97 : decode cX2_leave 97 = .ok (.if_icmp .ne 15, 3) := by decide +kernel
theorem dX2_leave_100 : decode cX2_leave 100 = .ok (.aload_n 0, 1) := by decide +kernel
theorem dX2_leave_101 : decode cX2_leave 101 = .ok (.iconst 3, 1) := by decide +kernel
theorem dX2_leave_102 : decode cX2_leave 102 = .ok (.aload_n 0, 1) := by decide +kernel
theorem dX2_leave_103 : decode cX2_leave 103 = .ok (.getfield 79, 3) := by decide +kernel
theorem dX2_leave_106 : decode cX2_leave 106 = .ok (.invokevirtual 104, 3) := by decide +kernel
theorem dX2_leave_109 : decode cX2_leave 109 = .ok (.goto 9, 3) := by decide +kernel
theorem dX2_leave_112 : decode cX2_leave 112 = .ok (.aload_n 0, 1) := by decide +kernel
theorem dX2_leave_113 : decode cX2_leave 113 = .ok (.iconst 4, 1) := by decide +kernel
theorem dX2_leave_114 : decode cX2_leave 114 = .ok (.iload_n 1, 1) := by decide +kernel
theorem dX2_leave_115 : decode cX2_leave 115 = .ok (.invokevirtual 104, 3) := by decide +kernel
theorem dX2_leave_118 : decode cX2_leave 118 = .ok (.return_, 1) := by decide +kernel
theorem dX2_doPlain_0 : decode cX2_doPlain 0 = .ok (.aload_n 0, 1) := by decide +kernel
theorem dX2_doPlain_1 : decode cX2_doPlain 1 = .ok (.getfield 38, 3) := by decide +kernel
theorem dX2_doPlain_4 : decode cX2_doPlain 4 = .ok (.iconst 1, 1) := by decide +kernel
theorem dX2_doPlain_5 : decode cX2_doPlain 5 = .ok (.iadd, 1) := by decide +kernel
theorem dX2_doPlain_6 : decode cX2_doPlain 6 = .ok (.istore 4, 2) := by decide +kernel
theorem dX2_doPlain_8 : decode cX2_doPlain 8 = .ok (.iload_n 1, 1) := by decide +kernel
theorem dX2_doPlain_9 : decode cX2_doPlain 9 = .ok (.tableswitch 211 0 11 #[63, 88, 100, 211, 112, 138, 156, 189, 199, 204, 211, 206], 63) := by decide +kernel
theorem dX2_doPlain_72 : decode cX2_doPlain 72 = .ok (.aload_n 0, 1) := by decide +kernel
theorem dX2_doPlain_73 : decode cX2_doPlain 73 = .ok (.sipush (-9999), 3) := by decide +kernel
theorem dX2_doPlain_76 : decode cX2_doPlain 76 = .ok (.sipush 9999, 3) := by decide +kernel
theorem dX2_doPlain_79 : decode cX2_doPlain 79 = .ok (.aload_n 0, 1) := by decide +kernel
theorem dX2_doPlain_80 : decode cX2_doPlain 80 = .ok (.getfield 41, 3) := by decide +kernel
theorem dX2_doPlain_83 : decode cX2_doPlain 83 = .ok (.iload_n 2, 1) := by decide +kernel
theorem dX2_doPlain_84 : decode cX2_doPlain 84 = .ok (.iadd, 1) := by decide +kernel
theorem dX2_doPlain_85 : decode cX2_doPlain 85 = .ok (.invokestatic 107, 3) := by decide +kernel
theorem dX2_doPlain_88 : decode cX2_doPlain 88 = .ok (.invokestatic 113, 3) := by decide +kernel
theorem dX2_doPlain_91 : decode cX2_doPlain 91 = .ok (.putfield 41, 3) := by decide +kernel
theorem dX2_doPlain_94 : decode cX2_doPlain 94 = .ok (.goto 126, 3) := by decide +kernel
theorem dX2_doPlain_97 : decode cX2_doPlain 97 = .ok (.aload_n 0, 1) := by decide +kernel
theorem dX2_doPlain_98 : decode cX2_doPlain 98 = .ok (.aload_n 0, 1) := by decide +kernel
theorem dX2_doPlain_99 : decode cX2_doPlain 99 = .ok (.iload_n 2, 1) := by decide +kernel
theorem dX2_doPlain_100 : decode cX2_doPlain 100 = .ok (.invokevirtual 116, 3) := by decide +kernel
theorem dX2_doPlain_103 : decode cX2_doPlain 103 = .ok (.putfield 41, 3) := by decide +kernel
theorem dX2_doPlain_106 : decode cX2_doPlain 106 = .ok (.goto 114, 3) := by decide +kernel
theorem dX2_doPlain_109 : decode cX2_doPlain 109 = .ok (.aload_n 0, 1) := by decide +kernel
theorem dX2_doPlain_110 : decode cX2_doPlain 110 = .ok (.iload_n 2, 1) := by decide +kernel
theorem dX2_doPlain_111 : decode cX2_doPlain 111 = .ok (.aload_n 0, 1) := by decide +kernel
theorem dX2_doPlain_112 : decode cX2_doPlain 112 = .ok (.getfield 41, 3) := by decide +kernel
theorem dX2_doPlain_115 : decode cX2_doPlain 115 = .ok (.invokevirtual 120, 3) := by decide +kernel
theorem dX2_doPlain_118 : decode cX2_doPlain 118 = .ok (.goto 102, 3) := by decide +kernel
theorem dX2_doPlain_121 : decode cX2_doPlain 121 = .ok (.aload_n 0, 1) := by decide +kernel
theorem dX2_doPlain_122 : decode cX2_doPlain 122 = .ok (.iload_n 2, 1) := by decide +kernel
theorem dX2_doPlain_123 : decode cX2_doPlain 123 = .ok (.invokevirtual 116, 3) := by decide +kernel
theorem dX2_doPlain_126 : decode cX2_doPlain 126 = .ok (.ifCond .le 94, 3) := by decide +kernel
theorem dX2_doPlain_129 : decode cX2_doPlain 129 = .ok (.aload_n 0, 1) := by decide +kernel
theorem dX2_doPlain_130 : decode cX2_doPlain 130 = .ok (.iload_n 2, 1) := by decide +kernel
theorem dX2_doPlain_131 : decode cX2_doPlain 131 = .ok (.aload_n 0, 1) := by decide +kernel
theorem dX2_doPlain_132 : decode cX2_doPlain 132 = .ok (.iload_n 2, 1) := by decide +kernel
theorem dX2_doPlain_133 : decode cX2_doPlain 133 = .ok (.invokevirtual 116, 3) := by decide +kernel
theorem dX2_doPlain_136 : decode cX2_doPlain 136 = .ok (.iconst 1, 1) := by decide +kernel
theorem dX2_doPlain_137 : decode cX2_doPlain 137 = .ok (.isub, 1) := by decide +kernel
theorem dX2_doPlain_138 : decode cX2_doPlain 138 = .ok (.invokevirtual 120, 3) := by decide +kernel
theorem dX2_doPlain_141 : decode cX2_doPlain 141 = .ok (.iload_n 3, 1) := by decide +kernel
theorem dX2_doPlain_142 : decode cX2_doPlain 142 = .ok (.istore 4, 2) := by decide +kernel
theorem dX2_doPlain_144 : decode cX2_doPlain 144 = .ok (.goto 76, 3) := by decide +kernel
theorem dX2_doPlain_147 : decode cX2_doPlain 147 = .ok (.aload_n 0, 1) := by decide +kernel
theorem dX2_doPlain_148 : decode cX2_doPlain 148 = .ok (.getfield 41, 3) := by decide +kernel
theorem dX2_doPlain_151 : decode cX2_doPlain 151 = .ok (.ifCond .gt 7, 3) := by decide +kernel
theorem dX2_doPlain_154 : decode cX2_doPlain 154 = .ok (.iload_n 3, 1) := by decide +kernel
theorem dX2_doPlain_155 : decode cX2_doPlain 155 = .ok (.goto 5, 3) := by decide +kernel
theorem dX2_doPlain_158 : decode cX2_doPlain 158 = .ok (.iload 4, 2) := by decide +kernel
theorem dX2_doPlain_160 : decode cX2_doPlain 160 = .ok (.istore 4, 2) := by decide +kernel
theorem dX2_doPlain_162 : decode cX2_doPlain 162 = .ok (.goto 58, 3) := by decide +kernel
theorem dX2_doPlain_165 : decode cX2_doPlain 165 = .ok (.aload_n 0, 1) := by decide +kernel
theorem dX2_doPlain_166 : decode cX2_doPlain 166 = .ok (.getfield 18, 3) := by decide +kernel
theorem dX2_doPlain_169 : decode cX2_doPlain 169 = .ok (.invokevirtual 123, 3) := by decide +kernel
theorem dX2_doPlain_172 : decode cX2_doPlain 172 = .ok (.ifCond .eq 5, 3) := by decide +kernel
theorem dX2_doPlain_175 : decode cX2_doPlain 175 = .ok (.iconst 5, 1) := by decide +kernel
theorem dX2_doPlain_176 : decode cX2_doPlain 176 = .ok (.ireturn, 1) := by decide +kernel
theorem dX2_doPlain_177 : decode cX2_doPlain 177 = .ok (.aload_n 0, 1) := by decide +kernel
theorem dX2_doPlain_178 : decode cX2_doPlain 178 = .ok (.getfield 18, 3) := by decide +kernel
theorem dX2_doPlain_181 : decode cX2_doPlain 181 = .ok (.iload_n 2, 1) := by decide +kernel
theorem dX2_doPlain_182 : decode cX2_doPlain 182 = .ok (.ifCond .ne 7, 3) := by decide +kernel
theorem dX2_doPlain_185 : decode cX2_doPlain 185 = .ok (.iconst (-1), 1) := by decide +kernel
theorem dX2_doPlain_186 : decode cX2_doPlain 186 = .ok (.goto 5, 3) := by decide +kernel
theorem dX2_doPlain_189 : decode cX2_doPlain 189 = .ok (.bipush (-2), 2) := by decide +kernel
theorem dX2_doPlain_191 : decode cX2_doPlain 191 = .ok (.iload_n 3, 1) := by decide +kernel
theorem dX2_doPlain_192 : decode cX2_doPlain 192 = .ok (.invokevirtual 92, 3) := by decide +kernel
theorem dX2_doPlain_195 : decode cX2_doPlain 195 = .ok (.goto 25, 3) := by decide +kernel
theorem dX2_doPlain_198 : decode cX2_doPlain 198 = .ok (.aload_n 0, 1) := by decide +kernel
theorem dX2_doPlain_199 : decode cX2_doPlain 199 = .ok (.iload_n 3, 1) := by decide +kernel
theorem dX2_doPlain_200 : decode cX2_doPlain 200 = .ok (.invokevirtual 127, 3) := by decide +kernel
theorem dX2_doPlain_203 : decode cX2_doPlain 203 = .ok (.istore 4, 2) := by decide +kernel
theorem dX2_doPlain_205 : decode cX2_doPlain 205 = .ok (.goto 15, 3) := by decide +kernel
theorem dX2_doPlain_208 : decode cX2_doPlain 208 = .ok (.aload_n 0, 1) := by decide +kernel
theorem dX2_doPlain_209 : decode cX2_doPlain 209 = .ok (.invokevirtual 130, 3) := by decide +kernel
theorem dX2_doPlain_212 : decode cX2_doPlain 212 = .ok (.ireturn, 1) := by decide +kernel
theorem dX2_doPlain_213 : decode cX2_doPlain 213 = .ok (.iload_n 2, 1) := by decide +kernel
theorem dX2_doPlain_214 : decode cX2_doPlain 214 = .ok (.ireturn, 1) := by decide +kernel
theorem dX2_doPlain_215 : decode cX2_doPlain 215 = .ok (.aload_n 0, 1) := by decide +kernel
theorem dX2_doPlain_216 : decode cX2_doPlain 216 = .ok (.invokevirtual 133, 3) := by decide +kernel
