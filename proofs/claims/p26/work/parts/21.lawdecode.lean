theorem dX7_init_0 : decode cX7_init 0 = .ok (.aload_n 0, 1) := by decide +kernel
theorem dX7_init_1 : decode cX7_init 1 = .ok (.invokespecial 1, 3) := by decide +kernel
theorem dX7_init_4 : decode cX7_init 4 = .ok (.aload_n 0, 1) := by decide +kernel
theorem dX7_init_5 : decode cX7_init 5 = .ok (.bipush 8, 2) := by decide +kernel
theorem dX7_init_7 : decode cX7_init 7 = .ok (.bipush 12, 2) := by decide +kernel
theorem dX7_init_9 : decode cX7_init 9 = .ok (.multianewarray 7 2, 4) := by decide +kernel
theorem dX7_init_13 : decode cX7_init 13 = .ok (.putfield 9, 3) := by decide +kernel
theorem dX7_init_16 : decode cX7_init 16 = .ok (.aload_n 0, 1) := by decide +kernel
theorem dX7_init_17 : decode cX7_init 17 = .ok (.bipush 8, 2) := by decide +kernel
theorem dX7_init_19 : decode cX7_init 19 = .ok (.newarray .int, 2) := by decide +kernel
theorem dX7_init_21 : decode cX7_init 21 = .ok (.putfield 14, 3) := by decide +kernel
theorem dX7_init_24 : decode cX7_init 24 = .ok (.return_, 1) := by decide +kernel
theorem dX7_isTold_0 : decode cX7_isTold 0 = .ok (.aload_n 0, 1) := by decide +kernel
theorem dX7_isTold_1 : decode cX7_isTold 1 = .ok (.dup, 1) := by decide +kernel
theorem dX7_isTold_2 : decode cX7_isTold 2 = .ok (.getfield 18, 3) := by decide +kernel
theorem dX7_isTold_5 : decode cX7_isTold 5 = .ok (.iconst 1, 1) := by decide +kernel
theorem dX7_isTold_6 : decode cX7_isTold 6 = .ok (.iadd, 1) := by decide +kernel
theorem dX7_isTold_7 : decode cX7_isTold 7 = .ok (.putfield 18, 3) := by decide +kernel
theorem dX7_isTold_10 : decode cX7_isTold 10 = .ok (.aload_n 1, 1) := by decide +kernel
theorem dX7_isTold_11 : decode cX7_isTold 11 = .ok (.invokevirtual 22, 3) := by decide +kernel
theorem dX7_isTold_14 : decode cX7_isTold 14 = .ok (.aload_n 0, 1) := by decide +kernel
theorem dX7_isTold_15 : decode cX7_isTold 15 = .ok (.getfield 18, 3) := by decide +kernel
theorem dX7_isTold_18 : decode cX7_isTold 18 = .ok (.iconst 1, 1) := by decide +kernel
theorem dX7_isTold_19 : decode cX7_isTold 19 = .ok (.isub, 1) := by decide +kernel
theorem dX7_isTold_20 : decode cX7_isTold 20 = .ok (.if_icmp .ne 7, 3) := by decide +kernel
theorem dX7_isTold_23 : decode cX7_isTold 23 = .ok (.iconst 1, 1) := by decide +kernel
theorem dX7_isTold_24 : decode cX7_isTold 24 = .ok (.goto 4, 3) := by decide +kernel
theorem dX7_isTold_27 : decode cX7_isTold 27 = .ok (.iconst 0, 1) := by decide +kernel
theorem dX7_isTold_28 : decode cX7_isTold 28 = .ok (.ireturn, 1) := by decide +kernel
theorem dX7_isLine_0 : decode cX7_isLine 0 = .ok (.aload_n 0, 1) := by decide +kernel
theorem dX7_isLine_1 : decode cX7_isLine 1 = .ok (.getfield 14, 3) := by decide +kernel
theorem dX7_isLine_4 : decode cX7_isLine 4 = .ok (.iload_n 2, 1) := by decide +kernel
theorem dX7_isLine_5 : decode cX7_isLine 5 = .ok (.iaload, 1) := by decide +kernel
theorem dX7_isLine_6 : decode cX7_isLine 6 = .ok (.bipush 12, 2) := by decide +kernel
theorem dX7_isLine_8 : decode cX7_isLine 8 = .ok (.if_icmp .ne 5, 3) := by decide +kernel
theorem dX7_isLine_11 : decode cX7_isLine 11 = .ok (.iconst 1, 1) := by decide +kernel
theorem dX7_isLine_12 : decode cX7_isLine 12 = .ok (.ireturn, 1) := by decide +kernel
theorem dX7_isLine_13 : decode cX7_isLine 13 = .ok (.iconst 3, 1) := by decide +kernel
theorem dX7_isLine_14 : decode cX7_isLine 14 = .ok (.newarray .int, 2) := by decide +kernel
theorem dX7_isLine_16 : decode cX7_isLine 16 = .ok (.dup, 1) := by decide +kernel
theorem dX7_isLine_17 : decode cX7_isLine 17 = .ok (.iconst 0, 1) := by decide +kernel
theorem dX7_isLine_18 : decode cX7_isLine 18 = .ok (.iload_n 3, 1) := by decide +kernel
theorem dX7_isLine_19 : decode cX7_isLine 19 = .ok (.iastore, 1) := by decide +kernel
theorem dX7_isLine_20 : decode cX7_isLine 20 = .ok (.dup, 1) := by decide +kernel
theorem dX7_isLine_21 : decode cX7_isLine 21 = .ok (.iconst 1, 1) := by decide +kernel
theorem dX7_isLine_22 : decode cX7_isLine 22 = .ok (.iload 4, 2) := by decide +kernel
theorem dX7_isLine_24 : decode cX7_isLine 24 = .ok (.iastore, 1) := by decide +kernel
theorem dX7_isLine_25 : decode cX7_isLine 25 = .ok (.dup, 1) := by decide +kernel
theorem dX7_isLine_26 : decode cX7_isLine 26 = .ok (.iconst 2, 1) := by decide +kernel
theorem dX7_isLine_27 : decode cX7_isLine 27 = .ok (.iload 5, 2) := by decide +kernel
theorem dX7_isLine_29 : decode cX7_isLine 29 = .ok (.iastore, 1) := by decide +kernel
theorem dX7_isLine_30 : decode cX7_isLine 30 = .ok (.astore 6, 2) := by decide +kernel
theorem dX7_isLine_32 : decode cX7_isLine 32 = .ok (.aload_n 0, 1) := by decide +kernel
theorem dX7_isLine_33 : decode cX7_isLine 33 = .ok (.getfield 9, 3) := by decide +kernel
theorem dX7_isLine_36 : decode cX7_isLine 36 = .ok (.iload_n 2, 1) := by decide +kernel
theorem dX7_isLine_37 : decode cX7_isLine 37 = .ok (.aaload, 1) := by decide +kernel
theorem dX7_isLine_38 : decode cX7_isLine 38 = .ok (.aload_n 0, 1) := by decide +kernel
theorem dX7_isLine_39 : decode cX7_isLine 39 = .ok (.getfield 14, 3) := by decide +kernel
theorem dX7_isLine_42 : decode cX7_isLine 42 = .ok (.iload_n 2, 1) := by decide +kernel
theorem dX7_isLine_43 : decode cX7_isLine 43 = .ok (.iaload, 1) := by decide +kernel
theorem dX7_isLine_44 : decode cX7_isLine 44 = .ok (.aload 6, 2) := by decide +kernel
theorem dX7_isLine_46 : decode cX7_isLine 46 = .ok (.aastore, 1) := by decide +kernel
theorem dX7_isLine_47 : decode cX7_isLine 47 = .ok (.aload_n 0, 1) := by decide +kernel
theorem dX7_isLine_48 : decode cX7_isLine 48 = .ok (.getfield 14, 3) := by decide +kernel
theorem dX7_isLine_51 : decode cX7_isLine 51 = .ok (.iload_n 2, 1) := by decide +kernel
theorem dX7_isLine_52 : decode cX7_isLine 52 = .ok (.dup2, 1) := by decide +kernel
theorem dX7_isLine_53 : decode cX7_isLine 53 = .ok (.iaload, 1) := by decide +kernel
theorem dX7_isLine_54 : decode cX7_isLine 54 = .ok (.iconst 1, 1) := by decide +kernel
theorem dX7_isLine_55 : decode cX7_isLine 55 = .ok (.iadd, 1) := by decide +kernel
theorem dX7_isLine_56 : decode cX7_isLine 56 = .ok (.iastore, 1) := by decide +kernel
theorem dX7_isLine_57 : decode cX7_isLine 57 = .ok (.aload_n 1, 1) := by decide +kernel
theorem dX7_isLine_58 : decode cX7_isLine 58 = .ok (.iload_n 2, 1) := by decide +kernel
theorem dX7_isLine_59 : decode cX7_isLine 59 = .ok (.iload_n 3, 1) := by decide +kernel
theorem dX7_isLine_60 : decode cX7_isLine 60 = .ok (.iload 4, 2) := by decide +kernel
theorem dX7_isLine_62 : decode cX7_isLine 62 = .ok (.iload 5, 2) := by decide +kernel
theorem dX7_isLine_64 : decode cX7_isLine 64 = .ok (.invokevirtual 28, 3) := by decide +kernel
theorem dX7_isLine_67 : decode cX7_isLine 67 = .ok (.aload_n 0, 1) := by decide +kernel
theorem dX7_isLine_68 : decode cX7_isLine 68 = .ok (.getfield 14, 3) := by decide +kernel
theorem dX7_isLine_71 : decode cX7_isLine 71 = .ok (.iload_n 2, 1) := by decide +kernel
theorem dX7_isLine_72 : decode cX7_isLine 72 = .ok (.iaload, 1) := by decide +kernel
theorem dX7_isLine_73 : decode cX7_isLine 73 = .ok (.iconst 1, 1) := by decide +kernel
theorem dX7_isLine_74 : decode cX7_isLine 74 = .ok (.isub, 1) := by decide +kernel
theorem dX7_isLine_75 : decode cX7_isLine 75 = .ok (.if_icmp .ne 7, 3) := by decide +kernel
theorem dX7_isLine_78 : decode cX7_isLine 78 = .ok (.iconst 1, 1) := by decide +kernel
theorem dX7_isLine_79 : decode cX7_isLine 79 = .ok (.goto 4, 3) := by decide +kernel
theorem dX7_isLine_82 : decode cX7_isLine 82 = .ok (.iconst 0, 1) := by decide +kernel
theorem dX7_isLine_83 : decode cX7_isLine 83 = .ok (.ireturn, 1) := by decide +kernel
theorem dX7_isDrawn_0 : decode cX7_isDrawn 0 = .ok (.aload 4, 2) := by decide +kernel
theorem dX7_isDrawn_2 : decode cX7_isDrawn 2 = .ok (.iload_n 3, 1) := by decide +kernel
theorem dX7_isDrawn_3 : decode cX7_isDrawn 3 = .ok (.aload 4, 2) := by decide +kernel
theorem dX7_isDrawn_5 : decode cX7_isDrawn 5 = .ok (.arraylength, 1) := by decide +kernel
theorem dX7_isDrawn_6 : decode cX7_isDrawn 6 = .ok (.invokestatic 32, 3) := by decide +kernel
theorem dX7_isDrawn_9 : decode cX7_isDrawn 9 = .ok (.iaload, 1) := by decide +kernel
theorem dX7_isDrawn_10 : decode cX7_isDrawn 10 = .ok (.istore 5, 2) := by decide +kernel
theorem dX7_isDrawn_12 : decode cX7_isDrawn 12 = .ok (.aload_n 0, 1) := by decide +kernel
theorem dX7_isDrawn_13 : decode cX7_isDrawn 13 = .ok (.getfield 14, 3) := by decide +kernel
theorem dX7_isDrawn_16 : decode cX7_isDrawn 16 = .ok (.iload_n 2, 1) := by decide +kernel
theorem dX7_isDrawn_17 : decode cX7_isDrawn 17 = .ok (.iaload, 1) := by decide +kernel
theorem dX7_isDrawn_18 : decode cX7_isDrawn 18 = .ok (.istore 6, 2) := by decide +kernel
theorem dX7_isDrawn_20 : decode cX7_isDrawn 20 = .ok (.iload 6, 2) := by decide +kernel
theorem dX7_isDrawn_22 : decode cX7_isDrawn 22 = .ok (.bipush 12, 2) := by decide +kernel
theorem dX7_isDrawn_24 : decode cX7_isDrawn 24 = .ok (.if_icmp .ne 5, 3) := by decide +kernel
theorem dX7_isDrawn_27 : decode cX7_isDrawn 27 = .ok (.iconst 1, 1) := by decide +kernel
theorem dX7_isDrawn_28 : decode cX7_isDrawn 28 = .ok (.ireturn, 1) := by decide +kernel
theorem dX7_isDrawn_29 : decode cX7_isDrawn 29 = .ok (.bipush 12, 2) := by decide +kernel
theorem dX7_isDrawn_31 : decode cX7_isDrawn 31 = .ok (.iload 6, 2) := by decide +kernel
theorem dX7_isDrawn_33 : decode cX7_isDrawn 33 = .ok (.iconst 1, 1) := by decide +kernel
theorem dX7_isDrawn_34 : decode cX7_isDrawn 34 = .ok (.iadd, 1) := by decide +kernel
theorem dX7_isDrawn_35 : decode cX7_isDrawn 35 = .ok (.iload_n 3, 1) := by decide +kernel
theorem dX7_isDrawn_36 : decode cX7_isDrawn 36 = .ok (.bipush 6, 2) := by decide +kernel
theorem dX7_isDrawn_38 : decode cX7_isDrawn 38 = .ok (.ishr, 1) := by decide +kernel
theorem dX7_isDrawn_39 : decode cX7_isDrawn 39 = .ok (.iconst 4, 1) := by decide +kernel
theorem dX7_isDrawn_40 : decode cX7_isDrawn 40 = .ok (.invokestatic 32, 3) := by decide +kernel
theorem dX7_isDrawn_43 : decode cX7_isDrawn 43 = .ok (.iadd, 1) := by decide +kernel
theorem dX7_isDrawn_44 : decode cX7_isDrawn 44 = .ok (.invokestatic 38, 3) := by decide +kernel
theorem dX7_isDrawn_47 : decode cX7_isDrawn 47 = .ok (.istore 7, 2) := by decide +kernel
theorem dX7_isDrawn_49 : decode cX7_isDrawn 49 = .ok (.iload 5, 2) := by decide +kernel
theorem dX7_isDrawn_51 : decode cX7_isDrawn 51 = .ok (.tableswitch 256 0 15 #[77, 97, 97, 256, 114, 144, 156, 144, 256, 174, 194, 256, 220, 256, 194, 239], 77) := by decide +kernel
theorem dX7_isDrawn_128 : decode cX7_isDrawn 128 = .ok (.aload_n 0, 1) := by decide +kernel
theorem dX7_isDrawn_129 : decode cX7_isDrawn 129 = .ok (.aload_n 1, 1) := by decide +kernel
theorem dX7_isDrawn_130 : decode cX7_isDrawn 130 = .ok (.iload_n 2, 1) := by decide +kernel
theorem dX7_isDrawn_131 : decode cX7_isDrawn 131 = .ok (.iconst 0, 1) := by decide +kernel
theorem dX7_isDrawn_132 : decode cX7_isDrawn 132 = .ok (.iload_n 3, 1) := by decide +kernel
theorem dX7_isDrawn_133 : decode cX7_isDrawn 133 = .ok (.iconst 4, 1) := by decide +kernel
theorem dX7_isDrawn_134 : decode cX7_isDrawn 134 = .ok (.ishr, 1) := by decide +kernel
theorem dX7_isDrawn_135 : decode cX7_isDrawn 135 = .ok (.bipush 21, 2) := by decide +kernel
theorem dX7_isDrawn_137 : decode cX7_isDrawn 137 = .ok (.invokestatic 32, 3) := by decide +kernel
theorem dX7_isDrawn_140 : decode cX7_isDrawn 140 = .ok (.bipush 10, 2) := by decide +kernel
theorem dX7_isDrawn_142 : decode cX7_isDrawn 142 = .ok (.isub, 1) := by decide +kernel
theorem dX7_isDrawn_143 : decode cX7_isDrawn 143 = .ok (.iconst 0, 1) := by decide +kernel
theorem dX7_isDrawn_144 : decode cX7_isDrawn 144 = .ok (.invokevirtual 43, 3) := by decide +kernel
theorem dX7_isDrawn_147 : decode cX7_isDrawn 147 = .ok (.ireturn, 1) := by decide +kernel
theorem dX7_isDrawn_148 : decode cX7_isDrawn 148 = .ok (.aload_n 0, 1) := by decide +kernel
theorem dX7_isDrawn_149 : decode cX7_isDrawn 149 = .ok (.aload_n 1, 1) := by decide +kernel
theorem dX7_isDrawn_150 : decode cX7_isDrawn 150 = .ok (.iload_n 2, 1) := by decide +kernel
theorem dX7_isDrawn_151 : decode cX7_isDrawn 151 = .ok (.iload 5, 2) := by decide +kernel
theorem dX7_isDrawn_153 : decode cX7_isDrawn 153 = .ok (.iload_n 3, 1) := by decide +kernel
theorem dX7_isDrawn_154 : decode cX7_isDrawn 154 = .ok (.iconst 4, 1) := by decide +kernel
theorem dX7_isDrawn_155 : decode cX7_isDrawn 155 = .ok (.ishr, 1) := by decide +kernel
theorem dX7_isDrawn_156 : decode cX7_isDrawn 156 = .ok (.iconst 3, 1) := by decide +kernel
theorem dX7_isDrawn_157 : decode cX7_isDrawn 157 = .ok (.invokestatic 32, 3) := by decide +kernel
theorem dX7_isDrawn_160 : decode cX7_isDrawn 160 = .ok (.iconst 0, 1) := by decide +kernel
theorem dX7_isDrawn_161 : decode cX7_isDrawn 161 = .ok (.invokevirtual 43, 3) := by decide +kernel
theorem dX7_isDrawn_164 : decode cX7_isDrawn 164 = .ok (.ireturn, 1) := by decide +kernel
theorem dX7_isDrawn_165 : decode cX7_isDrawn 165 = .ok (.aload_n 0, 1) := by decide +kernel
theorem dX7_isDrawn_166 : decode cX7_isDrawn 166 = .ok (.aload_n 1, 1) := by decide +kernel
theorem dX7_isDrawn_167 : decode cX7_isDrawn 167 = .ok (.iload_n 2, 1) := by decide +kernel
theorem dX7_isDrawn_168 : decode cX7_isDrawn 168 = .ok (.iconst 4, 1) := by decide +kernel
theorem dX7_isDrawn_169 : decode cX7_isDrawn 169 = .ok (.iload_n 3, 1) := by decide +kernel
theorem dX7_isDrawn_170 : decode cX7_isDrawn 170 = .ok (.iconst 4, 1) := by decide +kernel
theorem dX7_isDrawn_171 : decode cX7_isDrawn 171 = .ok (.ishr, 1) := by decide +kernel
theorem dX7_isDrawn_172 : decode cX7_isDrawn 172 = .ok (.iconst 3, 1) := by decide +kernel
theorem dX7_isDrawn_173 : decode cX7_isDrawn 173 = .ok (.invokestatic 32, 3) := by decide +kernel
theorem dX7_isDrawn_176 : decode cX7_isDrawn 176 = .ok (.iconst 0, 1) := by decide +kernel
theorem dX7_isDrawn_177 : decode cX7_isDrawn 177 = .ok (.iload 6, 2) := by decide +kernel
theorem dX7_isDrawn_179 : decode cX7_isDrawn 179 = .ok (.iload_n 3, 1) := by decide +kernel
theorem dX7_isDrawn_180 : decode cX7_isDrawn 180 = .ok (.bipush 6, 2) := by decide +kernel
theorem dX7_isDrawn_182 : decode cX7_isDrawn 182 = .ok (.ishr, 1) := by decide +kernel
theorem dX7_isDrawn_183 : decode cX7_isDrawn 183 = .ok (.iconst 4, 1) := by decide +kernel
theorem dX7_isDrawn_184 : decode cX7_isDrawn 184 = .ok (.invokestatic 32, 3) := by decide +kernel
theorem dX7_isDrawn_187 : decode cX7_isDrawn 187 = .ok (.isub, 1) := by decide +kernel
theorem dX7_isDrawn_188 : decode cX7_isDrawn 188 = .ok (.invokestatic 47, 3) := by decide +kernel
theorem dX7_isDrawn_191 : decode cX7_isDrawn 191 = .ok (.invokevirtual 43, 3) := by decide +kernel
theorem dX7_isDrawn_194 : decode cX7_isDrawn 194 = .ok (.ireturn, 1) := by decide +kernel
theorem dX7_isDrawn_195 : decode cX7_isDrawn 195 = .ok (.aload_n 0, 1) := by decide +kernel
theorem dX7_isDrawn_196 : decode cX7_isDrawn 196 = .ok (.aload_n 1, 1) := by decide +kernel
theorem dX7_isDrawn_197 : decode cX7_isDrawn 197 = .ok (.iload_n 2, 1) := by decide +kernel
theorem dX7_isDrawn_198 : decode cX7_isDrawn 198 = .ok (.iload 5, 2) := by decide +kernel
theorem dX7_isDrawn_200 : decode cX7_isDrawn 200 = .ok (.iconst 0, 1) := by decide +kernel
theorem dX7_isDrawn_201 : decode cX7_isDrawn 201 = .ok (.iload 7, 2) := by decide +kernel
theorem dX7_isDrawn_203 : decode cX7_isDrawn 203 = .ok (.invokevirtual 43, 3) := by decide +kernel
theorem dX7_isDrawn_206 : decode cX7_isDrawn 206 = .ok (.ireturn, 1) := by decide +kernel
theorem dX7_isDrawn_207 : decode cX7_isDrawn 207 = .ok (.aload_n 0, 1) := by decide +kernel
theorem dX7_isDrawn_208 : decode cX7_isDrawn 208 = .ok (.aload_n 1, 1) := by decide +kernel
theorem dX7_isDrawn_209 : decode cX7_isDrawn 209 = .ok (.iload_n 2, 1) := by decide +kernel
theorem dX7_isDrawn_210 : decode cX7_isDrawn 210 = .ok (.bipush 6, 2) := by decide +kernel
theorem dX7_isDrawn_212 : decode cX7_isDrawn 212 = .ok (.iload_n 3, 1) := by decide +kernel
theorem dX7_isDrawn_213 : decode cX7_isDrawn 213 = .ok (.iconst 4, 1) := by decide +kernel
theorem dX7_isDrawn_214 : decode cX7_isDrawn 214 = .ok (.ishr, 1) := by decide +kernel
theorem dX7_isDrawn_215 : decode cX7_isDrawn 215 = .ok (.iconst 2, 1) := by decide +kernel
theorem dX7_isDrawn_216 : decode cX7_isDrawn 216 = .ok (.invokestatic 32, 3) := by decide +kernel
theorem dX7_isDrawn_219 : decode cX7_isDrawn 219 = .ok (.iload 7, 2) := by decide +kernel
theorem dX7_isDrawn_221 : decode cX7_isDrawn 221 = .ok (.invokevirtual 43, 3) := by decide +kernel
theorem dX7_isDrawn_224 : decode cX7_isDrawn 224 = .ok (.ireturn, 1) := by decide +kernel
theorem dX7_isDrawn_225 : decode cX7_isDrawn 225 = .ok (.aload_n 0, 1) := by decide +kernel
theorem dX7_isDrawn_226 : decode cX7_isDrawn 226 = .ok (.aload_n 1, 1) := by decide +kernel
theorem dX7_isDrawn_227 : decode cX7_isDrawn 227 = .ok (.iload_n 2, 1) := by decide +kernel
theorem dX7_isDrawn_228 : decode cX7_isDrawn 228 = .ok (.bipush 9, 2) := by decide +kernel
theorem dX7_isDrawn_230 : decode cX7_isDrawn 230 = .ok (.iconst 1, 1) := by decide +kernel
theorem dX7_isDrawn_231 : decode cX7_isDrawn 231 = .ok (.iload_n 3, 1) := by decide +kernel
theorem dX7_isDrawn_232 : decode cX7_isDrawn 232 = .ok (.iconst 4, 1) := by decide +kernel
theorem dX7_isDrawn_233 : decode cX7_isDrawn 233 = .ok (.ishr, 1) := by decide +kernel
theorem dX7_isDrawn_234 : decode cX7_isDrawn 234 = .ok (.bipush 7, 2) := by decide +kernel
theorem dX7_isDrawn_236 : decode cX7_isDrawn 236 = .ok (.invokestatic 32, 3) := by decide +kernel
theorem dX7_isDrawn_239 : decode cX7_isDrawn 239 = .ok (.iadd, 1) := by decide +kernel
theorem dX7_isDrawn_240 : decode cX7_isDrawn 240 = .ok (.iconst 0, 1) := by decide +kernel
theorem dX7_isDrawn_241 : decode cX7_isDrawn 241 = .ok (.invokevirtual 43, 3) := by decide +kernel
theorem dX7_isDrawn_244 : decode cX7_isDrawn 244 = .ok (.ireturn, 1) := by decide +kernel
theorem dX7_isDrawn_245 : decode cX7_isDrawn 245 = .ok (.aload_n 0, 1) := by decide +kernel
theorem dX7_isDrawn_246 : decode cX7_isDrawn 246 = .ok (.aload_n 1, 1) := by decide +kernel
theorem dX7_isDrawn_247 : decode cX7_isDrawn 247 = .ok (.iload_n 2, 1) := by decide +kernel
theorem dX7_isDrawn_248 : decode cX7_isDrawn 248 = .ok (.iload 5, 2) := by decide +kernel
theorem dX7_isDrawn_250 : decode cX7_isDrawn 250 = .ok (.iload_n 2, 1) := by decide +kernel
theorem dX7_isDrawn_251 : decode cX7_isDrawn 251 = .ok (.ifCond .ne 8, 3) := by decide +kernel
theorem dX7_isDrawn_254 : decode cX7_isDrawn 254 = .ok (.bipush 7, 2) := by decide +kernel
theorem dX7_isDrawn_256 : decode cX7_isDrawn 256 = .ok (.goto 10, 3) := by decide +kernel
theorem dX7_isDrawn_259 : decode cX7_isDrawn 259 = .ok (.iload_n 3, 1) := by decide +kernel
theorem dX7_isDrawn_260 : decode cX7_isDrawn 260 = .ok (.iconst 4, 1) := by decide +kernel
theorem dX7_isDrawn_261 : decode cX7_isDrawn 261 = .ok (.ishr, 1) := by decide +kernel
theorem dX7_isDrawn_262 : decode cX7_isDrawn 262 = .ok (.iload_n 2, 1) := by decide +kernel
theorem dX7_isDrawn_263 : decode cX7_isDrawn 263 = .ok (.invokestatic 32, 3) := by decide +kernel
theorem dX7_isDrawn_266 : decode cX7_isDrawn 266 = .ok (.iconst 0, 1) := by decide +kernel
theorem dX7_isDrawn_267 : decode cX7_isDrawn 267 = .ok (.invokevirtual 43, 3) := by decide +kernel
theorem dX7_isDrawn_270 : decode cX7_isDrawn 270 = .ok (.ireturn, 1) := by decide +kernel
theorem dX7_isDrawn_271 : decode cX7_isDrawn 271 = .ok (.aload_n 0, 1) := by decide +kernel
theorem dX7_isDrawn_272 : decode cX7_isDrawn 272 = .ok (.aload_n 1, 1) := by decide +kernel
theorem dX7_isDrawn_273 : decode cX7_isDrawn 273 = .ok (.iload_n 2, 1) := by decide +kernel
theorem dX7_isDrawn_274 : decode cX7_isDrawn 274 = .ok (.bipush 12, 2) := by decide +kernel
theorem dX7_isDrawn_276 : decode cX7_isDrawn 276 = .ok (.iconst 1, 1) := by decide +kernel
theorem dX7_isDrawn_277 : decode cX7_isDrawn 277 = .ok (.iload_n 3, 1) := by decide +kernel
theorem dX7_isDrawn_278 : decode cX7_isDrawn 278 = .ok (.iconst 4, 1) := by decide +kernel
theorem dX7_isDrawn_279 : decode cX7_isDrawn 279 = .ok (.ishr, 1) := by decide +kernel
theorem dX7_isDrawn_280 : decode cX7_isDrawn 280 = .ok (.iconst 3, 1) := by decide +kernel
theorem dX7_isDrawn_281 : decode cX7_isDrawn 281 = .ok (.invokestatic 32, 3) := by decide +kernel
theorem dX7_isDrawn_284 : decode cX7_isDrawn 284 = .ok (.iadd, 1) := by decide +kernel
theorem dX7_isDrawn_285 : decode cX7_isDrawn 285 = .ok (.iconst 0, 1) := by decide +kernel
theorem dX7_isDrawn_286 : decode cX7_isDrawn 286 = .ok (.invokevirtual 43, 3) := by decide +kernel
theorem dX7_isDrawn_289 : decode cX7_isDrawn 289 = .ok (.ireturn, 1) := by decide +kernel
theorem dX7_isDrawn_290 : decode cX7_isDrawn 290 = .ok (.aload_n 0, 1) := by decide +kernel
theorem dX7_isDrawn_291 : decode cX7_isDrawn 291 = .ok (.aload_n 1, 1) := by decide +kernel
theorem dX7_isDrawn_292 : decode cX7_isDrawn 292 = .ok (.iload_n 2, 1) := by decide +kernel
theorem dX7_isDrawn_293 : decode cX7_isDrawn 293 = .ok (.bipush 15, 2) := by decide +kernel
theorem dX7_isDrawn_295 : decode cX7_isDrawn 295 = .ok (.iload_n 3, 1) := by decide +kernel
theorem dX7_isDrawn_296 : decode cX7_isDrawn 296 = .ok (.iconst 4, 1) := by decide +kernel
theorem dX7_isDrawn_297 : decode cX7_isDrawn 297 = .ok (.ishr, 1) := by decide +kernel
theorem dX7_isDrawn_298 : decode cX7_isDrawn 298 = .ok (.iconst 2, 1) := by decide +kernel
theorem dX7_isDrawn_299 : decode cX7_isDrawn 299 = .ok (.invokestatic 32, 3) := by decide +kernel
theorem dX7_isDrawn_302 : decode cX7_isDrawn 302 = .ok (.iconst 0, 1) := by decide +kernel
theorem dX7_isDrawn_303 : decode cX7_isDrawn 303 = .ok (.invokevirtual 43, 3) := by decide +kernel
theorem dX7_isDrawn_306 : decode cX7_isDrawn 306 = .ok (.ireturn, 1) := by decide +kernel
theorem dX7_isDrawn_307 : decode cX7_isDrawn 307 = .ok (.aload_n 0, 1) := by decide +kernel
theorem dX7_isDrawn_308 : decode cX7_isDrawn 308 = .ok (.aload_n 1, 1) := by decide +kernel
theorem dX7_isDrawn_309 : decode cX7_isDrawn 309 = .ok (.iload_n 2, 1) := by decide +kernel
theorem dX7_isDrawn_310 : decode cX7_isDrawn 310 = .ok (.iload 5, 2) := by decide +kernel
theorem dX7_isDrawn_312 : decode cX7_isDrawn 312 = .ok (.iconst 0, 1) := by decide +kernel
theorem dX7_isDrawn_313 : decode cX7_isDrawn 313 = .ok (.iconst 0, 1) := by decide +kernel
theorem dX7_isDrawn_314 : decode cX7_isDrawn 314 = .ok (.invokevirtual 43, 3) := by decide +kernel
theorem dX7_isDrawn_317 : decode cX7_isDrawn 317 = .ok (.ireturn, 1) := by decide +kernel
theorem dL_below_0 : decode cL_below 0 = .ok (.iload_n 0, 1) := by decide +kernel
theorem dL_below_1 : decode cL_below 1 = .ok (.ldc 7, 2) := by decide +kernel
theorem dL_below_3 : decode cL_below 3 = .ok (.iand, 1) := by decide +kernel
theorem dL_below_4 : decode cL_below 4 = .ok (.iload_n 1, 1) := by decide +kernel
theorem dL_below_5 : decode cL_below 5 = .ok (.irem, 1) := by decide +kernel
theorem dL_below_6 : decode cL_below 6 = .ok (.ireturn, 1) := by decide +kernel
theorem dL_cell_0 : decode cL_cell 0 = .ok (.iload_n 1, 1) := by decide +kernel
theorem dL_cell_1 : decode cL_cell 1 = .ok (.aload_n 0, 1) := by decide +kernel
theorem dL_cell_2 : decode cL_cell 2 = .ok (.arraylength, 1) := by decide +kernel
theorem dL_cell_3 : decode cL_cell 3 = .ok (.if_icmp .ge 9, 3) := by decide +kernel
theorem dL_cell_6 : decode cL_cell 6 = .ok (.aload_n 0, 1) := by decide +kernel
theorem dL_cell_7 : decode cL_cell 7 = .ok (.iload_n 1, 1) := by decide +kernel
theorem dL_cell_8 : decode cL_cell 8 = .ok (.iaload, 1) := by decide +kernel
theorem dL_cell_9 : decode cL_cell 9 = .ok (.goto 9, 3) := by decide +kernel
theorem dL_cell_12 : decode cL_cell 12 = .ok (.ldc 8, 2) := by decide +kernel
theorem dL_cell_14 : decode cL_cell 14 = .ok (.iload_n 1, 1) := by decide +kernel
theorem dL_cell_15 : decode cL_cell 15 = .ok (.iconst 3, 1) := by decide +kernel
theorem dL_cell_16 : decode cL_cell 16 = .ok (.iadd, 1) := by decide +kernel
theorem dL_cell_17 : decode cL_cell 17 = .ok (.imul, 1) := by decide +kernel
theorem dL_cell_18 : decode cL_cell 18 = .ok (.ireturn, 1) := by decide +kernel
theorem dL_law_0 : decode cL_law 0 = .ok (.new 9, 3) := by decide +kernel
theorem dL_law_3 : decode cL_law 3 = .ok (.dup, 1) := by decide +kernel
theorem dL_law_4 : decode cL_law 4 = .ok (.invokespecial 11, 3) := by decide +kernel
theorem dL_law_7 : decode cL_law 7 = .ok (.astore_n 1, 1) := by decide +kernel
theorem dL_law_8 : decode cL_law 8 = .ok (.new 12, 3) := by decide +kernel
theorem dL_law_11 : decode cL_law 11 = .ok (.dup, 1) := by decide +kernel
theorem dL_law_12 : decode cL_law 12 = .ok (.invokespecial 14, 3) := by decide +kernel
theorem dL_law_15 : decode cL_law 15 = .ok (.astore_n 2, 1) := by decide +kernel
theorem dL_law_16 : decode cL_law 16 = .ok (.bipush 20, 2) := by decide +kernel
theorem dL_law_18 : decode cL_law 18 = .ok (.newarray .int, 2) := by decide +kernel
theorem dL_law_20 : decode cL_law 20 = .ok (.dup, 1) := by decide +kernel
theorem dL_law_21 : decode cL_law 21 = .ok (.iconst 0, 1) := by decide +kernel
theorem dL_law_22 : decode cL_law 22 = .ok (.iconst 0, 1) := by decide +kernel
theorem dL_law_23 : decode cL_law 23 = .ok (.iastore, 1) := by decide +kernel
theorem dL_law_24 : decode cL_law 24 = .ok (.dup, 1) := by decide +kernel
theorem dL_law_25 : decode cL_law 25 = .ok (.iconst 1, 1) := by decide +kernel
theorem dL_law_26 : decode cL_law 26 = .ok (.iconst 1, 1) := by decide +kernel
theorem dL_law_27 : decode cL_law 27 = .ok (.iastore, 1) := by decide +kernel
theorem dL_law_28 : decode cL_law 28 = .ok (.dup, 1) := by decide +kernel
theorem dL_law_29 : decode cL_law 29 = .ok (.iconst 2, 1) := by decide +kernel
theorem dL_law_30 : decode cL_law 30 = .ok (.iconst 2, 1) := by decide +kernel
theorem dL_law_31 : decode cL_law 31 = .ok (.iastore, 1) := by decide +kernel
theorem dL_law_32 : decode cL_law 32 = .ok (.dup, 1) := by decide +kernel
theorem dL_law_33 : decode cL_law 33 = .ok (.iconst 3, 1) := by decide +kernel
theorem dL_law_34 : decode cL_law 34 = .ok (.iconst 3, 1) := by decide +kernel
theorem dL_law_35 : decode cL_law 35 = .ok (.iastore, 1) := by decide +kernel
theorem dL_law_36 : decode cL_law 36 = .ok (.dup, 1) := by decide +kernel
theorem dL_law_37 : decode cL_law 37 = .ok (.iconst 4, 1) := by decide +kernel
theorem dL_law_38 : decode cL_law 38 = .ok (.iconst 4, 1) := by decide +kernel
theorem dL_law_39 : decode cL_law 39 = .ok (.iastore, 1) := by decide +kernel
theorem dL_law_40 : decode cL_law 40 = .ok (.dup, 1) := by decide +kernel
theorem dL_law_41 : decode cL_law 41 = .ok (.iconst 5, 1) := by decide +kernel
theorem dL_law_42 : decode cL_law 42 = .ok (.iconst 5, 1) := by decide +kernel
theorem dL_law_43 : decode cL_law 43 = .ok (.iastore, 1) := by decide +kernel
theorem dL_law_44 : decode cL_law 44 = .ok (.dup, 1) := by decide +kernel
theorem dL_law_45 : decode cL_law 45 = .ok (.bipush 6, 2) := by decide +kernel
theorem dL_law_47 : decode cL_law 47 = .ok (.bipush 6, 2) := by decide +kernel
theorem dL_law_49 : decode cL_law 49 = .ok (.iastore, 1) := by decide +kernel
theorem dL_law_50 : decode cL_law 50 = .ok (.dup, 1) := by decide +kernel
theorem dL_law_51 : decode cL_law 51 = .ok (.bipush 7, 2) := by decide +kernel
theorem dL_law_53 : decode cL_law 53 = .ok (.bipush 7, 2) := by decide +kernel
theorem dL_law_55 : decode cL_law 55 = .ok (.iastore, 1) := by decide +kernel
theorem dL_law_56 : decode cL_law 56 = .ok (.dup, 1) := by decide +kernel
theorem dL_law_57 : decode cL_law 57 = .ok (.bipush 8, 2) := by decide +kernel
theorem dL_law_59 : decode cL_law 59 = .ok (.bipush 8, 2) := by decide +kernel
theorem dL_law_61 : decode cL_law 61 = .ok (.iastore, 1) := by decide +kernel
theorem dL_law_62 : decode cL_law 62 = .ok (.dup, 1) := by decide +kernel
theorem dL_law_63 : decode cL_law 63 = .ok (.bipush 9, 2) := by decide +kernel
theorem dL_law_65 : decode cL_law 65 = .ok (.bipush 9, 2) := by decide +kernel
theorem dL_law_67 : decode cL_law 67 = .ok (.iastore, 1) := by decide +kernel
theorem dL_law_68 : decode cL_law 68 = .ok (.dup, 1) := by decide +kernel
theorem dL_law_69 : decode cL_law 69 = .ok (.bipush 10, 2) := by decide +kernel
theorem dL_law_71 : decode cL_law 71 = .ok (.bipush 10, 2) := by decide +kernel
theorem dL_law_73 : decode cL_law 73 = .ok (.iastore, 1) := by decide +kernel
theorem dL_law_74 : decode cL_law 74 = .ok (.dup, 1) := by decide +kernel
theorem dL_law_75 : decode cL_law 75 = .ok (.bipush 11, 2) := by decide +kernel
theorem dL_law_77 : decode cL_law 77 = .ok (.bipush 11, 2) := by decide +kernel
theorem dL_law_79 : decode cL_law 79 = .ok (.iastore, 1) := by decide +kernel
theorem dL_law_80 : decode cL_law 80 = .ok (.dup, 1) := by decide +kernel
theorem dL_law_81 : decode cL_law 81 = .ok (.bipush 12, 2) := by decide +kernel
theorem dL_law_83 : decode cL_law 83 = .ok (.bipush 12, 2) := by decide +kernel
theorem dL_law_85 : decode cL_law 85 = .ok (.iastore, 1) := by decide +kernel
theorem dL_law_86 : decode cL_law 86 = .ok (.dup, 1) := by decide +kernel
theorem dL_law_87 : decode cL_law 87 = .ok (.bipush 13, 2) := by decide +kernel
theorem dL_law_89 : decode cL_law 89 = .ok (.bipush 13, 2) := by decide +kernel
theorem dL_law_91 : decode cL_law 91 = .ok (.iastore, 1) := by decide +kernel
theorem dL_law_92 : decode cL_law 92 = .ok (.dup, 1) := by decide +kernel
theorem dL_law_93 : decode cL_law 93 = .ok (.bipush 14, 2) := by decide +kernel
theorem dL_law_95 : decode cL_law 95 = .ok (.bipush 14, 2) := by decide +kernel
theorem dL_law_97 : decode cL_law 97 = .ok (.iastore, 1) := by decide +kernel
theorem dL_law_98 : decode cL_law 98 = .ok (.dup, 1) := by decide +kernel
theorem dL_law_99 : decode cL_law 99 = .ok (.bipush 15, 2) := by decide +kernel
theorem dL_law_101 : decode cL_law 101 = .ok (.bipush 15, 2) := by decide +kernel
theorem dL_law_103 : decode cL_law 103 = .ok (.iastore, 1) := by decide +kernel
theorem dL_law_104 : decode cL_law 104 = .ok (.dup, 1) := by decide +kernel
theorem dL_law_105 : decode cL_law 105 = .ok (.bipush 16, 2) := by decide +kernel
theorem dL_law_107 : decode cL_law 107 = .ok (.iconst 3, 1) := by decide +kernel
theorem dL_law_108 : decode cL_law 108 = .ok (.iastore, 1) := by decide +kernel
theorem dL_law_109 : decode cL_law 109 = .ok (.dup, 1) := by decide +kernel
theorem dL_law_110 : decode cL_law 110 = .ok (.bipush 17, 2) := by decide +kernel
theorem dL_law_112 : decode cL_law 112 = .ok (.bipush 12, 2) := by decide +kernel
theorem dL_law_114 : decode cL_law 114 = .ok (.iastore, 1) := by decide +kernel
theorem dL_law_115 : decode cL_law 115 = .ok (.dup, 1) := by decide +kernel
theorem dL_law_116 : decode cL_law 116 = .ok (.bipush 18, 2) := by decide +kernel
theorem dL_law_118 : decode cL_law 118 = .ok (.bipush 6, 2) := by decide +kernel
theorem dL_law_120 : decode cL_law 120 = .ok (.iastore, 1) := by decide +kernel
theorem dL_law_121 : decode cL_law 121 = .ok (.dup, 1) := by decide +kernel
theorem dL_law_122 : decode cL_law 122 = .ok (.bipush 19, 2) := by decide +kernel
theorem dL_law_124 : decode cL_law 124 = .ok (.iconst 0, 1) := by decide +kernel
theorem dL_law_125 : decode cL_law 125 = .ok (.iastore, 1) := by decide +kernel
theorem dL_law_126 : decode cL_law 126 = .ok (.astore_n 3, 1) := by decide +kernel
theorem dL_law_127 : decode cL_law 127 = .ok (.iconst 0, 1) := by decide +kernel
theorem dL_law_128 : decode cL_law 128 = .ok (.istore 4, 2) := by decide +kernel
theorem dL_law_130 : decode cL_law 130 = .ok (.iload 4, 2) := by decide +kernel
theorem dL_law_132 : decode cL_law 132 = .ok (.iconst 5, 1) := by decide +kernel
theorem dL_law_133 : decode cL_law 133 = .ok (.if_icmp .ge 85, 3) := by decide +kernel
theorem dL_law_136 : decode cL_law 136 = .ok (.aload_n 2, 1) := by decide +kernel
theorem dL_law_137 : decode cL_law 137 = .ok (.aload_n 1, 1) := by decide +kernel
theorem dL_law_138 : decode cL_law 138 = .ok (.invokevirtual 15, 3) := by decide +kernel
theorem dL_law_141 : decode cL_law 141 = .ok (.ifCond .ne 5, 3) := by decide +kernel
theorem dL_law_144 : decode cL_law 144 = .ok (.iconst 0, 1) := by decide +kernel
theorem dL_law_145 : decode cL_law 145 = .ok (.ireturn, 1) := by decide +kernel
theorem dL_law_146 : decode cL_law 146 = .ok (.iconst 0, 1) := by decide +kernel
theorem dL_law_147 : decode cL_law 147 = .ok (.istore 5, 2) := by decide +kernel
theorem dL_law_149 : decode cL_law 149 = .ok (.iload 5, 2) := by decide +kernel
theorem dL_law_151 : decode cL_law 151 = .ok (.iconst 3, 1) := by decide +kernel
theorem dL_law_152 : decode cL_law 152 = .ok (.aload_n 0, 1) := by decide +kernel
theorem dL_law_153 : decode cL_law 153 = .ok (.iload 4, 2) := by decide +kernel
theorem dL_law_155 : decode cL_law 155 = .ok (.invokestatic 19, 3) := by decide +kernel
theorem dL_law_158 : decode cL_law 158 = .ok (.bipush 8, 2) := by decide +kernel
theorem dL_law_160 : decode cL_law 160 = .ok (.invokestatic 25, 3) := by decide +kernel
theorem dL_law_163 : decode cL_law 163 = .ok (.iadd, 1) := by decide +kernel
theorem dL_law_164 : decode cL_law 164 = .ok (.if_icmp .ge 48, 3) := by decide +kernel
theorem dL_law_167 : decode cL_law 167 = .ok (.aload_n 2, 1) := by decide +kernel
theorem dL_law_168 : decode cL_law 168 = .ok (.aload_n 1, 1) := by decide +kernel
theorem dL_law_169 : decode cL_law 169 = .ok (.iload 4, 2) := by decide +kernel
theorem dL_law_171 : decode cL_law 171 = .ok (.aload_n 0, 1) := by decide +kernel
theorem dL_law_172 : decode cL_law 172 = .ok (.iconst 5, 1) := by decide +kernel
theorem dL_law_173 : decode cL_law 173 = .ok (.iload 4, 2) := by decide +kernel
theorem dL_law_175 : decode cL_law 175 = .ok (.bipush 7, 2) := by decide +kernel
theorem dL_law_177 : decode cL_law 177 = .ok (.imul, 1) := by decide +kernel
theorem dL_law_178 : decode cL_law 178 = .ok (.iload 5, 2) := by decide +kernel
theorem dL_law_180 : decode cL_law 180 = .ok (.iadd, 1) := by decide +kernel
theorem dL_law_181 : decode cL_law 181 = .ok (.bipush 21, 2) := by decide +kernel
theorem dL_law_183 : decode cL_law 183 = .ok (.irem, 1) := by decide +kernel
theorem dL_law_184 : decode cL_law 184 = .ok (.iadd, 1) := by decide +kernel
theorem dL_law_185 : decode cL_law 185 = .ok (.invokestatic 19, 3) := by decide +kernel
theorem dL_law_188 : decode cL_law 188 = .ok (.iload 4, 2) := by decide +kernel
theorem dL_law_190 : decode cL_law 190 = .ok (.iload 5, 2) := by decide +kernel
theorem dL_law_192 : decode cL_law 192 = .ok (.iadd, 1) := by decide +kernel
theorem dL_law_193 : decode cL_law 193 = .ok (.bipush 6, 2) := by decide +kernel
theorem dL_law_195 : decode cL_law 195 = .ok (.irem, 1) := by decide +kernel
theorem dL_law_196 : decode cL_law 196 = .ok (.ishr, 1) := by decide +kernel
theorem dL_law_197 : decode cL_law 197 = .ok (.aload_n 3, 1) := by decide +kernel
theorem dL_law_198 : decode cL_law 198 = .ok (.invokevirtual 29, 3) := by decide +kernel
theorem dL_law_201 : decode cL_law 201 = .ok (.ifCond .ne 5, 3) := by decide +kernel
theorem dL_law_204 : decode cL_law 204 = .ok (.iconst 0, 1) := by decide +kernel
theorem dL_law_205 : decode cL_law 205 = .ok (.ireturn, 1) := by decide +kernel
theorem dL_law_206 : decode cL_law 206 = .ok (.iinc 5 1, 3) := by decide +kernel
theorem dL_law_209 : decode cL_law 209 = .ok (.goto (-60), 3) := by decide +kernel
theorem dL_law_212 : decode cL_law 212 = .ok (.iinc 4 1, 3) := by decide +kernel
theorem dL_law_215 : decode cL_law 215 = .ok (.goto (-85), 3) := by decide +kernel
theorem dL_law_218 : decode cL_law 218 = .ok (.bipush 24, 2) := by decide +kernel
theorem dL_law_220 : decode cL_law 220 = .ok (.iconst 2, 1) := by decide +kernel
theorem dL_law_221 : decode cL_law 221 = .ok (.multianewarray 33 2, 4) := by decide +kernel
theorem dL_law_225 : decode cL_law 225 = .ok (.astore 4, 2) := by decide +kernel
theorem dL_law_227 : decode cL_law 227 = .ok (.iconst 0, 1) := by decide +kernel
theorem dL_law_228 : decode cL_law 228 = .ok (.istore 5, 2) := by decide +kernel
theorem dL_law_230 : decode cL_law 230 = .ok (.iload 5, 2) := by decide +kernel
theorem dL_law_232 : decode cL_law 232 = .ok (.bipush 54, 2) := by decide +kernel
theorem dL_law_234 : decode cL_law 234 = .ok (.if_icmp .ge 182, 3) := by decide +kernel
theorem dL_law_237 : decode cL_law 237 = .ok (.aload_n 0, 1) := by decide +kernel
theorem dL_law_238 : decode cL_law 238 = .ok (.iconst 3, 1) := by decide +kernel
theorem dL_law_239 : decode cL_law 239 = .ok (.iload 5, 2) := by decide +kernel
theorem dL_law_241 : decode cL_law 241 = .ok (.bipush 26, 2) := by decide +kernel
theorem dL_law_243 : decode cL_law 243 = .ok (.irem, 1) := by decide +kernel
theorem dL_law_244 : decode cL_law 244 = .ok (.iadd, 1) := by decide +kernel
theorem dL_law_245 : decode cL_law 245 = .ok (.invokestatic 19, 3) := by decide +kernel
theorem dL_law_248 : decode cL_law 248 = .ok (.iload 5, 2) := by decide +kernel
theorem dL_law_250 : decode cL_law 250 = .ok (.bipush 26, 2) := by decide +kernel
theorem dL_law_252 : decode cL_law 252 = .ok (.idiv, 1) := by decide +kernel
theorem dL_law_253 : decode cL_law 253 = .ok (.bipush 9, 2) := by decide +kernel
theorem dL_law_255 : decode cL_law 255 = .ok (.imul, 1) := by decide +kernel
theorem dL_law_256 : decode cL_law 256 = .ok (.ishr, 1) := by decide +kernel
theorem dL_law_257 : decode cL_law 257 = .ok (.istore 6, 2) := by decide +kernel
theorem dL_law_259 : decode cL_law 259 = .ok (.aload_n 1, 1) := by decide +kernel
theorem dL_law_260 : decode cL_law 260 = .ok (.iload 6, 2) := by decide +kernel
theorem dL_law_262 : decode cL_law 262 = .ok (.invokestatic 35, 3) := by decide +kernel
theorem dL_law_265 : decode cL_law 265 = .ok (.ifCond .ne 5, 3) := by decide +kernel
theorem dL_law_268 : decode cL_law 268 = .ok (.iconst 0, 1) := by decide +kernel
theorem dL_law_269 : decode cL_law 269 = .ok (.ireturn, 1) := by decide +kernel
theorem dL_law_270 : decode cL_law 270 = .ok (.iconst 0, 1) := by decide +kernel
theorem dL_law_271 : decode cL_law 271 = .ok (.istore 7, 2) := by decide +kernel
theorem dL_law_273 : decode cL_law 273 = .ok (.iload 7, 2) := by decide +kernel
theorem dL_law_275 : decode cL_law 275 = .ok (.aload_n 1, 1) := by decide +kernel
theorem dL_law_276 : decode cL_law 276 = .ok (.iconst 1, 1) := by decide +kernel
theorem dL_law_277 : decode cL_law 277 = .ok (.invokevirtual 39, 3) := by decide +kernel
theorem dL_law_280 : decode cL_law 280 = .ok (.if_icmp .ge 84, 3) := by decide +kernel
theorem dL_law_283 : decode cL_law 283 = .ok (.aload 4, 2) := by decide +kernel
theorem dL_law_285 : decode cL_law 285 = .ok (.iload 7, 2) := by decide +kernel
theorem dL_law_287 : decode cL_law 287 = .ok (.aaload, 1) := by decide +kernel
theorem dL_law_288 : decode cL_law 288 = .ok (.iconst 0, 1) := by decide +kernel
theorem dL_law_289 : decode cL_law 289 = .ok (.iaload, 1) := by decide +kernel
theorem dL_law_290 : decode cL_law 290 = .ok (.iconst 2, 1) := by decide +kernel
theorem dL_law_291 : decode cL_law 291 = .ok (.if_icmp .le 39, 3) := by decide +kernel
theorem dL_law_294 : decode cL_law 294 = .ok (.aload_n 1, 1) := by decide +kernel
theorem dL_law_295 : decode cL_law 295 = .ok (.iload 7, 2) := by decide +kernel
theorem dL_law_297 : decode cL_law 297 = .ok (.iconst 1, 1) := by decide +kernel
theorem dL_law_298 : decode cL_law 298 = .ok (.invokevirtual 43, 3) := by decide +kernel
theorem dL_law_301 : decode cL_law 301 = .ok (.aload 4, 2) := by decide +kernel
theorem dL_law_303 : decode cL_law 303 = .ok (.iload 7, 2) := by decide +kernel
theorem dL_law_305 : decode cL_law 305 = .ok (.aaload, 1) := by decide +kernel
theorem dL_law_306 : decode cL_law 306 = .ok (.iconst 0, 1) := by decide +kernel
theorem dL_law_307 : decode cL_law 307 = .ok (.iaload, 1) := by decide +kernel
theorem dL_law_308 : decode cL_law 308 = .ok (.if_icmp .ne 20, 3) := by decide +kernel
theorem dL_law_311 : decode cL_law 311 = .ok (.aload_n 1, 1) := by decide +kernel
theorem dL_law_312 : decode cL_law 312 = .ok (.iload 7, 2) := by decide +kernel
theorem dL_law_314 : decode cL_law 314 = .ok (.iconst 4, 1) := by decide +kernel
theorem dL_law_315 : decode cL_law 315 = .ok (.invokevirtual 43, 3) := by decide +kernel
theorem dL_law_318 : decode cL_law 318 = .ok (.aload 4, 2) := by decide +kernel
theorem dL_law_320 : decode cL_law 320 = .ok (.iload 7, 2) := by decide +kernel
theorem dL_law_322 : decode cL_law 322 = .ok (.aaload, 1) := by decide +kernel
theorem dL_law_323 : decode cL_law 323 = .ok (.iconst 1, 1) := by decide +kernel
theorem dL_law_324 : decode cL_law 324 = .ok (.iaload, 1) := by decide +kernel
theorem dL_law_325 : decode cL_law 325 = .ok (.if_icmp .eq 5, 3) := by decide +kernel
theorem dL_law_328 : decode cL_law 328 = .ok (.iconst 0, 1) := by decide +kernel
theorem dL_law_329 : decode cL_law 329 = .ok (.ireturn, 1) := by decide +kernel
theorem dL_law_330 : decode cL_law 330 = .ok (.aload 4, 2) := by decide +kernel
theorem dL_law_332 : decode cL_law 332 = .ok (.iload 7, 2) := by decide +kernel
theorem dL_law_334 : decode cL_law 334 = .ok (.aaload, 1) := by decide +kernel
theorem dL_law_335 : decode cL_law 335 = .ok (.iconst 0, 1) := by decide +kernel
theorem dL_law_336 : decode cL_law 336 = .ok (.aload_n 1, 1) := by decide +kernel
theorem dL_law_337 : decode cL_law 337 = .ok (.iload 7, 2) := by decide +kernel
theorem dL_law_339 : decode cL_law 339 = .ok (.iconst 1, 1) := by decide +kernel
theorem dL_law_340 : decode cL_law 340 = .ok (.invokevirtual 43, 3) := by decide +kernel
theorem dL_law_343 : decode cL_law 343 = .ok (.iastore, 1) := by decide +kernel
theorem dL_law_344 : decode cL_law 344 = .ok (.aload 4, 2) := by decide +kernel
theorem dL_law_346 : decode cL_law 346 = .ok (.iload 7, 2) := by decide +kernel
theorem dL_law_348 : decode cL_law 348 = .ok (.aaload, 1) := by decide +kernel
theorem dL_law_349 : decode cL_law 349 = .ok (.iconst 1, 1) := by decide +kernel
theorem dL_law_350 : decode cL_law 350 = .ok (.aload_n 1, 1) := by decide +kernel
theorem dL_law_351 : decode cL_law 351 = .ok (.iload 7, 2) := by decide +kernel
theorem dL_law_353 : decode cL_law 353 = .ok (.iconst 4, 1) := by decide +kernel
theorem dL_law_354 : decode cL_law 354 = .ok (.invokevirtual 43, 3) := by decide +kernel
theorem dL_law_357 : decode cL_law 357 = .ok (.iastore, 1) := by decide +kernel
theorem dL_law_358 : decode cL_law 358 = .ok (.iinc 7 1, 3) := by decide +kernel
theorem dL_law_361 : decode cL_law 361 = .ok (.goto (-88), 3) := by decide +kernel
theorem dL_law_364 : decode cL_law 364 = .ok (.iload 5, 2) := by decide +kernel
theorem dL_law_366 : decode cL_law 366 = .ok (.bipush 18, 2) := by decide +kernel
theorem dL_law_368 : decode cL_law 368 = .ok (.irem, 1) := by decide +kernel
theorem dL_law_369 : decode cL_law 369 = .ok (.bipush 17, 2) := by decide +kernel
theorem dL_law_371 : decode cL_law 371 = .ok (.if_icmp .eq 6, 3) := by decide +kernel
theorem dL_law_374 : decode cL_law 374 = .ok (.goto 36, 3) := by decide +kernel
theorem dL_law_377 : decode cL_law 377 = .ok (.aload_n 1, 1) := by decide +kernel
theorem dL_law_378 : decode cL_law 378 = .ok (.invokevirtual 46, 3) := by decide +kernel
theorem dL_law_381 : decode cL_law 381 = .ok (.lstore 7, 2) := by decide +kernel
theorem dL_law_383 : decode cL_law 383 = .ok (.aload_n 1, 1) := by decide +kernel
theorem dL_law_384 : decode cL_law 384 = .ok (.aload_n 2, 1) := by decide +kernel
theorem dL_law_385 : decode cL_law 385 = .ok (.invokestatic 50, 3) := by decide +kernel
theorem dL_law_388 : decode cL_law 388 = .ok (.ifCond .eq 20, 3) := by decide +kernel
theorem dL_law_391 : decode cL_law 391 = .ok (.aload_n 1, 1) := by decide +kernel
theorem dL_law_392 : decode cL_law 392 = .ok (.invokestatic 54, 3) := by decide +kernel
theorem dL_law_395 : decode cL_law 395 = .ok (.ifCond .eq 13, 3) := by decide +kernel
theorem dL_law_398 : decode cL_law 398 = .ok (.aload_n 1, 1) := by decide +kernel
theorem dL_law_399 : decode cL_law 399 = .ok (.invokevirtual 46, 3) := by decide +kernel
theorem dL_law_402 : decode cL_law 402 = .ok (.lload 7, 2) := by decide +kernel
theorem dL_law_404 : decode cL_law 404 = .ok (.lcmp, 1) := by decide +kernel
theorem dL_law_405 : decode cL_law 405 = .ok (.ifCond .eq 5, 3) := by decide +kernel
theorem dL_law_408 : decode cL_law 408 = .ok (.iconst 0, 1) := by decide +kernel
theorem dL_law_409 : decode cL_law 409 = .ok (.ireturn, 1) := by decide +kernel
theorem dL_law_410 : decode cL_law 410 = .ok (.iinc 5 1, 3) := by decide +kernel
theorem dL_law_413 : decode cL_law 413 = .ok (.goto (-183), 3) := by decide +kernel
theorem dL_law_416 : decode cL_law 416 = .ok (.iconst 1, 1) := by decide +kernel
theorem dL_law_417 : decode cL_law 417 = .ok (.ireturn, 1) := by decide +kernel
theorem dL_act_0 : decode cL_act 0 = .ok (.aload_n 0, 1) := by decide +kernel
theorem dL_act_1 : decode cL_act 1 = .ok (.iconst 1, 1) := by decide +kernel
theorem dL_act_2 : decode cL_act 2 = .ok (.invokevirtual 39, 3) := by decide +kernel
theorem dL_act_5 : decode cL_act 5 = .ok (.istore_n 2, 1) := by decide +kernel
theorem dL_act_6 : decode cL_act 6 = .ok (.iload_n 1, 1) := by decide +kernel
theorem dL_act_7 : decode cL_act 7 = .ok (.iconst 4, 1) := by decide +kernel
theorem dL_act_8 : decode cL_act 8 = .ok (.ishr, 1) := by decide +kernel
theorem dL_act_9 : decode cL_act 9 = .ok (.iconst 1, 1) := by decide +kernel
theorem dL_act_10 : decode cL_act 10 = .ok (.iload_n 2, 1) := by decide +kernel
theorem dL_act_11 : decode cL_act 11 = .ok (.invokestatic 57, 3) := by decide +kernel
theorem dL_act_14 : decode cL_act 14 = .ok (.invokestatic 25, 3) := by decide +kernel
theorem dL_act_17 : decode cL_act 17 = .ok (.istore_n 3, 1) := by decide +kernel
theorem dL_act_18 : decode cL_act 18 = .ok (.iload_n 1, 1) := by decide +kernel
theorem dL_act_19 : decode cL_act 19 = .ok (.bipush 14, 2) := by decide +kernel
theorem dL_act_21 : decode cL_act 21 = .ok (.invokestatic 25, 3) := by decide +kernel
theorem dL_act_24 : decode cL_act 24 = .ok (.tableswitch 450 0 11 #[64, 103, 103, 141, 141, 141, 196, 218, 295, 295, 295, 378], 64) := by decide +kernel
theorem dL_act_88 : decode cL_act 88 = .ok (.aload_n 0, 1) := by decide +kernel
theorem dL_act_89 : decode cL_act 89 = .ok (.iload_n 1, 1) := by decide +kernel
theorem dL_act_90 : decode cL_act 90 = .ok (.iconst 4, 1) := by decide +kernel
theorem dL_act_91 : decode cL_act 91 = .ok (.ishr, 1) := by decide +kernel
theorem dL_act_92 : decode cL_act 92 = .ok (.iconst 5, 1) := by decide +kernel
theorem dL_act_93 : decode cL_act 93 = .ok (.invokestatic 25, 3) := by decide +kernel
theorem dL_act_96 : decode cL_act 96 = .ok (.invokevirtual 62, 3) := by decide +kernel
theorem dL_act_99 : decode cL_act 99 = .ok (.iload_n 2, 1) := by decide +kernel
theorem dL_act_100 : decode cL_act 100 = .ok (.if_icmp .ne 25, 3) := by decide +kernel
theorem dL_act_103 : decode cL_act 103 = .ok (.aload_n 0, 1) := by decide +kernel
theorem dL_act_104 : decode cL_act 104 = .ok (.iload_n 2, 1) := by decide +kernel
theorem dL_act_105 : decode cL_act 105 = .ok (.iconst 2, 1) := by decide +kernel
theorem dL_act_106 : decode cL_act 106 = .ok (.invokevirtual 43, 3) := by decide +kernel
theorem dL_act_109 : decode cL_act 109 = .ok (.ifCond .ne 16, 3) := by decide +kernel
theorem dL_act_112 : decode cL_act 112 = .ok (.aload_n 0, 1) := by decide +kernel
theorem dL_act_113 : decode cL_act 113 = .ok (.iload_n 2, 1) := by decide +kernel
theorem dL_act_114 : decode cL_act 114 = .ok (.iconst 1, 1) := by decide +kernel
theorem dL_act_115 : decode cL_act 115 = .ok (.invokevirtual 43, 3) := by decide +kernel
theorem dL_act_118 : decode cL_act 118 = .ok (.ifCond .ne 7, 3) := by decide +kernel
theorem dL_act_121 : decode cL_act 121 = .ok (.iconst 1, 1) := by decide +kernel
theorem dL_act_122 : decode cL_act 122 = .ok (.goto 4, 3) := by decide +kernel
theorem dL_act_125 : decode cL_act 125 = .ok (.iconst 0, 1) := by decide +kernel
theorem dL_act_126 : decode cL_act 126 = .ok (.ireturn, 1) := by decide +kernel
theorem dL_act_127 : decode cL_act 127 = .ok (.aload_n 0, 1) := by decide +kernel
theorem dL_act_128 : decode cL_act 128 = .ok (.iload_n 1, 1) := by decide +kernel
theorem dL_act_129 : decode cL_act 129 = .ok (.iconst 4, 1) := by decide +kernel
theorem dL_act_130 : decode cL_act 130 = .ok (.ishr, 1) := by decide +kernel
theorem dL_act_131 : decode cL_act 131 = .ok (.iconst 5, 1) := by decide +kernel
theorem dL_act_132 : decode cL_act 132 = .ok (.invokestatic 25, 3) := by decide +kernel
theorem dL_act_135 : decode cL_act 135 = .ok (.invokevirtual 65, 3) := by decide +kernel
theorem dL_act_138 : decode cL_act 138 = .ok (.iload_n 2, 1) := by decide +kernel
theorem dL_act_139 : decode cL_act 139 = .ok (.if_icmp .ne 24, 3) := by decide +kernel
theorem dL_act_142 : decode cL_act 142 = .ok (.aload_n 0, 1) := by decide +kernel
theorem dL_act_143 : decode cL_act 143 = .ok (.iload_n 2, 1) := by decide +kernel
theorem dL_act_144 : decode cL_act 144 = .ok (.iconst 0, 1) := by decide +kernel
theorem dL_act_145 : decode cL_act 145 = .ok (.invokevirtual 68, 3) := by decide +kernel
theorem dL_act_148 : decode cL_act 148 = .ok (.aload_n 0, 1) := by decide +kernel
theorem dL_act_149 : decode cL_act 149 = .ok (.bipush 8, 2) := by decide +kernel
theorem dL_act_151 : decode cL_act 151 = .ok (.invokevirtual 39, 3) := by decide +kernel
theorem dL_act_154 : decode cL_act 154 = .ok (.iconst 1, 1) := by decide +kernel
theorem dL_act_155 : decode cL_act 155 = .ok (.isub, 1) := by decide +kernel
theorem dL_act_156 : decode cL_act 156 = .ok (.if_icmp .ne 7, 3) := by decide +kernel
theorem dL_act_159 : decode cL_act 159 = .ok (.iconst 1, 1) := by decide +kernel
theorem dL_act_160 : decode cL_act 160 = .ok (.goto 4, 3) := by decide +kernel
theorem dL_act_163 : decode cL_act 163 = .ok (.iconst 0, 1) := by decide +kernel
theorem dL_act_164 : decode cL_act 164 = .ok (.ireturn, 1) := by decide +kernel
theorem dL_act_165 : decode cL_act 165 = .ok (.iload_n 1, 1) := by decide +kernel
theorem dL_act_166 : decode cL_act 166 = .ok (.bipush 6, 2) := by decide +kernel
theorem dL_act_168 : decode cL_act 168 = .ok (.ishr, 1) := by decide +kernel
theorem dL_act_169 : decode cL_act 169 = .ok (.bipush 99, 2) := by decide +kernel
theorem dL_act_171 : decode cL_act 171 = .ok (.invokestatic 25, 3) := by decide +kernel
theorem dL_act_174 : decode cL_act 174 = .ok (.bipush 30, 2) := by decide +kernel
theorem dL_act_176 : decode cL_act 176 = .ok (.isub, 1) := by decide +kernel
theorem dL_act_177 : decode cL_act 177 = .ok (.istore 4, 2) := by decide +kernel
theorem dL_act_179 : decode cL_act 179 = .ok (.aload_n 0, 1) := by decide +kernel
theorem dL_act_180 : decode cL_act 180 = .ok (.iload_n 3, 1) := by decide +kernel
theorem dL_act_181 : decode cL_act 181 = .ok (.iload 4, 2) := by decide +kernel
theorem dL_act_183 : decode cL_act 183 = .ok (.invokevirtual 71, 3) := by decide +kernel
theorem dL_act_186 : decode cL_act 186 = .ok (.istore 5, 2) := by decide +kernel
theorem dL_act_188 : decode cL_act 188 = .ok (.aload_n 0, 1) := by decide +kernel
theorem dL_act_189 : decode cL_act 189 = .ok (.iload_n 3, 1) := by decide +kernel
theorem dL_act_190 : decode cL_act 190 = .ok (.iload 4, 2) := by decide +kernel
theorem dL_act_192 : decode cL_act 192 = .ok (.invokevirtual 74, 3) := by decide +kernel
theorem dL_act_195 : decode cL_act 195 = .ok (.istore 6, 2) := by decide +kernel
theorem dL_act_197 : decode cL_act 197 = .ok (.iload 6, 2) := by decide +kernel
theorem dL_act_199 : decode cL_act 199 = .ok (.iload 5, 2) := by decide +kernel
theorem dL_act_201 : decode cL_act 201 = .ok (.if_icmp .ne 17, 3) := by decide +kernel
theorem dL_act_204 : decode cL_act 204 = .ok (.aload_n 0, 1) := by decide +kernel
theorem dL_act_205 : decode cL_act 205 = .ok (.iload_n 3, 1) := by decide +kernel
theorem dL_act_206 : decode cL_act 206 = .ok (.iload 6, 2) := by decide +kernel
theorem dL_act_208 : decode cL_act 208 = .ok (.invokestatic 77, 3) := by decide +kernel
theorem dL_act_211 : decode cL_act 211 = .ok (.ifCond .eq 7, 3) := by decide +kernel
theorem dL_act_214 : decode cL_act 214 = .ok (.iconst 1, 1) := by decide +kernel
theorem dL_act_215 : decode cL_act 215 = .ok (.goto 4, 3) := by decide +kernel
theorem dL_act_218 : decode cL_act 218 = .ok (.iconst 0, 1) := by decide +kernel
theorem dL_act_219 : decode cL_act 219 = .ok (.ireturn, 1) := by decide +kernel
theorem dL_act_220 : decode cL_act 220 = .ok (.aload_n 0, 1) := by decide +kernel
theorem dL_act_221 : decode cL_act 221 = .ok (.iload_n 3, 1) := by decide +kernel
theorem dL_act_222 : decode cL_act 222 = .ok (.aload_n 0, 1) := by decide +kernel
theorem dL_act_223 : decode cL_act 223 = .ok (.iload_n 3, 1) := by decide +kernel
theorem dL_act_224 : decode cL_act 224 = .ok (.iconst 1, 1) := by decide +kernel
theorem dL_act_225 : decode cL_act 225 = .ok (.iload_n 1, 1) := by decide +kernel
theorem dL_act_226 : decode cL_act 226 = .ok (.bipush 6, 2) := by decide +kernel
theorem dL_act_228 : decode cL_act 228 = .ok (.ishr, 1) := by decide +kernel
theorem dL_act_229 : decode cL_act 229 = .ok (.bipush 7, 2) := by decide +kernel
theorem dL_act_231 : decode cL_act 231 = .ok (.invokestatic 25, 3) := by decide +kernel
theorem dL_act_234 : decode cL_act 234 = .ok (.iadd, 1) := by decide +kernel
theorem dL_act_235 : decode cL_act 235 = .ok (.invokevirtual 81, 3) := by decide +kernel
theorem dL_act_238 : decode cL_act 238 = .ok (.invokestatic 77, 3) := by decide +kernel
theorem dL_act_241 : decode cL_act 241 = .ok (.ireturn, 1) := by decide +kernel
theorem dL_act_242 : decode cL_act 242 = .ok (.aload_n 0, 1) := by decide +kernel
theorem dL_act_243 : decode cL_act 243 = .ok (.iload_n 3, 1) := by decide +kernel
theorem dL_act_244 : decode cL_act 244 = .ok (.invokevirtual 84, 3) := by decide +kernel
theorem dL_act_247 : decode cL_act 247 = .ok (.istore 7, 2) := by decide +kernel
theorem dL_act_249 : decode cL_act 249 = .ok (.aload_n 0, 1) := by decide +kernel
theorem dL_act_250 : decode cL_act 250 = .ok (.iload_n 3, 1) := by decide +kernel
theorem dL_act_251 : decode cL_act 251 = .ok (.invokevirtual 87, 3) := by decide +kernel
theorem dL_act_254 : decode cL_act 254 = .ok (.iload 7, 2) := by decide +kernel
theorem dL_act_256 : decode cL_act 256 = .ok (.if_icmp .ne 61, 3) := by decide +kernel
theorem dL_act_259 : decode cL_act 259 = .ok (.aload_n 0, 1) := by decide +kernel
theorem dL_act_260 : decode cL_act 260 = .ok (.iload_n 3, 1) := by decide +kernel
theorem dL_act_261 : decode cL_act 261 = .ok (.iconst 1, 1) := by decide +kernel
theorem dL_act_262 : decode cL_act 262 = .ok (.invokevirtual 43, 3) := by decide +kernel
theorem dL_act_265 : decode cL_act 265 = .ok (.iconst 1, 1) := by decide +kernel
theorem dL_act_266 : decode cL_act 266 = .ok (.if_icmp .ne 13, 3) := by decide +kernel
theorem dL_act_269 : decode cL_act 269 = .ok (.iload 7, 2) := by decide +kernel
theorem dL_act_271 : decode cL_act 271 = .ok (.bipush 8, 2) := by decide +kernel
theorem dL_act_273 : decode cL_act 273 = .ok (.if_icmp .ne 44, 3) := by decide +kernel
theorem dL_act_276 : decode cL_act 276 = .ok (.goto 37, 3) := by decide +kernel
theorem dL_act_279 : decode cL_act 279 = .ok (.aload_n 0, 1) := by decide +kernel
theorem dL_act_280 : decode cL_act 280 = .ok (.iload_n 3, 1) := by decide +kernel
theorem dL_act_281 : decode cL_act 281 = .ok (.iconst 1, 1) := by decide +kernel
theorem dL_act_282 : decode cL_act 282 = .ok (.invokevirtual 43, 3) := by decide +kernel
theorem dL_act_285 : decode cL_act 285 = .ok (.iconst 3, 1) := by decide +kernel
theorem dL_act_286 : decode cL_act 286 = .ok (.if_icmp .ne 11, 3) := by decide +kernel
theorem dL_act_289 : decode cL_act 289 = .ok (.iload 7, 2) := by decide +kernel
theorem dL_act_291 : decode cL_act 291 = .ok (.ifCond .ne 26, 3) := by decide +kernel
theorem dL_act_294 : decode cL_act 294 = .ok (.goto 19, 3) := by decide +kernel
theorem dL_act_297 : decode cL_act 297 = .ok (.aload_n 0, 1) := by decide +kernel
theorem dL_act_298 : decode cL_act 298 = .ok (.iload_n 3, 1) := by decide +kernel
theorem dL_act_299 : decode cL_act 299 = .ok (.iconst 4, 1) := by decide +kernel
theorem dL_act_300 : decode cL_act 300 = .ok (.invokevirtual 43, 3) := by decide +kernel
theorem dL_act_303 : decode cL_act 303 = .ok (.iload 7, 2) := by decide +kernel
theorem dL_act_305 : decode cL_act 305 = .ok (.if_icmp .eq 8, 3) := by decide +kernel
theorem dL_act_308 : decode cL_act 308 = .ok (.iload 7, 2) := by decide +kernel
theorem dL_act_310 : decode cL_act 310 = .ok (.ifCond .ne 7, 3) := by decide +kernel
theorem dL_act_313 : decode cL_act 313 = .ok (.iconst 1, 1) := by decide +kernel
theorem dL_act_314 : decode cL_act 314 = .ok (.goto 4, 3) := by decide +kernel
theorem dL_act_317 : decode cL_act 317 = .ok (.iconst 0, 1) := by decide +kernel
theorem dL_act_318 : decode cL_act 318 = .ok (.ireturn, 1) := by decide +kernel
theorem dL_act_319 : decode cL_act 319 = .ok (.aload_n 0, 1) := by decide +kernel
theorem dL_act_320 : decode cL_act 320 = .ok (.bipush 11, 2) := by decide +kernel
theorem dL_act_322 : decode cL_act 322 = .ok (.invokevirtual 39, 3) := by decide +kernel
theorem dL_act_325 : decode cL_act 325 = .ok (.istore 8, 2) := by decide +kernel
theorem dL_act_327 : decode cL_act 327 = .ok (.aload_n 0, 1) := by decide +kernel
theorem dL_act_328 : decode cL_act 328 = .ok (.iconst 1, 1) := by decide +kernel
theorem dL_act_329 : decode cL_act 329 = .ok (.iload_n 1, 1) := by decide +kernel
theorem dL_act_330 : decode cL_act 330 = .ok (.iconst 4, 1) := by decide +kernel
theorem dL_act_331 : decode cL_act 331 = .ok (.ishr, 1) := by decide +kernel
theorem dL_act_332 : decode cL_act 332 = .ok (.bipush 12, 2) := by decide +kernel
theorem dL_act_334 : decode cL_act 334 = .ok (.invokestatic 25, 3) := by decide +kernel
theorem dL_act_337 : decode cL_act 337 = .ok (.iadd, 1) := by decide +kernel
theorem dL_act_338 : decode cL_act 338 = .ok (.invokevirtual 90, 3) := by decide +kernel
theorem dL_act_341 : decode cL_act 341 = .ok (.istore 9, 2) := by decide +kernel
theorem dL_act_343 : decode cL_act 343 = .ok (.aload_n 0, 1) := by decide +kernel
theorem dL_act_344 : decode cL_act 344 = .ok (.bipush 11, 2) := by decide +kernel
theorem dL_act_346 : decode cL_act 346 = .ok (.invokevirtual 39, 3) := by decide +kernel
theorem dL_act_349 : decode cL_act 349 = .ok (.iload 8, 2) := by decide +kernel
theorem dL_act_351 : decode cL_act 351 = .ok (.iload 9, 2) := by decide +kernel
theorem dL_act_353 : decode cL_act 353 = .ok (.iadd, 1) := by decide +kernel
theorem dL_act_354 : decode cL_act 354 = .ok (.if_icmp .ne 46, 3) := by decide +kernel
theorem dL_act_357 : decode cL_act 357 = .ok (.iload 9, 2) := by decide +kernel
theorem dL_act_359 : decode cL_act 359 = .ok (.iconst 1, 1) := by decide +kernel
theorem dL_act_360 : decode cL_act 360 = .ok (.iload_n 1, 1) := by decide +kernel
theorem dL_act_361 : decode cL_act 361 = .ok (.iconst 4, 1) := by decide +kernel
theorem dL_act_362 : decode cL_act 362 = .ok (.ishr, 1) := by decide +kernel
theorem dL_act_363 : decode cL_act 363 = .ok (.bipush 12, 2) := by decide +kernel
theorem dL_act_365 : decode cL_act 365 = .ok (.invokestatic 25, 3) := by decide +kernel
theorem dL_act_368 : decode cL_act 368 = .ok (.iadd, 1) := by decide +kernel
theorem dL_act_369 : decode cL_act 369 = .ok (.if_icmp .gt 31, 3) := by decide +kernel
theorem dL_act_372 : decode cL_act 372 = .ok (.iload 9, 2) := by decide +kernel
theorem dL_act_374 : decode cL_act 374 = .ok (.iconst 1, 1) := by decide +kernel
theorem dL_act_375 : decode cL_act 375 = .ok (.iload_n 1, 1) := by decide +kernel
theorem dL_act_376 : decode cL_act 376 = .ok (.iconst 4, 1) := by decide +kernel
theorem dL_act_377 : decode cL_act 377 = .ok (.ishr, 1) := by decide +kernel
theorem dL_act_378 : decode cL_act 378 = .ok (.bipush 12, 2) := by decide +kernel
theorem dL_act_380 : decode cL_act 380 = .ok (.invokestatic 25, 3) := by decide +kernel
theorem dL_act_383 : decode cL_act 383 = .ok (.iadd, 1) := by decide +kernel
theorem dL_act_384 : decode cL_act 384 = .ok (.if_icmp .eq 12, 3) := by decide +kernel
theorem dL_act_387 : decode cL_act 387 = .ok (.aload_n 0, 1) := by decide +kernel
theorem dL_act_388 : decode cL_act 388 = .ok (.bipush 8, 2) := by decide +kernel
theorem dL_act_390 : decode cL_act 390 = .ok (.invokevirtual 39, 3) := by decide +kernel
theorem dL_act_393 : decode cL_act 393 = .ok (.ifCond .ne 7, 3) := by decide +kernel
theorem dL_act_396 : decode cL_act 396 = .ok (.iconst 1, 1) := by decide +kernel
theorem dL_act_397 : decode cL_act 397 = .ok (.goto 4, 3) := by decide +kernel
theorem dL_act_400 : decode cL_act 400 = .ok (.iconst 0, 1) := by decide +kernel
theorem dL_act_401 : decode cL_act 401 = .ok (.ireturn, 1) := by decide +kernel
theorem dL_act_402 : decode cL_act 402 = .ok (.aload_n 0, 1) := by decide +kernel
theorem dL_act_403 : decode cL_act 403 = .ok (.bipush 9, 2) := by decide +kernel
theorem dL_act_405 : decode cL_act 405 = .ok (.invokevirtual 39, 3) := by decide +kernel
theorem dL_act_408 : decode cL_act 408 = .ok (.istore 10, 2) := by decide +kernel
theorem dL_act_410 : decode cL_act 410 = .ok (.aload_n 0, 1) := by decide +kernel
theorem dL_act_411 : decode cL_act 411 = .ok (.bipush 8, 2) := by decide +kernel
theorem dL_act_413 : decode cL_act 413 = .ok (.invokevirtual 39, 3) := by decide +kernel
theorem dL_act_416 : decode cL_act 416 = .ok (.istore 11, 2) := by decide +kernel
theorem dL_act_418 : decode cL_act 418 = .ok (.aload_n 0, 1) := by decide +kernel
theorem dL_act_419 : decode cL_act 419 = .ok (.iconst 1, 1) := by decide +kernel
theorem dL_act_420 : decode cL_act 420 = .ok (.iload_n 1, 1) := by decide +kernel
theorem dL_act_421 : decode cL_act 421 = .ok (.iconst 4, 1) := by decide +kernel
theorem dL_act_422 : decode cL_act 422 = .ok (.ishr, 1) := by decide +kernel
theorem dL_act_423 : decode cL_act 423 = .ok (.iconst 4, 1) := by decide +kernel
theorem dL_act_424 : decode cL_act 424 = .ok (.invokestatic 25, 3) := by decide +kernel
theorem dL_act_427 : decode cL_act 427 = .ok (.iadd, 1) := by decide +kernel
theorem dL_act_428 : decode cL_act 428 = .ok (.invokevirtual 93, 3) := by decide +kernel
theorem dL_act_431 : decode cL_act 431 = .ok (.istore 12, 2) := by decide +kernel
theorem dL_act_433 : decode cL_act 433 = .ok (.aload_n 0, 1) := by decide +kernel
theorem dL_act_434 : decode cL_act 434 = .ok (.bipush 9, 2) := by decide +kernel
theorem dL_act_436 : decode cL_act 436 = .ok (.invokevirtual 39, 3) := by decide +kernel
theorem dL_act_439 : decode cL_act 439 = .ok (.iload 10, 2) := by decide +kernel
theorem dL_act_441 : decode cL_act 441 = .ok (.iconst 1, 1) := by decide +kernel
theorem dL_act_442 : decode cL_act 442 = .ok (.iadd, 1) := by decide +kernel
theorem dL_act_443 : decode cL_act 443 = .ok (.iload_n 1, 1) := by decide +kernel
theorem dL_act_444 : decode cL_act 444 = .ok (.iconst 4, 1) := by decide +kernel
theorem dL_act_445 : decode cL_act 445 = .ok (.ishr, 1) := by decide +kernel
theorem dL_act_446 : decode cL_act 446 = .ok (.iconst 4, 1) := by decide +kernel
theorem dL_act_447 : decode cL_act 447 = .ok (.invokestatic 25, 3) := by decide +kernel
theorem dL_act_450 : decode cL_act 450 = .ok (.iadd, 1) := by decide +kernel
theorem dL_act_451 : decode cL_act 451 = .ok (.if_icmp .ne 21, 3) := by decide +kernel
theorem dL_act_454 : decode cL_act 454 = .ok (.aload_n 0, 1) := by decide +kernel
theorem dL_act_455 : decode cL_act 455 = .ok (.bipush 8, 2) := by decide +kernel
theorem dL_act_457 : decode cL_act 457 = .ok (.invokevirtual 39, 3) := by decide +kernel
theorem dL_act_460 : decode cL_act 460 = .ok (.iload 11, 2) := by decide +kernel
theorem dL_act_462 : decode cL_act 462 = .ok (.iload 12, 2) := by decide +kernel
theorem dL_act_464 : decode cL_act 464 = .ok (.iadd, 1) := by decide +kernel
theorem dL_act_465 : decode cL_act 465 = .ok (.if_icmp .ne 7, 3) := by decide +kernel
theorem dL_act_468 : decode cL_act 468 = .ok (.iconst 1, 1) := by decide +kernel
theorem dL_act_469 : decode cL_act 469 = .ok (.goto 4, 3) := by decide +kernel
theorem dL_act_472 : decode cL_act 472 = .ok (.iconst 0, 1) := by decide +kernel
theorem dL_act_473 : decode cL_act 473 = .ok (.ireturn, 1) := by decide +kernel
theorem dL_act_474 : decode cL_act 474 = .ok (.aload_n 0, 1) := by decide +kernel
theorem dL_act_475 : decode cL_act 475 = .ok (.iload_n 3, 1) := by decide +kernel
theorem dL_act_476 : decode cL_act 476 = .ok (.iconst 1, 1) := by decide +kernel
theorem dL_act_477 : decode cL_act 477 = .ok (.invokevirtual 43, 3) := by decide +kernel
theorem dL_act_480 : decode cL_act 480 = .ok (.iconst 2, 1) := by decide +kernel
theorem dL_act_481 : decode cL_act 481 = .ok (.if_icmp .le 7, 3) := by decide +kernel
theorem dL_act_484 : decode cL_act 484 = .ok (.iconst 1, 1) := by decide +kernel
theorem dL_act_485 : decode cL_act 485 = .ok (.goto 4, 3) := by decide +kernel
theorem dL_act_488 : decode cL_act 488 = .ok (.iconst 0, 1) := by decide +kernel
theorem dL_act_489 : decode cL_act 489 = .ok (.istore 13, 2) := by decide +kernel
theorem dL_act_491 : decode cL_act 491 = .ok (.aload_n 0, 1) := by decide +kernel
theorem dL_act_492 : decode cL_act 492 = .ok (.iload_n 3, 1) := by decide +kernel
theorem dL_act_493 : decode cL_act 493 = .ok (.iconst 4, 1) := by decide +kernel
theorem dL_act_494 : decode cL_act 494 = .ok (.invokevirtual 68, 3) := by decide +kernel
theorem dL_act_497 : decode cL_act 497 = .ok (.iconst 1, 1) := by decide +kernel
theorem dL_act_498 : decode cL_act 498 = .ok (.if_icmp .ne 7, 3) := by decide +kernel
theorem dL_act_501 : decode cL_act 501 = .ok (.iconst 1, 1) := by decide +kernel
theorem dL_act_502 : decode cL_act 502 = .ok (.goto 4, 3) := by decide +kernel
theorem dL_act_505 : decode cL_act 505 = .ok (.iconst 0, 1) := by decide +kernel
theorem dL_act_506 : decode cL_act 506 = .ok (.istore 14, 2) := by decide +kernel
theorem dL_act_508 : decode cL_act 508 = .ok (.aload_n 0, 1) := by decide +kernel
theorem dL_act_509 : decode cL_act 509 = .ok (.iload_n 3, 1) := by decide +kernel
theorem dL_act_510 : decode cL_act 510 = .ok (.invokevirtual 96, 3) := by decide +kernel
theorem dL_act_513 : decode cL_act 513 = .ok (.iload 13, 2) := by decide +kernel
theorem dL_act_515 : decode cL_act 515 = .ok (.ifCond .ne 12, 3) := by decide +kernel
theorem dL_act_518 : decode cL_act 518 = .ok (.iload 14, 2) := by decide +kernel
theorem dL_act_520 : decode cL_act 520 = .ok (.ifCond .ne 7, 3) := by decide +kernel
theorem dL_act_523 : decode cL_act 523 = .ok (.iconst 1, 1) := by decide +kernel
theorem dL_act_524 : decode cL_act 524 = .ok (.goto 4, 3) := by decide +kernel
theorem dL_act_527 : decode cL_act 527 = .ok (.iconst 0, 1) := by decide +kernel
theorem dL_act_528 : decode cL_act 528 = .ok (.if_icmp .ne 22, 3) := by decide +kernel
theorem dL_act_531 : decode cL_act 531 = .ok (.iload 13, 2) := by decide +kernel
theorem dL_act_533 : decode cL_act 533 = .ok (.ifCond .ne 13, 3) := by decide +kernel
theorem dL_act_536 : decode cL_act 536 = .ok (.aload_n 0, 1) := by decide +kernel
theorem dL_act_537 : decode cL_act 537 = .ok (.iload_n 3, 1) := by decide +kernel
theorem dL_act_538 : decode cL_act 538 = .ok (.iconst 4, 1) := by decide +kernel
theorem dL_act_539 : decode cL_act 539 = .ok (.invokevirtual 68, 3) := by decide +kernel
theorem dL_act_542 : decode cL_act 542 = .ok (.iconst 1, 1) := by decide +kernel
theorem dL_act_543 : decode cL_act 543 = .ok (.if_icmp .ne 7, 3) := by decide +kernel
theorem dL_act_546 : decode cL_act 546 = .ok (.iconst 1, 1) := by decide +kernel
theorem dL_act_547 : decode cL_act 547 = .ok (.goto 4, 3) := by decide +kernel
theorem dL_act_550 : decode cL_act 550 = .ok (.iconst 0, 1) := by decide +kernel
theorem dL_act_551 : decode cL_act 551 = .ok (.ireturn, 1) := by decide +kernel
theorem dL_act_552 : decode cL_act 552 = .ok (.astore 4, 2) := by decide +kernel
theorem dL_act_554 : decode cL_act 554 = .ok (.iload_n 1, 1) := by decide +kernel
theorem dL_act_555 : decode cL_act 555 = .ok (.bipush 14, 2) := by decide +kernel
theorem dL_act_557 : decode cL_act 557 = .ok (.invokestatic 25, 3) := by decide +kernel
theorem dL_act_560 : decode cL_act 560 = .ok (.iconst 2, 1) := by decide +kernel
theorem dL_act_561 : decode cL_act 561 = .ok (.if_icmp .le 16, 3) := by decide +kernel
theorem dL_act_564 : decode cL_act 564 = .ok (.aload_n 0, 1) := by decide +kernel
theorem dL_act_565 : decode cL_act 565 = .ok (.iconst 1, 1) := by decide +kernel
theorem dL_act_566 : decode cL_act 566 = .ok (.invokevirtual 39, 3) := by decide +kernel
theorem dL_act_569 : decode cL_act 569 = .ok (.iload_n 2, 1) := by decide +kernel
theorem dL_act_570 : decode cL_act 570 = .ok (.if_icmp .ne 7, 3) := by decide +kernel
theorem dL_act_573 : decode cL_act 573 = .ok (.iconst 1, 1) := by decide +kernel
theorem dL_act_574 : decode cL_act 574 = .ok (.goto 4, 3) := by decide +kernel
theorem dL_act_577 : decode cL_act 577 = .ok (.iconst 0, 1) := by decide +kernel
theorem dL_act_578 : decode cL_act 578 = .ok (.ireturn, 1) := by decide +kernel
theorem dL_act_579 : decode cL_act 579 = .ok (.astore 4, 2) := by decide +kernel
theorem dL_act_581 : decode cL_act 581 = .ok (.iload_n 1, 1) := by decide +kernel
theorem dL_act_582 : decode cL_act 582 = .ok (.bipush 14, 2) := by decide +kernel
theorem dL_act_584 : decode cL_act 584 = .ok (.invokestatic 25, 3) := by decide +kernel
theorem dL_act_587 : decode cL_act 587 = .ok (.iconst 3, 1) := by decide +kernel
theorem dL_act_588 : decode cL_act 588 = .ok (.if_icmp .ge 9, 3) := by decide +kernel
theorem dL_act_591 : decode cL_act 591 = .ok (.iload_n 2, 1) := by decide +kernel
theorem dL_act_592 : decode cL_act 592 = .ok (.bipush 24, 2) := by decide +kernel
theorem dL_act_594 : decode cL_act 594 = .ok (.if_icmp .eq 24, 3) := by decide +kernel
theorem dL_act_597 : decode cL_act 597 = .ok (.iload_n 1, 1) := by decide +kernel
theorem dL_act_598 : decode cL_act 598 = .ok (.bipush 14, 2) := by decide +kernel
theorem dL_act_600 : decode cL_act 600 = .ok (.invokestatic 25, 3) := by decide +kernel
theorem dL_act_603 : decode cL_act 603 = .ok (.bipush 6, 2) := by decide +kernel
theorem dL_act_605 : decode cL_act 605 = .ok (.if_icmp .ne 17, 3) := by decide +kernel
theorem dL_act_608 : decode cL_act 608 = .ok (.aload_n 0, 1) := by decide +kernel
theorem dL_act_609 : decode cL_act 609 = .ok (.iload_n 3, 1) := by decide +kernel
theorem dL_act_610 : decode cL_act 610 = .ok (.iconst 1, 1) := by decide +kernel
theorem dL_act_611 : decode cL_act 611 = .ok (.invokevirtual 43, 3) := by decide +kernel
theorem dL_act_614 : decode cL_act 614 = .ok (.iconst 2, 1) := by decide +kernel
theorem dL_act_615 : decode cL_act 615 = .ok (.if_icmp .le 7, 3) := by decide +kernel
theorem dL_act_618 : decode cL_act 618 = .ok (.iconst 1, 1) := by decide +kernel
theorem dL_act_619 : decode cL_act 619 = .ok (.goto 4, 3) := by decide +kernel
theorem dL_act_622 : decode cL_act 622 = .ok (.iconst 0, 1) := by decide +kernel
theorem dL_act_623 : decode cL_act 623 = .ok (.ireturn, 1) := by decide +kernel
theorem dL_isGiven_0 : decode cL_isGiven 0 = .ok (.aload_n 0, 1) := by decide +kernel
theorem dL_isGiven_1 : decode cL_isGiven 1 = .ok (.iload_n 1, 1) := by decide +kernel
theorem dL_isGiven_2 : decode cL_isGiven 2 = .ok (.iconst 1, 1) := by decide +kernel
theorem dL_isGiven_3 : decode cL_isGiven 3 = .ok (.invokevirtual 43, 3) := by decide +kernel
theorem dL_isGiven_6 : decode cL_isGiven 6 = .ok (.istore_n 3, 1) := by decide +kernel
theorem dL_isGiven_7 : decode cL_isGiven 7 = .ok (.iload_n 2, 1) := by decide +kernel
theorem dL_isGiven_8 : decode cL_isGiven 8 = .ok (.sipush (-20000), 3) := by decide +kernel
theorem dL_isGiven_11 : decode cL_isGiven 11 = .ok (.if_icmp .le 30, 3) := by decide +kernel
theorem dL_isGiven_14 : decode cL_isGiven 14 = .ok (.iload_n 3, 1) := by decide +kernel
theorem dL_isGiven_15 : decode cL_isGiven 15 = .ok (.iconst 1, 1) := by decide +kernel
theorem dL_isGiven_16 : decode cL_isGiven 16 = .ok (.if_icmp .ne 21, 3) := by decide +kernel
theorem dL_isGiven_19 : decode cL_isGiven 19 = .ok (.iload_n 2, 1) := by decide +kernel
theorem dL_isGiven_20 : decode cL_isGiven 20 = .ok (.sipush 9999, 3) := by decide +kernel
theorem dL_isGiven_23 : decode cL_isGiven 23 = .ok (.if_icmp .gt 14, 3) := by decide +kernel
theorem dL_isGiven_26 : decode cL_isGiven 26 = .ok (.iload_n 2, 1) := by decide +kernel
theorem dL_isGiven_27 : decode cL_isGiven 27 = .ok (.sipush (-9999), 3) := by decide +kernel
theorem dL_isGiven_30 : decode cL_isGiven 30 = .ok (.if_icmp .lt 7, 3) := by decide +kernel
theorem dL_isGiven_33 : decode cL_isGiven 33 = .ok (.iconst 1, 1) := by decide +kernel
theorem dL_isGiven_34 : decode cL_isGiven 34 = .ok (.goto 51, 3) := by decide +kernel
theorem dL_isGiven_37 : decode cL_isGiven 37 = .ok (.iconst 0, 1) := by decide +kernel
theorem dL_isGiven_38 : decode cL_isGiven 38 = .ok (.goto 47, 3) := by decide +kernel
theorem dL_isGiven_41 : decode cL_isGiven 41 = .ok (.iload_n 2, 1) := by decide +kernel
theorem dL_isGiven_42 : decode cL_isGiven 42 = .ok (.sipush (-20000), 3) := by decide +kernel
theorem dL_isGiven_45 : decode cL_isGiven 45 = .ok (.if_icmp .ne 16, 3) := by decide +kernel
theorem dL_isGiven_48 : decode cL_isGiven 48 = .ok (.iload_n 3, 1) := by decide +kernel
theorem dL_isGiven_49 : decode cL_isGiven 49 = .ok (.iconst 3, 1) := by decide +kernel
theorem dL_isGiven_50 : decode cL_isGiven 50 = .ok (.if_icmp .ne 7, 3) := by decide +kernel
theorem dL_isGiven_53 : decode cL_isGiven 53 = .ok (.iconst 1, 1) := by decide +kernel
theorem dL_isGiven_54 : decode cL_isGiven 54 = .ok (.goto 31, 3) := by decide +kernel
theorem dL_isGiven_57 : decode cL_isGiven 57 = .ok (.iconst 0, 1) := by decide +kernel
theorem dL_isGiven_58 : decode cL_isGiven 58 = .ok (.goto 27, 3) := by decide +kernel
theorem dL_isGiven_61 : decode cL_isGiven 61 = .ok (.iload_n 3, 1) := by decide +kernel
theorem dL_isGiven_62 : decode cL_isGiven 62 = .ok (.iconst 4, 1) := by decide +kernel
theorem dL_isGiven_63 : decode cL_isGiven 63 = .ok (.if_icmp .ne 21, 3) := by decide +kernel
theorem dL_isGiven_66 : decode cL_isGiven 66 = .ok (.aload_n 0, 1) := by decide +kernel
theorem dL_isGiven_67 : decode cL_isGiven 67 = .ok (.iload_n 1, 1) := by decide +kernel
theorem dL_isGiven_68 : decode cL_isGiven 68 = .ok (.iconst 4, 1) := by decide +kernel
theorem dL_isGiven_69 : decode cL_isGiven 69 = .ok (.invokevirtual 43, 3) := by decide +kernel
theorem dL_isGiven_72 : decode cL_isGiven 72 = .ok (.sipush (-20000), 3) := by decide +kernel
theorem dL_isGiven_75 : decode cL_isGiven 75 = .ok (.iload_n 2, 1) := by decide +kernel
theorem dL_isGiven_76 : decode cL_isGiven 76 = .ok (.isub, 1) := by decide +kernel
theorem dL_isGiven_77 : decode cL_isGiven 77 = .ok (.if_icmp .ne 7, 3) := by decide +kernel
theorem dL_isGiven_80 : decode cL_isGiven 80 = .ok (.iconst 1, 1) := by decide +kernel
theorem dL_isGiven_81 : decode cL_isGiven 81 = .ok (.goto 4, 3) := by decide +kernel
theorem dL_isGiven_84 : decode cL_isGiven 84 = .ok (.iconst 0, 1) := by decide +kernel
theorem dL_isGiven_85 : decode cL_isGiven 85 = .ok (.ireturn, 1) := by decide +kernel
theorem dL_areCoroutinesRight_0 : decode cL_areCoroutinesRight 0 = .ok (.iconst 5, 1) := by decide +kernel
theorem dL_areCoroutinesRight_1 : decode cL_areCoroutinesRight 1 = .ok (.newarray .int, 2) := by decide +kernel
theorem dL_areCoroutinesRight_3 : decode cL_areCoroutinesRight 3 = .ok (.astore_n 2, 1) := by decide +kernel
theorem dL_areCoroutinesRight_4 : decode cL_areCoroutinesRight 4 = .ok (.iconst 3, 1) := by decide +kernel
theorem dL_areCoroutinesRight_5 : decode cL_areCoroutinesRight 5 = .ok (.newarray .int, 2) := by decide +kernel
theorem dL_areCoroutinesRight_7 : decode cL_areCoroutinesRight 7 = .ok (.astore_n 3, 1) := by decide +kernel
theorem dL_areCoroutinesRight_8 : decode cL_areCoroutinesRight 8 = .ok (.iconst 0, 1) := by decide +kernel
theorem dL_areCoroutinesRight_9 : decode cL_areCoroutinesRight 9 = .ok (.istore 4, 2) := by decide +kernel
theorem dL_areCoroutinesRight_11 : decode cL_areCoroutinesRight 11 = .ok (.iconst 0, 1) := by decide +kernel
theorem dL_areCoroutinesRight_12 : decode cL_areCoroutinesRight 12 = .ok (.istore 5, 2) := by decide +kernel
theorem dL_areCoroutinesRight_14 : decode cL_areCoroutinesRight 14 = .ok (.iload 5, 2) := by decide +kernel
theorem dL_areCoroutinesRight_16 : decode cL_areCoroutinesRight 16 = .ok (.aload_n 0, 1) := by decide +kernel
theorem dL_areCoroutinesRight_17 : decode cL_areCoroutinesRight 17 = .ok (.iconst 1, 1) := by decide +kernel
theorem dL_areCoroutinesRight_18 : decode cL_areCoroutinesRight 18 = .ok (.invokevirtual 39, 3) := by decide +kernel
theorem dL_areCoroutinesRight_21 : decode cL_areCoroutinesRight 21 = .ok (.if_icmp .ge 458, 3) := by decide +kernel
theorem dL_areCoroutinesRight_24 : decode cL_areCoroutinesRight 24 = .ok (.aload_n 0, 1) := by decide +kernel
theorem dL_areCoroutinesRight_25 : decode cL_areCoroutinesRight 25 = .ok (.iload 5, 2) := by decide +kernel
theorem dL_areCoroutinesRight_27 : decode cL_areCoroutinesRight 27 = .ok (.iconst 1, 1) := by decide +kernel
theorem dL_areCoroutinesRight_28 : decode cL_areCoroutinesRight 28 = .ok (.invokevirtual 43, 3) := by decide +kernel
theorem dL_areCoroutinesRight_31 : decode cL_areCoroutinesRight 31 = .ok (.istore 6, 2) := by decide +kernel
theorem dL_areCoroutinesRight_33 : decode cL_areCoroutinesRight 33 = .ok (.aload_n 0, 1) := by decide +kernel
theorem dL_areCoroutinesRight_34 : decode cL_areCoroutinesRight 34 = .ok (.iload 5, 2) := by decide +kernel
theorem dL_areCoroutinesRight_36 : decode cL_areCoroutinesRight 36 = .ok (.iconst 3, 1) := by decide +kernel
theorem dL_areCoroutinesRight_37 : decode cL_areCoroutinesRight 37 = .ok (.invokevirtual 43, 3) := by decide +kernel
theorem dL_areCoroutinesRight_40 : decode cL_areCoroutinesRight 40 = .ok (.istore 7, 2) := by decide +kernel
theorem dL_areCoroutinesRight_42 : decode cL_areCoroutinesRight 42 = .ok (.aload_n 0, 1) := by decide +kernel
theorem dL_areCoroutinesRight_43 : decode cL_areCoroutinesRight 43 = .ok (.iload 5, 2) := by decide +kernel
theorem dL_areCoroutinesRight_45 : decode cL_areCoroutinesRight 45 = .ok (.bipush 6, 2) := by decide +kernel
theorem dL_areCoroutinesRight_47 : decode cL_areCoroutinesRight 47 = .ok (.invokevirtual 43, 3) := by decide +kernel
theorem dL_areCoroutinesRight_50 : decode cL_areCoroutinesRight 50 = .ok (.istore 8, 2) := by decide +kernel
theorem dL_areCoroutinesRight_52 : decode cL_areCoroutinesRight 52 = .ok (.aload_n 2, 1) := by decide +kernel
theorem dL_areCoroutinesRight_53 : decode cL_areCoroutinesRight 53 = .ok (.iload 6, 2) := by decide +kernel
theorem dL_areCoroutinesRight_55 : decode cL_areCoroutinesRight 55 = .ok (.dup2, 1) := by decide +kernel
theorem dL_areCoroutinesRight_56 : decode cL_areCoroutinesRight 56 = .ok (.iaload, 1) := by decide +kernel
theorem dL_areCoroutinesRight_57 : decode cL_areCoroutinesRight 57 = .ok (.iconst 1, 1) := by decide +kernel
theorem dL_areCoroutinesRight_58 : decode cL_areCoroutinesRight 58 = .ok (.iadd, 1) := by decide +kernel
theorem dL_areCoroutinesRight_59 : decode cL_areCoroutinesRight 59 = .ok (.iastore, 1) := by decide +kernel
theorem dL_areCoroutinesRight_60 : decode cL_areCoroutinesRight 60 = .ok (.aload_n 3, 1) := by decide +kernel
theorem dL_areCoroutinesRight_61 : decode cL_areCoroutinesRight 61 = .ok (.aload_n 0, 1) := by decide +kernel
theorem dL_areCoroutinesRight_62 : decode cL_areCoroutinesRight 62 = .ok (.iload 5, 2) := by decide +kernel
theorem dL_areCoroutinesRight_64 : decode cL_areCoroutinesRight 64 = .ok (.iconst 2, 1) := by decide +kernel
theorem dL_areCoroutinesRight_65 : decode cL_areCoroutinesRight 65 = .ok (.invokevirtual 43, 3) := by decide +kernel
theorem dL_areCoroutinesRight_68 : decode cL_areCoroutinesRight 68 = .ok (.dup2, 1) := by decide +kernel
theorem dL_areCoroutinesRight_69 : decode cL_areCoroutinesRight 69 = .ok (.iaload, 1) := by decide +kernel
theorem dL_areCoroutinesRight_70 : decode cL_areCoroutinesRight 70 = .ok (.iconst 1, 1) := by decide +kernel
theorem dL_areCoroutinesRight_71 : decode cL_areCoroutinesRight 71 = .ok (.iadd, 1) := by decide +kernel
theorem dL_areCoroutinesRight_72 : decode cL_areCoroutinesRight 72 = .ok (.iastore, 1) := by decide +kernel
theorem dL_areCoroutinesRight_73 : decode cL_areCoroutinesRight 73 = .ok (.iload 4, 2) := by decide +kernel
theorem dL_areCoroutinesRight_75 : decode cL_areCoroutinesRight 75 = .ok (.aload_n 0, 1) := by decide +kernel
theorem dL_areCoroutinesRight_76 : decode cL_areCoroutinesRight 76 = .ok (.iload 5, 2) := by decide +kernel
theorem dL_areCoroutinesRight_78 : decode cL_areCoroutinesRight 78 = .ok (.bipush 7, 2) := by decide +kernel
theorem dL_areCoroutinesRight_80 : decode cL_areCoroutinesRight 80 = .ok (.invokevirtual 43, 3) := by decide +kernel
theorem dL_areCoroutinesRight_83 : decode cL_areCoroutinesRight 83 = .ok (.iadd, 1) := by decide +kernel
theorem dL_areCoroutinesRight_84 : decode cL_areCoroutinesRight 84 = .ok (.istore 4, 2) := by decide +kernel
theorem dL_areCoroutinesRight_86 : decode cL_areCoroutinesRight 86 = .ok (.iload 6, 2) := by decide +kernel
theorem dL_areCoroutinesRight_88 : decode cL_areCoroutinesRight 88 = .ok (.iconst 2, 1) := by decide +kernel
theorem dL_areCoroutinesRight_89 : decode cL_areCoroutinesRight 89 = .ok (.if_icmp .eq 75, 3) := by decide +kernel
theorem dL_areCoroutinesRight_92 : decode cL_areCoroutinesRight 92 = .ok (.iload 6, 2) := by decide +kernel
theorem dL_areCoroutinesRight_94 : decode cL_areCoroutinesRight 94 = .ok (.iconst 1, 1) := by decide +kernel
theorem dL_areCoroutinesRight_95 : decode cL_areCoroutinesRight 95 = .ok (.if_icmp .eq 15, 3) := by decide +kernel
theorem dL_areCoroutinesRight_98 : decode cL_areCoroutinesRight 98 = .ok (.iload 7, 2) := by decide +kernel
theorem dL_areCoroutinesRight_100 : decode cL_areCoroutinesRight 100 = .ok (.iconst (-1), 1) := by decide +kernel
theorem dL_areCoroutinesRight_101 : decode cL_areCoroutinesRight 101 = .ok (.if_icmp .ne 63, 3) := by decide +kernel
theorem dL_areCoroutinesRight_104 : decode cL_areCoroutinesRight 104 = .ok (.iload 8, 2) := by decide +kernel
theorem dL_areCoroutinesRight_106 : decode cL_areCoroutinesRight 106 = .ok (.iconst (-1), 1) := by decide +kernel
theorem dL_areCoroutinesRight_107 : decode cL_areCoroutinesRight 107 = .ok (.if_icmp .ne 57, 3) := by decide +kernel
theorem dL_areCoroutinesRight_110 : decode cL_areCoroutinesRight 110 = .ok (.iload 6, 2) := by decide +kernel
theorem dL_areCoroutinesRight_112 : decode cL_areCoroutinesRight 112 = .ok (.ifCond .ne 24, 3) := by decide +kernel
theorem dL_areCoroutinesRight_115 : decode cL_areCoroutinesRight 115 = .ok (.aload_n 0, 1) := by decide +kernel
theorem dL_areCoroutinesRight_116 : decode cL_areCoroutinesRight 116 = .ok (.iload 5, 2) := by decide +kernel
theorem dL_areCoroutinesRight_118 : decode cL_areCoroutinesRight 118 = .ok (.bipush 7, 2) := by decide +kernel
theorem dL_areCoroutinesRight_120 : decode cL_areCoroutinesRight 120 = .ok (.invokevirtual 43, 3) := by decide +kernel
theorem dL_areCoroutinesRight_123 : decode cL_areCoroutinesRight 123 = .ok (.ifCond .ne 41, 3) := by decide +kernel
theorem dL_areCoroutinesRight_126 : decode cL_areCoroutinesRight 126 = .ok (.aload_n 0, 1) := by decide +kernel
theorem dL_areCoroutinesRight_127 : decode cL_areCoroutinesRight 127 = .ok (.iload 5, 2) := by decide +kernel
theorem dL_areCoroutinesRight_129 : decode cL_areCoroutinesRight 129 = .ok (.iconst 5, 1) := by decide +kernel
theorem dL_areCoroutinesRight_130 : decode cL_areCoroutinesRight 130 = .ok (.invokevirtual 43, 3) := by decide +kernel
theorem dL_areCoroutinesRight_133 : decode cL_areCoroutinesRight 133 = .ok (.ifCond .ne 31, 3) := by decide +kernel
theorem dL_areCoroutinesRight_136 : decode cL_areCoroutinesRight 136 = .ok (.iload 6, 2) := by decide +kernel
theorem dL_areCoroutinesRight_138 : decode cL_areCoroutinesRight 138 = .ok (.iconst 2, 1) := by decide +kernel
theorem dL_areCoroutinesRight_139 : decode cL_areCoroutinesRight 139 = .ok (.if_icmp .le 13, 3) := by decide +kernel
theorem dL_areCoroutinesRight_142 : decode cL_areCoroutinesRight 142 = .ok (.aload_n 0, 1) := by decide +kernel
theorem dL_areCoroutinesRight_143 : decode cL_areCoroutinesRight 143 = .ok (.iload 5, 2) := by decide +kernel
theorem dL_areCoroutinesRight_145 : decode cL_areCoroutinesRight 145 = .ok (.iconst 5, 1) := by decide +kernel
theorem dL_areCoroutinesRight_146 : decode cL_areCoroutinesRight 146 = .ok (.invokevirtual 43, 3) := by decide +kernel
theorem dL_areCoroutinesRight_149 : decode cL_areCoroutinesRight 149 = .ok (.ifCond .ne 15, 3) := by decide +kernel
theorem dL_areCoroutinesRight_152 : decode cL_areCoroutinesRight 152 = .ok (.aload_n 0, 1) := by decide +kernel
theorem dL_areCoroutinesRight_153 : decode cL_areCoroutinesRight 153 = .ok (.iload 5, 2) := by decide +kernel
theorem dL_areCoroutinesRight_155 : decode cL_areCoroutinesRight 155 = .ok (.iconst 5, 1) := by decide +kernel
theorem dL_areCoroutinesRight_156 : decode cL_areCoroutinesRight 156 = .ok (.invokevirtual 43, 3) := by decide +kernel
theorem dL_areCoroutinesRight_159 : decode cL_areCoroutinesRight 159 = .ok (.bipush 6, 2) := by decide +kernel
theorem dL_areCoroutinesRight_161 : decode cL_areCoroutinesRight 161 = .ok (.if_icmp .le 5, 3) := by decide +kernel
theorem dL_areCoroutinesRight_164 : decode cL_areCoroutinesRight 164 = .ok (.iconst 0, 1) := by decide +kernel
theorem dL_areCoroutinesRight_165 : decode cL_areCoroutinesRight 165 = .ok (.ireturn, 1) := by decide +kernel
theorem dL_areCoroutinesRight_166 : decode cL_areCoroutinesRight 166 = .ok (.iload 6, 2) := by decide +kernel
theorem dL_areCoroutinesRight_168 : decode cL_areCoroutinesRight 168 = .ok (.iconst 1, 1) := by decide +kernel
theorem dL_areCoroutinesRight_169 : decode cL_areCoroutinesRight 169 = .ok (.if_icmp .ne 93, 3) := by decide +kernel
theorem dL_areCoroutinesRight_172 : decode cL_areCoroutinesRight 172 = .ok (.aload_n 1, 1) := by decide +kernel
theorem dL_areCoroutinesRight_173 : decode cL_areCoroutinesRight 173 = .ok (.getfield 104, 3) := by decide +kernel
theorem dL_areCoroutinesRight_176 : decode cL_areCoroutinesRight 176 = .ok (.aload_n 0, 1) := by decide +kernel
theorem dL_areCoroutinesRight_177 : decode cL_areCoroutinesRight 177 = .ok (.iload 5, 2) := by decide +kernel
theorem dL_areCoroutinesRight_179 : decode cL_areCoroutinesRight 179 = .ok (.iconst 0, 1) := by decide +kernel
theorem dL_areCoroutinesRight_180 : decode cL_areCoroutinesRight 180 = .ok (.invokevirtual 43, 3) := by decide +kernel
theorem dL_areCoroutinesRight_183 : decode cL_areCoroutinesRight 183 = .ok (.aaload, 1) := by decide +kernel
theorem dL_areCoroutinesRight_184 : decode cL_areCoroutinesRight 184 = .ok (.iload 7, 2) := by decide +kernel
theorem dL_areCoroutinesRight_186 : decode cL_areCoroutinesRight 186 = .ok (.aaload, 1) := by decide +kernel
theorem dL_areCoroutinesRight_187 : decode cL_areCoroutinesRight 187 = .ok (.iconst 0, 1) := by decide +kernel
theorem dL_areCoroutinesRight_188 : decode cL_areCoroutinesRight 188 = .ok (.iaload, 1) := by decide +kernel
theorem dL_areCoroutinesRight_189 : decode cL_areCoroutinesRight 189 = .ok (.istore 9, 2) := by decide +kernel
theorem dL_areCoroutinesRight_191 : decode cL_areCoroutinesRight 191 = .ok (.iload 9, 2) := by decide +kernel
theorem dL_areCoroutinesRight_193 : decode cL_areCoroutinesRight 193 = .ok (.iconst 3, 1) := by decide +kernel
theorem dL_areCoroutinesRight_194 : decode cL_areCoroutinesRight 194 = .ok (.if_icmp .eq 24, 3) := by decide +kernel
theorem dL_areCoroutinesRight_197 : decode cL_areCoroutinesRight 197 = .ok (.iload 9, 2) := by decide +kernel
theorem dL_areCoroutinesRight_199 : decode cL_areCoroutinesRight 199 = .ok (.bipush 10, 2) := by decide +kernel
theorem dL_areCoroutinesRight_201 : decode cL_areCoroutinesRight 201 = .ok (.if_icmp .eq 17, 3) := by decide +kernel
theorem dL_areCoroutinesRight_204 : decode cL_areCoroutinesRight 204 = .ok (.iload 9, 2) := by decide +kernel
theorem dL_areCoroutinesRight_206 : decode cL_areCoroutinesRight 206 = .ok (.bipush 12, 2) := by decide +kernel
theorem dL_areCoroutinesRight_208 : decode cL_areCoroutinesRight 208 = .ok (.if_icmp .eq 10, 3) := by decide +kernel
theorem dL_areCoroutinesRight_211 : decode cL_areCoroutinesRight 211 = .ok (.iload 9, 2) := by decide +kernel
theorem dL_areCoroutinesRight_213 : decode cL_areCoroutinesRight 213 = .ok (.bipush 13, 2) := by decide +kernel
theorem dL_areCoroutinesRight_215 : decode cL_areCoroutinesRight 215 = .ok (.if_icmp .ne 45, 3) := by decide +kernel
theorem dL_areCoroutinesRight_218 : decode cL_areCoroutinesRight 218 = .ok (.iload 9, 2) := by decide +kernel
theorem dL_areCoroutinesRight_220 : decode cL_areCoroutinesRight 220 = .ok (.bipush 10, 2) := by decide +kernel
theorem dL_areCoroutinesRight_222 : decode cL_areCoroutinesRight 222 = .ok (.if_icmp .ne 7, 3) := by decide +kernel
theorem dL_areCoroutinesRight_225 : decode cL_areCoroutinesRight 225 = .ok (.iconst 1, 1) := by decide +kernel
theorem dL_areCoroutinesRight_226 : decode cL_areCoroutinesRight 226 = .ok (.goto 4, 3) := by decide +kernel
theorem dL_areCoroutinesRight_229 : decode cL_areCoroutinesRight 229 = .ok (.iconst 0, 1) := by decide +kernel
theorem dL_areCoroutinesRight_230 : decode cL_areCoroutinesRight 230 = .ok (.iload 8, 2) := by decide +kernel
theorem dL_areCoroutinesRight_232 : decode cL_areCoroutinesRight 232 = .ok (.ifCond .lt 7, 3) := by decide +kernel
theorem dL_areCoroutinesRight_235 : decode cL_areCoroutinesRight 235 = .ok (.iconst 1, 1) := by decide +kernel
theorem dL_areCoroutinesRight_236 : decode cL_areCoroutinesRight 236 = .ok (.goto 4, 3) := by decide +kernel
theorem dL_areCoroutinesRight_239 : decode cL_areCoroutinesRight 239 = .ok (.iconst 0, 1) := by decide +kernel
theorem dL_areCoroutinesRight_240 : decode cL_areCoroutinesRight 240 = .ok (.if_icmp .ne 20, 3) := by decide +kernel
theorem dL_areCoroutinesRight_243 : decode cL_areCoroutinesRight 243 = .ok (.aload_n 0, 1) := by decide +kernel
theorem dL_areCoroutinesRight_244 : decode cL_areCoroutinesRight 244 = .ok (.iload 5, 2) := by decide +kernel
theorem dL_areCoroutinesRight_246 : decode cL_areCoroutinesRight 246 = .ok (.iconst 2, 1) := by decide +kernel
theorem dL_areCoroutinesRight_247 : decode cL_areCoroutinesRight 247 = .ok (.invokevirtual 43, 3) := by decide +kernel
theorem dL_areCoroutinesRight_250 : decode cL_areCoroutinesRight 250 = .ok (.ifCond .ne 12, 3) := by decide +kernel
theorem dL_areCoroutinesRight_253 : decode cL_areCoroutinesRight 253 = .ok (.iload 9, 2) := by decide +kernel
theorem dL_areCoroutinesRight_255 : decode cL_areCoroutinesRight 255 = .ok (.bipush 10, 2) := by decide +kernel
theorem dL_areCoroutinesRight_257 : decode cL_areCoroutinesRight 257 = .ok (.if_icmp .le 5, 3) := by decide +kernel
theorem dL_areCoroutinesRight_260 : decode cL_areCoroutinesRight 260 = .ok (.iconst 0, 1) := by decide +kernel
theorem dL_areCoroutinesRight_261 : decode cL_areCoroutinesRight 261 = .ok (.ireturn, 1) := by decide +kernel
theorem dL_areCoroutinesRight_262 : decode cL_areCoroutinesRight 262 = .ok (.iload 8, 2) := by decide +kernel
theorem dL_areCoroutinesRight_264 : decode cL_areCoroutinesRight 264 = .ok (.ifCond .lt 61, 3) := by decide +kernel
theorem dL_areCoroutinesRight_267 : decode cL_areCoroutinesRight 267 = .ok (.aload_n 0, 1) := by decide +kernel
theorem dL_areCoroutinesRight_268 : decode cL_areCoroutinesRight 268 = .ok (.iload 8, 2) := by decide +kernel
theorem dL_areCoroutinesRight_270 : decode cL_areCoroutinesRight 270 = .ok (.iconst 2, 1) := by decide +kernel
theorem dL_areCoroutinesRight_271 : decode cL_areCoroutinesRight 271 = .ok (.invokevirtual 43, 3) := by decide +kernel
theorem dL_areCoroutinesRight_274 : decode cL_areCoroutinesRight 274 = .ok (.iconst 2, 1) := by decide +kernel
theorem dL_areCoroutinesRight_275 : decode cL_areCoroutinesRight 275 = .ok (.if_icmp .ne 48, 3) := by decide +kernel
theorem dL_areCoroutinesRight_278 : decode cL_areCoroutinesRight 278 = .ok (.aload_n 0, 1) := by decide +kernel
theorem dL_areCoroutinesRight_279 : decode cL_areCoroutinesRight 279 = .ok (.iload 8, 2) := by decide +kernel
theorem dL_areCoroutinesRight_281 : decode cL_areCoroutinesRight 281 = .ok (.iconst 1, 1) := by decide +kernel
theorem dL_areCoroutinesRight_282 : decode cL_areCoroutinesRight 282 = .ok (.invokevirtual 43, 3) := by decide +kernel
theorem dL_areCoroutinesRight_285 : decode cL_areCoroutinesRight 285 = .ok (.iconst 1, 1) := by decide +kernel
theorem dL_areCoroutinesRight_286 : decode cL_areCoroutinesRight 286 = .ok (.if_icmp .ne 37, 3) := by decide +kernel
theorem dL_areCoroutinesRight_289 : decode cL_areCoroutinesRight 289 = .ok (.iload 8, 2) := by decide +kernel
theorem dL_areCoroutinesRight_291 : decode cL_areCoroutinesRight 291 = .ok (.iload 5, 2) := by decide +kernel
theorem dL_areCoroutinesRight_293 : decode cL_areCoroutinesRight 293 = .ok (.if_icmp .le 30, 3) := by decide +kernel
theorem dL_areCoroutinesRight_296 : decode cL_areCoroutinesRight 296 = .ok (.aload_n 0, 1) := by decide +kernel
theorem dL_areCoroutinesRight_297 : decode cL_areCoroutinesRight 297 = .ok (.iload 8, 2) := by decide +kernel
theorem dL_areCoroutinesRight_299 : decode cL_areCoroutinesRight 299 = .ok (.iconst 0, 1) := by decide +kernel
theorem dL_areCoroutinesRight_300 : decode cL_areCoroutinesRight 300 = .ok (.invokevirtual 43, 3) := by decide +kernel
theorem dL_areCoroutinesRight_303 : decode cL_areCoroutinesRight 303 = .ok (.aload_n 1, 1) := by decide +kernel
theorem dL_areCoroutinesRight_304 : decode cL_areCoroutinesRight 304 = .ok (.getfield 104, 3) := by decide +kernel
theorem dL_areCoroutinesRight_307 : decode cL_areCoroutinesRight 307 = .ok (.aload_n 0, 1) := by decide +kernel
theorem dL_areCoroutinesRight_308 : decode cL_areCoroutinesRight 308 = .ok (.iload 5, 2) := by decide +kernel
theorem dL_areCoroutinesRight_310 : decode cL_areCoroutinesRight 310 = .ok (.iconst 0, 1) := by decide +kernel
theorem dL_areCoroutinesRight_311 : decode cL_areCoroutinesRight 311 = .ok (.invokevirtual 43, 3) := by decide +kernel
theorem dL_areCoroutinesRight_314 : decode cL_areCoroutinesRight 314 = .ok (.aaload, 1) := by decide +kernel
theorem dL_areCoroutinesRight_315 : decode cL_areCoroutinesRight 315 = .ok (.iload 7, 2) := by decide +kernel
theorem dL_areCoroutinesRight_317 : decode cL_areCoroutinesRight 317 = .ok (.aaload, 1) := by decide +kernel
theorem dL_areCoroutinesRight_318 : decode cL_areCoroutinesRight 318 = .ok (.iconst 1, 1) := by decide +kernel
theorem dL_areCoroutinesRight_319 : decode cL_areCoroutinesRight 319 = .ok (.iaload, 1) := by decide +kernel
theorem dL_areCoroutinesRight_320 : decode cL_areCoroutinesRight 320 = .ok (.if_icmp .eq 5, 3) := by decide +kernel
theorem dL_areCoroutinesRight_323 : decode cL_areCoroutinesRight 323 = .ok (.iconst 0, 1) := by decide +kernel
theorem dL_areCoroutinesRight_324 : decode cL_areCoroutinesRight 324 = .ok (.ireturn, 1) := by decide +kernel
theorem dL_areCoroutinesRight_325 : decode cL_areCoroutinesRight 325 = .ok (.iconst 0, 1) := by decide +kernel
theorem dL_areCoroutinesRight_326 : decode cL_areCoroutinesRight 326 = .ok (.istore 9, 2) := by decide +kernel
theorem dL_areCoroutinesRight_328 : decode cL_areCoroutinesRight 328 = .ok (.iload 9, 2) := by decide +kernel
theorem dL_areCoroutinesRight_330 : decode cL_areCoroutinesRight 330 = .ok (.aload_n 0, 1) := by decide +kernel
theorem dL_areCoroutinesRight_331 : decode cL_areCoroutinesRight 331 = .ok (.iload 5, 2) := by decide +kernel
theorem dL_areCoroutinesRight_333 : decode cL_areCoroutinesRight 333 = .ok (.iconst 5, 1) := by decide +kernel
theorem dL_areCoroutinesRight_334 : decode cL_areCoroutinesRight 334 = .ok (.invokevirtual 43, 3) := by decide +kernel
theorem dL_areCoroutinesRight_337 : decode cL_areCoroutinesRight 337 = .ok (.if_icmp .ge 48, 3) := by decide +kernel
theorem dL_areCoroutinesRight_340 : decode cL_areCoroutinesRight 340 = .ok (.aload_n 0, 1) := by decide +kernel
theorem dL_areCoroutinesRight_341 : decode cL_areCoroutinesRight 341 = .ok (.iload 5, 2) := by decide +kernel
theorem dL_areCoroutinesRight_343 : decode cL_areCoroutinesRight 343 = .ok (.iload 9, 2) := by decide +kernel
theorem dL_areCoroutinesRight_345 : decode cL_areCoroutinesRight 345 = .ok (.invokevirtual 108, 3) := by decide +kernel
theorem dL_areCoroutinesRight_348 : decode cL_areCoroutinesRight 348 = .ok (.bipush (-4), 2) := by decide +kernel
theorem dL_areCoroutinesRight_350 : decode cL_areCoroutinesRight 350 = .ok (.if_icmp .lt 27, 3) := by decide +kernel
theorem dL_areCoroutinesRight_353 : decode cL_areCoroutinesRight 353 = .ok (.aload_n 0, 1) := by decide +kernel
theorem dL_areCoroutinesRight_354 : decode cL_areCoroutinesRight 354 = .ok (.iload 5, 2) := by decide +kernel
theorem dL_areCoroutinesRight_356 : decode cL_areCoroutinesRight 356 = .ok (.iload 9, 2) := by decide +kernel
theorem dL_areCoroutinesRight_358 : decode cL_areCoroutinesRight 358 = .ok (.invokevirtual 108, 3) := by decide +kernel
theorem dL_areCoroutinesRight_361 : decode cL_areCoroutinesRight 361 = .ok (.bipush 11, 2) := by decide +kernel
theorem dL_areCoroutinesRight_363 : decode cL_areCoroutinesRight 363 = .ok (.if_icmp .gt 14, 3) := by decide +kernel
theorem dL_areCoroutinesRight_366 : decode cL_areCoroutinesRight 366 = .ok (.aload_n 0, 1) := by decide +kernel
theorem dL_areCoroutinesRight_367 : decode cL_areCoroutinesRight 367 = .ok (.iload 5, 2) := by decide +kernel
theorem dL_areCoroutinesRight_369 : decode cL_areCoroutinesRight 369 = .ok (.iload 9, 2) := by decide +kernel
theorem dL_areCoroutinesRight_371 : decode cL_areCoroutinesRight 371 = .ok (.invokevirtual 108, 3) := by decide +kernel
theorem dL_areCoroutinesRight_374 : decode cL_areCoroutinesRight 374 = .ok (.ifCond .ne 5, 3) := by decide +kernel
theorem dL_areCoroutinesRight_377 : decode cL_areCoroutinesRight 377 = .ok (.iconst 0, 1) := by decide +kernel
theorem dL_areCoroutinesRight_378 : decode cL_areCoroutinesRight 378 = .ok (.ireturn, 1) := by decide +kernel
theorem dL_areCoroutinesRight_379 : decode cL_areCoroutinesRight 379 = .ok (.iinc 9 1, 3) := by decide +kernel
theorem dL_areCoroutinesRight_382 : decode cL_areCoroutinesRight 382 = .ok (.goto (-54), 3) := by decide +kernel
theorem dL_areCoroutinesRight_385 : decode cL_areCoroutinesRight 385 = .ok (.iconst 0, 1) := by decide +kernel
theorem dL_areCoroutinesRight_386 : decode cL_areCoroutinesRight 386 = .ok (.istore 9, 2) := by decide +kernel
theorem dL_areCoroutinesRight_388 : decode cL_areCoroutinesRight 388 = .ok (.iload 9, 2) := by decide +kernel
theorem dL_areCoroutinesRight_390 : decode cL_areCoroutinesRight 390 = .ok (.iconst 4, 1) := by decide +kernel
theorem dL_areCoroutinesRight_391 : decode cL_areCoroutinesRight 391 = .ok (.if_icmp .ge 28, 3) := by decide +kernel
theorem dL_areCoroutinesRight_394 : decode cL_areCoroutinesRight 394 = .ok (.aload_n 0, 1) := by decide +kernel
theorem dL_areCoroutinesRight_395 : decode cL_areCoroutinesRight 395 = .ok (.iload 5, 2) := by decide +kernel
theorem dL_areCoroutinesRight_397 : decode cL_areCoroutinesRight 397 = .ok (.iload 9, 2) := by decide +kernel
theorem dL_areCoroutinesRight_399 : decode cL_areCoroutinesRight 399 = .ok (.invokevirtual 111, 3) := by decide +kernel
theorem dL_areCoroutinesRight_402 : decode cL_areCoroutinesRight 402 = .ok (.invokestatic 114, 3) := by decide +kernel
theorem dL_areCoroutinesRight_405 : decode cL_areCoroutinesRight 405 = .ok (.sipush 9999, 3) := by decide +kernel
theorem dL_areCoroutinesRight_408 : decode cL_areCoroutinesRight 408 = .ok (.if_icmp .le 5, 3) := by decide +kernel
theorem dL_areCoroutinesRight_411 : decode cL_areCoroutinesRight 411 = .ok (.iconst 0, 1) := by decide +kernel
theorem dL_areCoroutinesRight_412 : decode cL_areCoroutinesRight 412 = .ok (.ireturn, 1) := by decide +kernel
theorem dL_areCoroutinesRight_413 : decode cL_areCoroutinesRight 413 = .ok (.iinc 9 1, 3) := by decide +kernel
theorem dL_areCoroutinesRight_416 : decode cL_areCoroutinesRight 416 = .ok (.goto (-28), 3) := by decide +kernel
theorem dL_areCoroutinesRight_419 : decode cL_areCoroutinesRight 419 = .ok (.aload_n 0, 1) := by decide +kernel
theorem dL_areCoroutinesRight_420 : decode cL_areCoroutinesRight 420 = .ok (.iload 5, 2) := by decide +kernel
theorem dL_areCoroutinesRight_422 : decode cL_areCoroutinesRight 422 = .ok (.iconst 2, 1) := by decide +kernel
theorem dL_areCoroutinesRight_423 : decode cL_areCoroutinesRight 423 = .ok (.invokevirtual 43, 3) := by decide +kernel
theorem dL_areCoroutinesRight_426 : decode cL_areCoroutinesRight 426 = .ok (.ifCond .ne 47, 3) := by decide +kernel
theorem dL_areCoroutinesRight_429 : decode cL_areCoroutinesRight 429 = .ok (.aload_n 0, 1) := by decide +kernel
theorem dL_areCoroutinesRight_430 : decode cL_areCoroutinesRight 430 = .ok (.iload 5, 2) := by decide +kernel
theorem dL_areCoroutinesRight_432 : decode cL_areCoroutinesRight 432 = .ok (.invokevirtual 117, 3) := by decide +kernel
theorem dL_areCoroutinesRight_435 : decode cL_areCoroutinesRight 435 = .ok (.ifCond .lt 36, 3) := by decide +kernel
theorem dL_areCoroutinesRight_438 : decode cL_areCoroutinesRight 438 = .ok (.aload_n 0, 1) := by decide +kernel
theorem dL_areCoroutinesRight_439 : decode cL_areCoroutinesRight 439 = .ok (.iload 5, 2) := by decide +kernel
theorem dL_areCoroutinesRight_441 : decode cL_areCoroutinesRight 441 = .ok (.invokevirtual 117, 3) := by decide +kernel
theorem dL_areCoroutinesRight_444 : decode cL_areCoroutinesRight 444 = .ok (.bipush 20, 2) := by decide +kernel
theorem dL_areCoroutinesRight_446 : decode cL_areCoroutinesRight 446 = .ok (.if_icmp .gt 25, 3) := by decide +kernel
theorem dL_areCoroutinesRight_449 : decode cL_areCoroutinesRight 449 = .ok (.iload 6, 2) := by decide +kernel
theorem dL_areCoroutinesRight_451 : decode cL_areCoroutinesRight 451 = .ok (.iconst 2, 1) := by decide +kernel
theorem dL_areCoroutinesRight_452 : decode cL_areCoroutinesRight 452 = .ok (.if_icmp .le 21, 3) := by decide +kernel
theorem dL_areCoroutinesRight_455 : decode cL_areCoroutinesRight 455 = .ok (.aload_n 0, 1) := by decide +kernel
theorem dL_areCoroutinesRight_456 : decode cL_areCoroutinesRight 456 = .ok (.iload 5, 2) := by decide +kernel
theorem dL_areCoroutinesRight_458 : decode cL_areCoroutinesRight 458 = .ok (.invokevirtual 117, 3) := by decide +kernel
theorem dL_areCoroutinesRight_461 : decode cL_areCoroutinesRight 461 = .ok (.aload_n 0, 1) := by decide +kernel
theorem dL_areCoroutinesRight_462 : decode cL_areCoroutinesRight 462 = .ok (.iload 5, 2) := by decide +kernel
theorem dL_areCoroutinesRight_464 : decode cL_areCoroutinesRight 464 = .ok (.invokevirtual 84, 3) := by decide +kernel
theorem dL_areCoroutinesRight_467 : decode cL_areCoroutinesRight 467 = .ok (.iadd, 1) := by decide +kernel
theorem dL_areCoroutinesRight_468 : decode cL_areCoroutinesRight 468 = .ok (.ifCond .eq 5, 3) := by decide +kernel
theorem dL_areCoroutinesRight_471 : decode cL_areCoroutinesRight 471 = .ok (.iconst 0, 1) := by decide +kernel
theorem dL_areCoroutinesRight_472 : decode cL_areCoroutinesRight 472 = .ok (.ireturn, 1) := by decide +kernel
theorem dL_areCoroutinesRight_473 : decode cL_areCoroutinesRight 473 = .ok (.iinc 5 1, 3) := by decide +kernel
theorem dL_areCoroutinesRight_476 : decode cL_areCoroutinesRight 476 = .ok (.goto (-462), 3) := by decide +kernel
theorem dL_areCoroutinesRight_479 : decode cL_areCoroutinesRight 479 = .ok (.iconst 0, 1) := by decide +kernel
theorem dL_areCoroutinesRight_480 : decode cL_areCoroutinesRight 480 = .ok (.istore 5, 2) := by decide +kernel
theorem dL_areCoroutinesRight_482 : decode cL_areCoroutinesRight 482 = .ok (.iconst 0, 1) := by decide +kernel
theorem dL_areCoroutinesRight_483 : decode cL_areCoroutinesRight 483 = .ok (.istore 6, 2) := by decide +kernel
theorem dL_areCoroutinesRight_485 : decode cL_areCoroutinesRight 485 = .ok (.iload 6, 2) := by decide +kernel
theorem dL_areCoroutinesRight_487 : decode cL_areCoroutinesRight 487 = .ok (.iconst 5, 1) := by decide +kernel
theorem dL_areCoroutinesRight_488 : decode cL_areCoroutinesRight 488 = .ok (.if_icmp .ge 21, 3) := by decide +kernel
theorem dL_areCoroutinesRight_491 : decode cL_areCoroutinesRight 491 = .ok (.iload 5, 2) := by decide +kernel
theorem dL_areCoroutinesRight_493 : decode cL_areCoroutinesRight 493 = .ok (.aload_n 0, 1) := by decide +kernel
theorem dL_areCoroutinesRight_494 : decode cL_areCoroutinesRight 494 = .ok (.iload 6, 2) := by decide +kernel
theorem dL_areCoroutinesRight_496 : decode cL_areCoroutinesRight 496 = .ok (.iconst 1, 1) := by decide +kernel
theorem dL_areCoroutinesRight_497 : decode cL_areCoroutinesRight 497 = .ok (.invokevirtual 120, 3) := by decide +kernel
theorem dL_areCoroutinesRight_500 : decode cL_areCoroutinesRight 500 = .ok (.iadd, 1) := by decide +kernel
theorem dL_areCoroutinesRight_501 : decode cL_areCoroutinesRight 501 = .ok (.istore 5, 2) := by decide +kernel
theorem dL_areCoroutinesRight_503 : decode cL_areCoroutinesRight 503 = .ok (.iinc 6 1, 3) := by decide +kernel
theorem dL_areCoroutinesRight_506 : decode cL_areCoroutinesRight 506 = .ok (.goto (-21), 3) := by decide +kernel
theorem dL_areCoroutinesRight_509 : decode cL_areCoroutinesRight 509 = .ok (.iload 5, 2) := by decide +kernel
theorem dL_areCoroutinesRight_511 : decode cL_areCoroutinesRight 511 = .ok (.aload_n 0, 1) := by decide +kernel
theorem dL_areCoroutinesRight_512 : decode cL_areCoroutinesRight 512 = .ok (.iconst 1, 1) := by decide +kernel
theorem dL_areCoroutinesRight_513 : decode cL_areCoroutinesRight 513 = .ok (.invokevirtual 39, 3) := by decide +kernel
theorem dL_areCoroutinesRight_516 : decode cL_areCoroutinesRight 516 = .ok (.if_icmp .ne 115, 3) := by decide +kernel
theorem dL_areCoroutinesRight_519 : decode cL_areCoroutinesRight 519 = .ok (.aload_n 0, 1) := by decide +kernel
theorem dL_areCoroutinesRight_520 : decode cL_areCoroutinesRight 520 = .ok (.iconst 2, 1) := by decide +kernel
theorem dL_areCoroutinesRight_521 : decode cL_areCoroutinesRight 521 = .ok (.invokevirtual 39, 3) := by decide +kernel
theorem dL_areCoroutinesRight_524 : decode cL_areCoroutinesRight 524 = .ok (.aload_n 3, 1) := by decide +kernel
theorem dL_areCoroutinesRight_525 : decode cL_areCoroutinesRight 525 = .ok (.iconst 0, 1) := by decide +kernel
theorem dL_areCoroutinesRight_526 : decode cL_areCoroutinesRight 526 = .ok (.iaload, 1) := by decide +kernel
theorem dL_areCoroutinesRight_527 : decode cL_areCoroutinesRight 527 = .ok (.if_icmp .ne 104, 3) := by decide +kernel
theorem dL_areCoroutinesRight_530 : decode cL_areCoroutinesRight 530 = .ok (.aload_n 0, 1) := by decide +kernel
theorem dL_areCoroutinesRight_531 : decode cL_areCoroutinesRight 531 = .ok (.iconst 3, 1) := by decide +kernel
theorem dL_areCoroutinesRight_532 : decode cL_areCoroutinesRight 532 = .ok (.invokevirtual 39, 3) := by decide +kernel
theorem dL_areCoroutinesRight_535 : decode cL_areCoroutinesRight 535 = .ok (.aload_n 3, 1) := by decide +kernel
theorem dL_areCoroutinesRight_536 : decode cL_areCoroutinesRight 536 = .ok (.iconst 1, 1) := by decide +kernel
theorem dL_areCoroutinesRight_537 : decode cL_areCoroutinesRight 537 = .ok (.iaload, 1) := by decide +kernel
theorem dL_areCoroutinesRight_538 : decode cL_areCoroutinesRight 538 = .ok (.if_icmp .ne 93, 3) := by decide +kernel
theorem dL_areCoroutinesRight_541 : decode cL_areCoroutinesRight 541 = .ok (.aload_n 0, 1) := by decide +kernel
theorem dL_areCoroutinesRight_542 : decode cL_areCoroutinesRight 542 = .ok (.iconst 4, 1) := by decide +kernel
theorem dL_areCoroutinesRight_543 : decode cL_areCoroutinesRight 543 = .ok (.invokevirtual 39, 3) := by decide +kernel
theorem dL_areCoroutinesRight_546 : decode cL_areCoroutinesRight 546 = .ok (.aload_n 2, 1) := by decide +kernel
theorem dL_areCoroutinesRight_547 : decode cL_areCoroutinesRight 547 = .ok (.iconst 0, 1) := by decide +kernel
theorem dL_areCoroutinesRight_548 : decode cL_areCoroutinesRight 548 = .ok (.iaload, 1) := by decide +kernel
theorem dL_areCoroutinesRight_549 : decode cL_areCoroutinesRight 549 = .ok (.if_icmp .ne 82, 3) := by decide +kernel
theorem dL_areCoroutinesRight_552 : decode cL_areCoroutinesRight 552 = .ok (.aload_n 0, 1) := by decide +kernel
theorem dL_areCoroutinesRight_553 : decode cL_areCoroutinesRight 553 = .ok (.iconst 5, 1) := by decide +kernel
theorem dL_areCoroutinesRight_554 : decode cL_areCoroutinesRight 554 = .ok (.invokevirtual 39, 3) := by decide +kernel
theorem dL_areCoroutinesRight_557 : decode cL_areCoroutinesRight 557 = .ok (.aload_n 2, 1) := by decide +kernel
theorem dL_areCoroutinesRight_558 : decode cL_areCoroutinesRight 558 = .ok (.iconst 1, 1) := by decide +kernel
theorem dL_areCoroutinesRight_559 : decode cL_areCoroutinesRight 559 = .ok (.iaload, 1) := by decide +kernel
theorem dL_areCoroutinesRight_560 : decode cL_areCoroutinesRight 560 = .ok (.if_icmp .ne 71, 3) := by decide +kernel
theorem dL_areCoroutinesRight_563 : decode cL_areCoroutinesRight 563 = .ok (.aload_n 0, 1) := by decide +kernel
theorem dL_areCoroutinesRight_564 : decode cL_areCoroutinesRight 564 = .ok (.bipush 6, 2) := by decide +kernel
theorem dL_areCoroutinesRight_566 : decode cL_areCoroutinesRight 566 = .ok (.invokevirtual 39, 3) := by decide +kernel
theorem dL_areCoroutinesRight_569 : decode cL_areCoroutinesRight 569 = .ok (.aload_n 2, 1) := by decide +kernel
theorem dL_areCoroutinesRight_570 : decode cL_areCoroutinesRight 570 = .ok (.iconst 3, 1) := by decide +kernel
theorem dL_areCoroutinesRight_571 : decode cL_areCoroutinesRight 571 = .ok (.iaload, 1) := by decide +kernel
theorem dL_areCoroutinesRight_572 : decode cL_areCoroutinesRight 572 = .ok (.if_icmp .ne 59, 3) := by decide +kernel
theorem dL_areCoroutinesRight_575 : decode cL_areCoroutinesRight 575 = .ok (.aload_n 0, 1) := by decide +kernel
theorem dL_areCoroutinesRight_576 : decode cL_areCoroutinesRight 576 = .ok (.bipush 7, 2) := by decide +kernel
theorem dL_areCoroutinesRight_578 : decode cL_areCoroutinesRight 578 = .ok (.invokevirtual 39, 3) := by decide +kernel
theorem dL_areCoroutinesRight_581 : decode cL_areCoroutinesRight 581 = .ok (.aload_n 2, 1) := by decide +kernel
theorem dL_areCoroutinesRight_582 : decode cL_areCoroutinesRight 582 = .ok (.iconst 4, 1) := by decide +kernel
theorem dL_areCoroutinesRight_583 : decode cL_areCoroutinesRight 583 = .ok (.iaload, 1) := by decide +kernel
theorem dL_areCoroutinesRight_584 : decode cL_areCoroutinesRight 584 = .ok (.if_icmp .ne 47, 3) := by decide +kernel
theorem dL_areCoroutinesRight_587 : decode cL_areCoroutinesRight 587 = .ok (.aload_n 0, 1) := by decide +kernel
theorem dL_areCoroutinesRight_588 : decode cL_areCoroutinesRight 588 = .ok (.bipush 10, 2) := by decide +kernel
theorem dL_areCoroutinesRight_590 : decode cL_areCoroutinesRight 590 = .ok (.invokevirtual 39, 3) := by decide +kernel
theorem dL_areCoroutinesRight_593 : decode cL_areCoroutinesRight 593 = .ok (.iload 4, 2) := by decide +kernel
theorem dL_areCoroutinesRight_595 : decode cL_areCoroutinesRight 595 = .ok (.if_icmp .ne 36, 3) := by decide +kernel
theorem dL_areCoroutinesRight_598 : decode cL_areCoroutinesRight 598 = .ok (.aload_n 0, 1) := by decide +kernel
theorem dL_areCoroutinesRight_599 : decode cL_areCoroutinesRight 599 = .ok (.invokevirtual 123, 3) := by decide +kernel
theorem dL_areCoroutinesRight_602 : decode cL_areCoroutinesRight 602 = .ok (.iconst 1, 1) := by decide +kernel
theorem dL_areCoroutinesRight_603 : decode cL_areCoroutinesRight 603 = .ok (.aload_n 0, 1) := by decide +kernel
theorem dL_areCoroutinesRight_604 : decode cL_areCoroutinesRight 604 = .ok (.iconst 1, 1) := by decide +kernel
theorem dL_areCoroutinesRight_605 : decode cL_areCoroutinesRight 605 = .ok (.invokevirtual 39, 3) := by decide +kernel
theorem dL_areCoroutinesRight_608 : decode cL_areCoroutinesRight 608 = .ok (.invokestatic 57, 3) := by decide +kernel
theorem dL_areCoroutinesRight_611 : decode cL_areCoroutinesRight 611 = .ok (.i2d, 1) := by decide +kernel
theorem dL_areCoroutinesRight_612 : decode cL_areCoroutinesRight 612 = .ok (.dmul, 1) := by decide +kernel
theorem dL_areCoroutinesRight_613 : decode cL_areCoroutinesRight 613 = .ok (.iload 4, 2) := by decide +kernel
theorem dL_areCoroutinesRight_615 : decode cL_areCoroutinesRight 615 = .ok (.i2d, 1) := by decide +kernel
theorem dL_areCoroutinesRight_616 : decode cL_areCoroutinesRight 616 = .ok (.dsub, 1) := by decide +kernel
theorem dL_areCoroutinesRight_617 : decode cL_areCoroutinesRight 617 = .ok (.invokestatic 127, 3) := by decide +kernel
theorem dL_areCoroutinesRight_620 : decode cL_areCoroutinesRight 620 = .ok (.ldc2_w 130, 3) := by decide +kernel
theorem dL_areCoroutinesRight_623 : decode cL_areCoroutinesRight 623 = .ok (.dcmp .g, 1) := by decide +kernel
theorem dL_areCoroutinesRight_624 : decode cL_areCoroutinesRight 624 = .ok (.ifCond .ge 7, 3) := by decide +kernel
theorem dL_areCoroutinesRight_627 : decode cL_areCoroutinesRight 627 = .ok (.iconst 1, 1) := by decide +kernel
theorem dL_areCoroutinesRight_628 : decode cL_areCoroutinesRight 628 = .ok (.goto 4, 3) := by decide +kernel
theorem dL_areCoroutinesRight_631 : decode cL_areCoroutinesRight 631 = .ok (.iconst 0, 1) := by decide +kernel
theorem dL_areCoroutinesRight_632 : decode cL_areCoroutinesRight 632 = .ok (.ireturn, 1) := by decide +kernel
theorem dL_areTasksRight_0 : decode cL_areTasksRight 0 = .ok (.bipush 24, 2) := by decide +kernel
theorem dL_areTasksRight_2 : decode cL_areTasksRight 2 = .ok (.newarray .boolean, 2) := by decide +kernel
theorem dL_areTasksRight_4 : decode cL_areTasksRight 4 = .ok (.astore_n 1, 1) := by decide +kernel
theorem dL_areTasksRight_5 : decode cL_areTasksRight 5 = .ok (.iconst 0, 1) := by decide +kernel
theorem dL_areTasksRight_6 : decode cL_areTasksRight 6 = .ok (.istore_n 2, 1) := by decide +kernel
theorem dL_areTasksRight_7 : decode cL_areTasksRight 7 = .ok (.iconst 0, 1) := by decide +kernel
theorem dL_areTasksRight_8 : decode cL_areTasksRight 8 = .ok (.istore_n 3, 1) := by decide +kernel
theorem dL_areTasksRight_9 : decode cL_areTasksRight 9 = .ok (.iconst 0, 1) := by decide +kernel
theorem dL_areTasksRight_10 : decode cL_areTasksRight 10 = .ok (.istore 4, 2) := by decide +kernel
theorem dL_areTasksRight_12 : decode cL_areTasksRight 12 = .ok (.iload 4, 2) := by decide +kernel
theorem dL_areTasksRight_14 : decode cL_areTasksRight 14 = .ok (.aload_n 0, 1) := by decide +kernel
theorem dL_areTasksRight_15 : decode cL_areTasksRight 15 = .ok (.iconst 1, 1) := by decide +kernel
theorem dL_areTasksRight_16 : decode cL_areTasksRight 16 = .ok (.invokevirtual 39, 3) := by decide +kernel
theorem dL_areTasksRight_19 : decode cL_areTasksRight 19 = .ok (.if_icmp .ge 284, 3) := by decide +kernel
theorem dL_areTasksRight_22 : decode cL_areTasksRight 22 = .ok (.aload_n 0, 1) := by decide +kernel
theorem dL_areTasksRight_23 : decode cL_areTasksRight 23 = .ok (.iload 4, 2) := by decide +kernel
theorem dL_areTasksRight_25 : decode cL_areTasksRight 25 = .ok (.iconst 2, 1) := by decide +kernel
theorem dL_areTasksRight_26 : decode cL_areTasksRight 26 = .ok (.invokevirtual 43, 3) := by decide +kernel
theorem dL_areTasksRight_29 : decode cL_areTasksRight 29 = .ok (.iconst 1, 1) := by decide +kernel
theorem dL_areTasksRight_30 : decode cL_areTasksRight 30 = .ok (.if_icmp .eq 6, 3) := by decide +kernel
theorem dL_areTasksRight_33 : decode cL_areTasksRight 33 = .ok (.goto 264, 3) := by decide +kernel
theorem dL_areTasksRight_36 : decode cL_areTasksRight 36 = .ok (.aload_n 0, 1) := by decide +kernel
theorem dL_areTasksRight_37 : decode cL_areTasksRight 37 = .ok (.iload 4, 2) := by decide +kernel
theorem dL_areTasksRight_39 : decode cL_areTasksRight 39 = .ok (.iconst 0, 1) := by decide +kernel
theorem dL_areTasksRight_40 : decode cL_areTasksRight 40 = .ok (.invokevirtual 68, 3) := by decide +kernel
theorem dL_areTasksRight_43 : decode cL_areTasksRight 43 = .ok (.istore 5, 2) := by decide +kernel
theorem dL_areTasksRight_45 : decode cL_areTasksRight 45 = .ok (.aload_n 0, 1) := by decide +kernel
theorem dL_areTasksRight_46 : decode cL_areTasksRight 46 = .ok (.iload 4, 2) := by decide +kernel
theorem dL_areTasksRight_48 : decode cL_areTasksRight 48 = .ok (.iconst 2, 1) := by decide +kernel
theorem dL_areTasksRight_49 : decode cL_areTasksRight 49 = .ok (.invokevirtual 68, 3) := by decide +kernel
theorem dL_areTasksRight_52 : decode cL_areTasksRight 52 = .ok (.istore 6, 2) := by decide +kernel
theorem dL_areTasksRight_54 : decode cL_areTasksRight 54 = .ok (.aload_n 0, 1) := by decide +kernel
theorem dL_areTasksRight_55 : decode cL_areTasksRight 55 = .ok (.iload 4, 2) := by decide +kernel
theorem dL_areTasksRight_57 : decode cL_areTasksRight 57 = .ok (.iconst 1, 1) := by decide +kernel
theorem dL_areTasksRight_58 : decode cL_areTasksRight 58 = .ok (.invokevirtual 43, 3) := by decide +kernel
theorem dL_areTasksRight_61 : decode cL_areTasksRight 61 = .ok (.iconst 2, 1) := by decide +kernel
theorem dL_areTasksRight_62 : decode cL_areTasksRight 62 = .ok (.if_icmp .le 7, 3) := by decide +kernel
theorem dL_areTasksRight_65 : decode cL_areTasksRight 65 = .ok (.iconst 1, 1) := by decide +kernel
theorem dL_areTasksRight_66 : decode cL_areTasksRight 66 = .ok (.goto 4, 3) := by decide +kernel
theorem dL_areTasksRight_69 : decode cL_areTasksRight 69 = .ok (.iconst 0, 1) := by decide +kernel
theorem dL_areTasksRight_70 : decode cL_areTasksRight 70 = .ok (.istore 7, 2) := by decide +kernel
theorem dL_areTasksRight_72 : decode cL_areTasksRight 72 = .ok (.iload_n 3, 1) := by decide +kernel
theorem dL_areTasksRight_73 : decode cL_areTasksRight 73 = .ok (.iload 7, 2) := by decide +kernel
theorem dL_areTasksRight_75 : decode cL_areTasksRight 75 = .ok (.ifCond .eq 7, 3) := by decide +kernel
theorem dL_areTasksRight_78 : decode cL_areTasksRight 78 = .ok (.iconst 1, 1) := by decide +kernel
theorem dL_areTasksRight_79 : decode cL_areTasksRight 79 = .ok (.goto 4, 3) := by decide +kernel
theorem dL_areTasksRight_82 : decode cL_areTasksRight 82 = .ok (.iconst 0, 1) := by decide +kernel
theorem dL_areTasksRight_83 : decode cL_areTasksRight 83 = .ok (.iadd, 1) := by decide +kernel
theorem dL_areTasksRight_84 : decode cL_areTasksRight 84 = .ok (.istore_n 3, 1) := by decide +kernel
theorem dL_areTasksRight_85 : decode cL_areTasksRight 85 = .ok (.iload 5, 2) := by decide +kernel
theorem dL_areTasksRight_87 : decode cL_areTasksRight 87 = .ok (.ifCond .lt 7, 3) := by decide +kernel
theorem dL_areTasksRight_90 : decode cL_areTasksRight 90 = .ok (.iconst 1, 1) := by decide +kernel
theorem dL_areTasksRight_91 : decode cL_areTasksRight 91 = .ok (.goto 4, 3) := by decide +kernel
theorem dL_areTasksRight_94 : decode cL_areTasksRight 94 = .ok (.iconst 0, 1) := by decide +kernel
theorem dL_areTasksRight_95 : decode cL_areTasksRight 95 = .ok (.aload_n 0, 1) := by decide +kernel
theorem dL_areTasksRight_96 : decode cL_areTasksRight 96 = .ok (.iload 4, 2) := by decide +kernel
theorem dL_areTasksRight_98 : decode cL_areTasksRight 98 = .ok (.iconst 1, 1) := by decide +kernel
theorem dL_areTasksRight_99 : decode cL_areTasksRight 99 = .ok (.invokevirtual 68, 3) := by decide +kernel
theorem dL_areTasksRight_102 : decode cL_areTasksRight 102 = .ok (.ifCond .lt 7, 3) := by decide +kernel
theorem dL_areTasksRight_105 : decode cL_areTasksRight 105 = .ok (.iconst 1, 1) := by decide +kernel
theorem dL_areTasksRight_106 : decode cL_areTasksRight 106 = .ok (.goto 4, 3) := by decide +kernel
theorem dL_areTasksRight_109 : decode cL_areTasksRight 109 = .ok (.iconst 0, 1) := by decide +kernel
theorem dL_areTasksRight_110 : decode cL_areTasksRight 110 = .ok (.iadd, 1) := by decide +kernel
theorem dL_areTasksRight_111 : decode cL_areTasksRight 111 = .ok (.iload 6, 2) := by decide +kernel
theorem dL_areTasksRight_113 : decode cL_areTasksRight 113 = .ok (.ifCond .lt 7, 3) := by decide +kernel
theorem dL_areTasksRight_116 : decode cL_areTasksRight 116 = .ok (.iconst 1, 1) := by decide +kernel
theorem dL_areTasksRight_117 : decode cL_areTasksRight 117 = .ok (.goto 4, 3) := by decide +kernel
theorem dL_areTasksRight_120 : decode cL_areTasksRight 120 = .ok (.iconst 0, 1) := by decide +kernel
theorem dL_areTasksRight_121 : decode cL_areTasksRight 121 = .ok (.iadd, 1) := by decide +kernel
theorem dL_areTasksRight_122 : decode cL_areTasksRight 122 = .ok (.istore 8, 2) := by decide +kernel
theorem dL_areTasksRight_124 : decode cL_areTasksRight 124 = .ok (.iload 8, 2) := by decide +kernel
theorem dL_areTasksRight_126 : decode cL_areTasksRight 126 = .ok (.iload 7, 2) := by decide +kernel
theorem dL_areTasksRight_128 : decode cL_areTasksRight 128 = .ok (.ifCond .eq 7, 3) := by decide +kernel
theorem dL_areTasksRight_131 : decode cL_areTasksRight 131 = .ok (.iconst 0, 1) := by decide +kernel
theorem dL_areTasksRight_132 : decode cL_areTasksRight 132 = .ok (.goto 4, 3) := by decide +kernel
theorem dL_areTasksRight_135 : decode cL_areTasksRight 135 = .ok (.iconst 1, 1) := by decide +kernel
theorem dL_areTasksRight_136 : decode cL_areTasksRight 136 = .ok (.if_icmp .ne 52, 3) := by decide +kernel
theorem dL_areTasksRight_139 : decode cL_areTasksRight 139 = .ok (.aload_n 0, 1) := by decide +kernel
theorem dL_areTasksRight_140 : decode cL_areTasksRight 140 = .ok (.iload 4, 2) := by decide +kernel
theorem dL_areTasksRight_142 : decode cL_areTasksRight 142 = .ok (.iconst 1, 1) := by decide +kernel
theorem dL_areTasksRight_143 : decode cL_areTasksRight 143 = .ok (.invokevirtual 68, 3) := by decide +kernel
theorem dL_areTasksRight_146 : decode cL_areTasksRight 146 = .ok (.ifCond .lt 19, 3) := by decide +kernel
theorem dL_areTasksRight_149 : decode cL_areTasksRight 149 = .ok (.aload_n 0, 1) := by decide +kernel
theorem dL_areTasksRight_150 : decode cL_areTasksRight 150 = .ok (.iload 4, 2) := by decide +kernel
theorem dL_areTasksRight_152 : decode cL_areTasksRight 152 = .ok (.iconst 1, 1) := by decide +kernel
theorem dL_areTasksRight_153 : decode cL_areTasksRight 153 = .ok (.invokevirtual 68, 3) := by decide +kernel
theorem dL_areTasksRight_156 : decode cL_areTasksRight 156 = .ok (.aload_n 0, 1) := by decide +kernel
theorem dL_areTasksRight_157 : decode cL_areTasksRight 157 = .ok (.bipush 9, 2) := by decide +kernel
theorem dL_areTasksRight_159 : decode cL_areTasksRight 159 = .ok (.invokevirtual 39, 3) := by decide +kernel
theorem dL_areTasksRight_162 : decode cL_areTasksRight 162 = .ok (.if_icmp .le 26, 3) := by decide +kernel
theorem dL_areTasksRight_165 : decode cL_areTasksRight 165 = .ok (.iload 5, 2) := by decide +kernel
theorem dL_areTasksRight_167 : decode cL_areTasksRight 167 = .ok (.aload_n 0, 1) := by decide +kernel
theorem dL_areTasksRight_168 : decode cL_areTasksRight 168 = .ok (.bipush 8, 2) := by decide +kernel
theorem dL_areTasksRight_170 : decode cL_areTasksRight 170 = .ok (.invokevirtual 39, 3) := by decide +kernel
theorem dL_areTasksRight_173 : decode cL_areTasksRight 173 = .ok (.if_icmp .ge 15, 3) := by decide +kernel
theorem dL_areTasksRight_176 : decode cL_areTasksRight 176 = .ok (.iload 5, 2) := by decide +kernel
theorem dL_areTasksRight_178 : decode cL_areTasksRight 178 = .ok (.ifCond .lt 12, 3) := by decide +kernel
theorem dL_areTasksRight_181 : decode cL_areTasksRight 181 = .ok (.aload_n 1, 1) := by decide +kernel
theorem dL_areTasksRight_182 : decode cL_areTasksRight 182 = .ok (.iload 5, 2) := by decide +kernel
theorem dL_areTasksRight_184 : decode cL_areTasksRight 184 = .ok (.baload, 1) := by decide +kernel
theorem dL_areTasksRight_185 : decode cL_areTasksRight 185 = .ok (.ifCond .eq 5, 3) := by decide +kernel
theorem dL_areTasksRight_188 : decode cL_areTasksRight 188 = .ok (.iconst 0, 1) := by decide +kernel
theorem dL_areTasksRight_189 : decode cL_areTasksRight 189 = .ok (.ireturn, 1) := by decide +kernel
theorem dL_areTasksRight_190 : decode cL_areTasksRight 190 = .ok (.iload 5, 2) := by decide +kernel
theorem dL_areTasksRight_192 : decode cL_areTasksRight 192 = .ok (.ifCond .lt 11, 3) := by decide +kernel
theorem dL_areTasksRight_195 : decode cL_areTasksRight 195 = .ok (.aload_n 1, 1) := by decide +kernel
theorem dL_areTasksRight_196 : decode cL_areTasksRight 196 = .ok (.iload 5, 2) := by decide +kernel
theorem dL_areTasksRight_198 : decode cL_areTasksRight 198 = .ok (.iconst 1, 1) := by decide +kernel
theorem dL_areTasksRight_199 : decode cL_areTasksRight 199 = .ok (.bastore, 1) := by decide +kernel
theorem dL_areTasksRight_200 : decode cL_areTasksRight 200 = .ok (.iinc 2 1, 3) := by decide +kernel
theorem dL_areTasksRight_203 : decode cL_areTasksRight 203 = .ok (.iload 6, 2) := by decide +kernel
theorem dL_areTasksRight_205 : decode cL_areTasksRight 205 = .ok (.istore 9, 2) := by decide +kernel
theorem dL_areTasksRight_207 : decode cL_areTasksRight 207 = .ok (.iconst 0, 1) := by decide +kernel
theorem dL_areTasksRight_208 : decode cL_areTasksRight 208 = .ok (.istore 10, 2) := by decide +kernel
theorem dL_areTasksRight_210 : decode cL_areTasksRight 210 = .ok (.iload 9, 2) := by decide +kernel
theorem dL_areTasksRight_212 : decode cL_areTasksRight 212 = .ok (.ifCond .lt 45, 3) := by decide +kernel
theorem dL_areTasksRight_215 : decode cL_areTasksRight 215 = .ok (.iload 9, 2) := by decide +kernel
theorem dL_areTasksRight_217 : decode cL_areTasksRight 217 = .ok (.iload 4, 2) := by decide +kernel
theorem dL_areTasksRight_219 : decode cL_areTasksRight 219 = .ok (.if_icmp .eq 21, 3) := by decide +kernel
theorem dL_areTasksRight_222 : decode cL_areTasksRight 222 = .ok (.iload 10, 2) := by decide +kernel
theorem dL_areTasksRight_224 : decode cL_areTasksRight 224 = .ok (.bipush 24, 2) := by decide +kernel
theorem dL_areTasksRight_226 : decode cL_areTasksRight 226 = .ok (.if_icmp .gt 14, 3) := by decide +kernel
theorem dL_areTasksRight_229 : decode cL_areTasksRight 229 = .ok (.aload_n 0, 1) := by decide +kernel
theorem dL_areTasksRight_230 : decode cL_areTasksRight 230 = .ok (.iload 9, 2) := by decide +kernel
theorem dL_areTasksRight_232 : decode cL_areTasksRight 232 = .ok (.iconst 2, 1) := by decide +kernel
theorem dL_areTasksRight_233 : decode cL_areTasksRight 233 = .ok (.invokevirtual 43, 3) := by decide +kernel
theorem dL_areTasksRight_236 : decode cL_areTasksRight 236 = .ok (.iconst 1, 1) := by decide +kernel
theorem dL_areTasksRight_237 : decode cL_areTasksRight 237 = .ok (.if_icmp .eq 5, 3) := by decide +kernel
theorem dL_areTasksRight_240 : decode cL_areTasksRight 240 = .ok (.iconst 0, 1) := by decide +kernel
theorem dL_areTasksRight_241 : decode cL_areTasksRight 241 = .ok (.ireturn, 1) := by decide +kernel
theorem dL_areTasksRight_242 : decode cL_areTasksRight 242 = .ok (.aload_n 0, 1) := by decide +kernel
theorem dL_areTasksRight_243 : decode cL_areTasksRight 243 = .ok (.iload 9, 2) := by decide +kernel
theorem dL_areTasksRight_245 : decode cL_areTasksRight 245 = .ok (.iconst 2, 1) := by decide +kernel
theorem dL_areTasksRight_246 : decode cL_areTasksRight 246 = .ok (.invokevirtual 68, 3) := by decide +kernel
theorem dL_areTasksRight_249 : decode cL_areTasksRight 249 = .ok (.istore 9, 2) := by decide +kernel
theorem dL_areTasksRight_251 : decode cL_areTasksRight 251 = .ok (.iinc 10 1, 3) := by decide +kernel
theorem dL_areTasksRight_254 : decode cL_areTasksRight 254 = .ok (.goto (-44), 3) := by decide +kernel
theorem dL_areTasksRight_257 : decode cL_areTasksRight 257 = .ok (.iload 6, 2) := by decide +kernel
theorem dL_areTasksRight_259 : decode cL_areTasksRight 259 = .ok (.ifCond .lt 14, 3) := by decide +kernel
theorem dL_areTasksRight_262 : decode cL_areTasksRight 262 = .ok (.aload_n 0, 1) := by decide +kernel
theorem dL_areTasksRight_263 : decode cL_areTasksRight 263 = .ok (.iload 6, 2) := by decide +kernel
theorem dL_areTasksRight_265 : decode cL_areTasksRight 265 = .ok (.iconst 1, 1) := by decide +kernel
theorem dL_areTasksRight_266 : decode cL_areTasksRight 266 = .ok (.invokevirtual 43, 3) := by decide +kernel
theorem dL_areTasksRight_269 : decode cL_areTasksRight 269 = .ok (.iconst 2, 1) := by decide +kernel
theorem dL_areTasksRight_270 : decode cL_areTasksRight 270 = .ok (.if_icmp .gt 25, 3) := by decide +kernel
theorem dL_areTasksRight_273 : decode cL_areTasksRight 273 = .ok (.aload_n 0, 1) := by decide +kernel
theorem dL_areTasksRight_274 : decode cL_areTasksRight 274 = .ok (.iload 4, 2) := by decide +kernel
theorem dL_areTasksRight_276 : decode cL_areTasksRight 276 = .ok (.iconst 3, 1) := by decide +kernel
theorem dL_areTasksRight_277 : decode cL_areTasksRight 277 = .ok (.invokevirtual 68, 3) := by decide +kernel
theorem dL_areTasksRight_280 : decode cL_areTasksRight 280 = .ok (.ifCond .lt 15, 3) := by decide +kernel
theorem dL_areTasksRight_283 : decode cL_areTasksRight 283 = .ok (.aload_n 0, 1) := by decide +kernel
theorem dL_areTasksRight_284 : decode cL_areTasksRight 284 = .ok (.iload 4, 2) := by decide +kernel
theorem dL_areTasksRight_286 : decode cL_areTasksRight 286 = .ok (.iconst 5, 1) := by decide +kernel
theorem dL_areTasksRight_287 : decode cL_areTasksRight 287 = .ok (.invokevirtual 68, 3) := by decide +kernel
theorem dL_areTasksRight_290 : decode cL_areTasksRight 290 = .ok (.iload 4, 2) := by decide +kernel
theorem dL_areTasksRight_292 : decode cL_areTasksRight 292 = .ok (.if_icmp .lt 5, 3) := by decide +kernel
theorem dL_areTasksRight_295 : decode cL_areTasksRight 295 = .ok (.iconst 0, 1) := by decide +kernel
theorem dL_areTasksRight_296 : decode cL_areTasksRight 296 = .ok (.ireturn, 1) := by decide +kernel
theorem dL_areTasksRight_297 : decode cL_areTasksRight 297 = .ok (.iinc 4 1, 3) := by decide +kernel
theorem dL_areTasksRight_300 : decode cL_areTasksRight 300 = .ok (.goto (-288), 3) := by decide +kernel
theorem dL_areTasksRight_303 : decode cL_areTasksRight 303 = .ok (.aload_n 0, 1) := by decide +kernel
theorem dL_areTasksRight_304 : decode cL_areTasksRight 304 = .ok (.bipush 8, 2) := by decide +kernel
theorem dL_areTasksRight_306 : decode cL_areTasksRight 306 = .ok (.invokevirtual 39, 3) := by decide +kernel
theorem dL_areTasksRight_309 : decode cL_areTasksRight 309 = .ok (.iload_n 2, 1) := by decide +kernel
theorem dL_areTasksRight_310 : decode cL_areTasksRight 310 = .ok (.if_icmp .ne 30, 3) := by decide +kernel
theorem dL_areTasksRight_313 : decode cL_areTasksRight 313 = .ok (.aload_n 0, 1) := by decide +kernel
theorem dL_areTasksRight_314 : decode cL_areTasksRight 314 = .ok (.iconst 1, 1) := by decide +kernel
theorem dL_areTasksRight_315 : decode cL_areTasksRight 315 = .ok (.invokevirtual 132, 3) := by decide +kernel
theorem dL_areTasksRight_318 : decode cL_areTasksRight 318 = .ok (.iload_n 3, 1) := by decide +kernel
theorem dL_areTasksRight_319 : decode cL_areTasksRight 319 = .ok (.if_icmp .lt 21, 3) := by decide +kernel
theorem dL_areTasksRight_322 : decode cL_areTasksRight 322 = .ok (.aload_n 0, 1) := by decide +kernel
theorem dL_areTasksRight_323 : decode cL_areTasksRight 323 = .ok (.bipush 50, 2) := by decide +kernel
theorem dL_areTasksRight_325 : decode cL_areTasksRight 325 = .ok (.invokevirtual 132, 3) := by decide +kernel
theorem dL_areTasksRight_328 : decode cL_areTasksRight 328 = .ok (.aload_n 0, 1) := by decide +kernel
theorem dL_areTasksRight_329 : decode cL_areTasksRight 329 = .ok (.iconst 1, 1) := by decide +kernel
theorem dL_areTasksRight_330 : decode cL_areTasksRight 330 = .ok (.invokevirtual 132, 3) := by decide +kernel
theorem dL_areTasksRight_333 : decode cL_areTasksRight 333 = .ok (.if_icmp .lt 7, 3) := by decide +kernel
theorem dL_areTasksRight_336 : decode cL_areTasksRight 336 = .ok (.iconst 1, 1) := by decide +kernel
theorem dL_areTasksRight_337 : decode cL_areTasksRight 337 = .ok (.goto 4, 3) := by decide +kernel
theorem dL_areTasksRight_340 : decode cL_areTasksRight 340 = .ok (.iconst 0, 1) := by decide +kernel
theorem dL_areTasksRight_341 : decode cL_areTasksRight 341 = .ok (.ireturn, 1) := by decide +kernel
