theorem dX12_rowFrom_21 : decode cX12_rowFrom 21 = .ok (.goto (-19), 3) := by decide +kernel
theorem dX12_rowFrom_24 : decode cX12_rowFrom 24 = .ok (.iload_n 3, 1) := by decide +kernel
theorem dX12_rowFrom_25 : decode cX12_rowFrom 25 = .ok (.ireturn, 1) := by decide +kernel
theorem dX12_isFraction_0 : decode cX12_isFraction 0 = .ok (.aload_n 0, 1) := by decide +kernel
theorem dX12_isFraction_1 : decode cX12_isFraction 1 = .ok (.iload_n 1, 1) := by decide +kernel
theorem dX12_isFraction_2 : decode cX12_isFraction 2 = .ok (.iload_n 2, 1) := by decide +kernel
theorem dX12_isFraction_3 : decode cX12_isFraction 3 = .ok (.iconst 5, 1) := by decide +kernel
theorem dX12_isFraction_4 : decode cX12_isFraction 4 = .ok (.invokestatic 229, 3) := by decide +kernel
theorem dX12_isFraction_7 : decode cX12_isFraction 7 = .ok (.istore_n 3, 1) := by decide +kernel
theorem dX12_isFraction_8 : decode cX12_isFraction 8 = .ok (.iload_n 3, 1) := by decide +kernel
theorem dX12_isFraction_9 : decode cX12_isFraction 9 = .ok (.iload_n 1, 1) := by decide +kernel
theorem dX12_isFraction_10 : decode cX12_isFraction 10 = .ok (.if_icmp .le 42, 3) := by decide +kernel
theorem dX12_isFraction_13 : decode cX12_isFraction 13 = .ok (.iload_n 3, 1) := by decide +kernel
theorem dX12_isFraction_14 : decode cX12_isFraction 14 = .ok (.iconst 1, 1) := by decide +kernel
theorem dX12_isFraction_15 : decode cX12_isFraction 15 = .ok (.iadd, 1) := by decide +kernel
theorem dX12_isFraction_16 : decode cX12_isFraction 16 = .ok (.iload_n 2, 1) := by decide +kernel
theorem dX12_isFraction_17 : decode cX12_isFraction 17 = .ok (.if_icmp .ge 35, 3) := by decide +kernel
theorem dX12_isFraction_20 : decode cX12_isFraction 20 = .ok (.aload_n 0, 1) := by decide +kernel
theorem dX12_isFraction_21 : decode cX12_isFraction 21 = .ok (.iload_n 3, 1) := by decide +kernel
theorem dX12_isFraction_22 : decode cX12_isFraction 22 = .ok (.iconst 1, 1) := by decide +kernel
theorem dX12_isFraction_23 : decode cX12_isFraction 23 = .ok (.isub, 1) := by decide +kernel
theorem dX12_isFraction_24 : decode cX12_isFraction 24 = .ok (.iaload, 1) := by decide +kernel
theorem dX12_isFraction_25 : decode cX12_isFraction 25 = .ok (.iconst 1, 1) := by decide +kernel
theorem dX12_isFraction_26 : decode cX12_isFraction 26 = .ok (.if_icmp .ne 26, 3) := by decide +kernel
theorem dX12_isFraction_29 : decode cX12_isFraction 29 = .ok (.aload_n 0, 1) := by decide +kernel
theorem dX12_isFraction_30 : decode cX12_isFraction 30 = .ok (.iload_n 3, 1) := by decide +kernel
theorem dX12_isFraction_31 : decode cX12_isFraction 31 = .ok (.iconst 1, 1) := by decide +kernel
theorem dX12_isFraction_32 : decode cX12_isFraction 32 = .ok (.iadd, 1) := by decide +kernel
theorem dX12_isFraction_33 : decode cX12_isFraction 33 = .ok (.iaload, 1) := by decide +kernel
theorem dX12_isFraction_34 : decode cX12_isFraction 34 = .ok (.iconst 1, 1) := by decide +kernel
theorem dX12_isFraction_35 : decode cX12_isFraction 35 = .ok (.if_icmp .eq 13, 3) := by decide +kernel
theorem dX12_isFraction_38 : decode cX12_isFraction 38 = .ok (.aload_n 0, 1) := by decide +kernel
theorem dX12_isFraction_39 : decode cX12_isFraction 39 = .ok (.iload_n 3, 1) := by decide +kernel
theorem dX12_isFraction_40 : decode cX12_isFraction 40 = .ok (.iconst 1, 1) := by decide +kernel
theorem dX12_isFraction_41 : decode cX12_isFraction 41 = .ok (.iadd, 1) := by decide +kernel
theorem dX12_isFraction_42 : decode cX12_isFraction 42 = .ok (.iaload, 1) := by decide +kernel
theorem dX12_isFraction_43 : decode cX12_isFraction 43 = .ok (.bipush 13, 2) := by decide +kernel
theorem dX12_isFraction_45 : decode cX12_isFraction 45 = .ok (.if_icmp .ne 7, 3) := by decide +kernel
theorem dX12_isFraction_48 : decode cX12_isFraction 48 = .ok (.iconst 1, 1) := by decide +kernel
theorem dX12_isFraction_49 : decode cX12_isFraction 49 = .ok (.goto 4, 3) := by decide +kernel
theorem dX12_isFraction_52 : decode cX12_isFraction 52 = .ok (.iconst 0, 1) := by decide +kernel
theorem dX12_isFraction_53 : decode cX12_isFraction 53 = .ok (.ireturn, 1) := by decide +kernel
theorem dX12_fits_0 : decode cX12_fits 0 = .ok (.aload_n 0, 1) := by decide +kernel
theorem dX12_fits_1 : decode cX12_fits 1 = .ok (.getfield 42, 3) := by decide +kernel
theorem dX12_fits_4 : decode cX12_fits 4 = .ok (.astore 4, 2) := by decide +kernel
theorem dX12_fits_6 : decode cX12_fits 6 = .ok (.aload 4, 2) := by decide +kernel
theorem dX12_fits_8 : decode cX12_fits 8 = .ok (.iload_n 2, 1) := by decide +kernel
theorem dX12_fits_9 : decode cX12_fits 9 = .ok (.iload_n 3, 1) := by decide +kernel
theorem dX12_fits_10 : decode cX12_fits 10 = .ok (.invokestatic 233, 3) := by decide +kernel
theorem dX12_fits_13 : decode cX12_fits 13 = .ok (.istore 5, 2) := by decide +kernel
theorem dX12_fits_15 : decode cX12_fits 15 = .ok (.aload 4, 2) := by decide +kernel
theorem dX12_fits_17 : decode cX12_fits 17 = .ok (.iload_n 2, 1) := by decide +kernel
theorem dX12_fits_18 : decode cX12_fits 18 = .ok (.iload_n 3, 1) := by decide +kernel
theorem dX12_fits_19 : decode cX12_fits 19 = .ok (.iconst 5, 1) := by decide +kernel
theorem dX12_fits_20 : decode cX12_fits 20 = .ok (.invokestatic 229, 3) := by decide +kernel
theorem dX12_fits_23 : decode cX12_fits 23 = .ok (.istore 6, 2) := by decide +kernel
theorem dX12_fits_25 : decode cX12_fits 25 = .ok (.aload 4, 2) := by decide +kernel
theorem dX12_fits_27 : decode cX12_fits 27 = .ok (.iload_n 2, 1) := by decide +kernel
theorem dX12_fits_28 : decode cX12_fits 28 = .ok (.iload_n 3, 1) := by decide +kernel
theorem dX12_fits_29 : decode cX12_fits 29 = .ok (.bipush 7, 2) := by decide +kernel
theorem dX12_fits_31 : decode cX12_fits 31 = .ok (.invokestatic 229, 3) := by decide +kernel
theorem dX12_fits_34 : decode cX12_fits 34 = .ok (.istore 7, 2) := by decide +kernel
theorem dX12_fits_36 : decode cX12_fits 36 = .ok (.iload 5, 2) := by decide +kernel
theorem dX12_fits_38 : decode cX12_fits 38 = .ok (.ifCond .ne 31, 3) := by decide +kernel
theorem dX12_fits_41 : decode cX12_fits 41 = .ok (.iload_n 1, 1) := by decide +kernel
theorem dX12_fits_42 : decode cX12_fits 42 = .ok (.iload 7, 2) := by decide +kernel
theorem dX12_fits_44 : decode cX12_fits 44 = .ok (.if_icmp .le 25, 3) := by decide +kernel
theorem dX12_fits_47 : decode cX12_fits 47 = .ok (.aload 4, 2) := by decide +kernel
theorem dX12_fits_49 : decode cX12_fits 49 = .ok (.iload_n 1, 1) := by decide +kernel
theorem dX12_fits_50 : decode cX12_fits 50 = .ok (.iaload, 1) := by decide +kernel
theorem dX12_fits_51 : decode cX12_fits 51 = .ok (.iconst 1, 1) := by decide +kernel
theorem dX12_fits_52 : decode cX12_fits 52 = .ok (.if_icmp .ne 15, 3) := by decide +kernel
theorem dX12_fits_55 : decode cX12_fits 55 = .ok (.iload_n 1, 1) := by decide +kernel
theorem dX12_fits_56 : decode cX12_fits 56 = .ok (.iload 7, 2) := by decide +kernel
theorem dX12_fits_58 : decode cX12_fits 58 = .ok (.iconst 4, 1) := by decide +kernel
theorem dX12_fits_59 : decode cX12_fits 59 = .ok (.iadd, 1) := by decide +kernel
theorem dX12_fits_60 : decode cX12_fits 60 = .ok (.if_icmp .ge 7, 3) := by decide +kernel
theorem dX12_fits_63 : decode cX12_fits 63 = .ok (.iconst 1, 1) := by decide +kernel
theorem dX12_fits_64 : decode cX12_fits 64 = .ok (.goto 4, 3) := by decide +kernel
theorem dX12_fits_67 : decode cX12_fits 67 = .ok (.iconst 0, 1) := by decide +kernel
theorem dX12_fits_68 : decode cX12_fits 68 = .ok (.ireturn, 1) := by decide +kernel
theorem dX12_fits_69 : decode cX12_fits 69 = .ok (.aload 4, 2) := by decide +kernel
theorem dX12_fits_71 : decode cX12_fits 71 = .ok (.iload_n 1, 1) := by decide +kernel
theorem dX12_fits_72 : decode cX12_fits 72 = .ok (.iaload, 1) := by decide +kernel
theorem dX12_fits_73 : decode cX12_fits 73 = .ok (.tableswitch 232 1 13 #[175, 103, 126, 126, 67, 232, 137, 232, 232, 232, 232, 232, 84], 67) := by decide +kernel
theorem dX12_fits_140 : decode cX12_fits 140 = .ok (.iload 5, 2) := by decide +kernel
theorem dX12_fits_142 : decode cX12_fits 142 = .ok (.ifCond .eq 13, 3) := by decide +kernel
theorem dX12_fits_145 : decode cX12_fits 145 = .ok (.iload_n 1, 1) := by decide +kernel
theorem dX12_fits_146 : decode cX12_fits 146 = .ok (.iload 6, 2) := by decide +kernel
theorem dX12_fits_148 : decode cX12_fits 148 = .ok (.if_icmp .ne 7, 3) := by decide +kernel
theorem dX12_fits_151 : decode cX12_fits 151 = .ok (.iconst 1, 1) := by decide +kernel
theorem dX12_fits_152 : decode cX12_fits 152 = .ok (.goto 4, 3) := by decide +kernel
theorem dX12_fits_155 : decode cX12_fits 155 = .ok (.iconst 0, 1) := by decide +kernel
theorem dX12_fits_156 : decode cX12_fits 156 = .ok (.ireturn, 1) := by decide +kernel
theorem dX12_fits_157 : decode cX12_fits 157 = .ok (.iload 5, 2) := by decide +kernel
theorem dX12_fits_159 : decode cX12_fits 159 = .ok (.ifCond .eq 15, 3) := by decide +kernel
theorem dX12_fits_162 : decode cX12_fits 162 = .ok (.iload_n 1, 1) := by decide +kernel
theorem dX12_fits_163 : decode cX12_fits 163 = .ok (.iload 6, 2) := by decide +kernel
theorem dX12_fits_165 : decode cX12_fits 165 = .ok (.iconst 1, 1) := by decide +kernel
theorem dX12_fits_166 : decode cX12_fits 166 = .ok (.iadd, 1) := by decide +kernel
theorem dX12_fits_167 : decode cX12_fits 167 = .ok (.if_icmp .ne 7, 3) := by decide +kernel
theorem dX12_fits_170 : decode cX12_fits 170 = .ok (.iconst 1, 1) := by decide +kernel
theorem dX12_fits_171 : decode cX12_fits 171 = .ok (.goto 4, 3) := by decide +kernel
theorem dX12_fits_174 : decode cX12_fits 174 = .ok (.iconst 0, 1) := by decide +kernel
theorem dX12_fits_175 : decode cX12_fits 175 = .ok (.ireturn, 1) := by decide +kernel
theorem dX12_fits_176 : decode cX12_fits 176 = .ok (.iload 5, 2) := by decide +kernel
theorem dX12_fits_178 : decode cX12_fits 178 = .ok (.ifCond .ne 19, 3) := by decide +kernel
theorem dX12_fits_181 : decode cX12_fits 181 = .ok (.iload_n 1, 1) := by decide +kernel
theorem dX12_fits_182 : decode cX12_fits 182 = .ok (.aload 4, 2) := by decide +kernel
theorem dX12_fits_184 : decode cX12_fits 184 = .ok (.iload_n 2, 1) := by decide +kernel
theorem dX12_fits_185 : decode cX12_fits 185 = .ok (.iload_n 3, 1) := by decide +kernel
theorem dX12_fits_186 : decode cX12_fits 186 = .ok (.iconst 2, 1) := by decide +kernel
theorem dX12_fits_187 : decode cX12_fits 187 = .ok (.invokestatic 229, 3) := by decide +kernel
theorem dX12_fits_190 : decode cX12_fits 190 = .ok (.if_icmp .ne 7, 3) := by decide +kernel
theorem dX12_fits_193 : decode cX12_fits 193 = .ok (.iconst 1, 1) := by decide +kernel
theorem dX12_fits_194 : decode cX12_fits 194 = .ok (.goto 4, 3) := by decide +kernel
theorem dX12_fits_197 : decode cX12_fits 197 = .ok (.iconst 0, 1) := by decide +kernel
theorem dX12_fits_198 : decode cX12_fits 198 = .ok (.ireturn, 1) := by decide +kernel
theorem dX12_fits_199 : decode cX12_fits 199 = .ok (.iload 5, 2) := by decide +kernel
theorem dX12_fits_201 : decode cX12_fits 201 = .ok (.ifCond .ne 7, 3) := by decide +kernel
theorem dX12_fits_204 : decode cX12_fits 204 = .ok (.iconst 1, 1) := by decide +kernel
theorem dX12_fits_205 : decode cX12_fits 205 = .ok (.goto 4, 3) := by decide +kernel
theorem dX12_fits_208 : decode cX12_fits 208 = .ok (.iconst 0, 1) := by decide +kernel
theorem dX12_fits_209 : decode cX12_fits 209 = .ok (.ireturn, 1) := by decide +kernel
theorem dX12_fits_210 : decode cX12_fits 210 = .ok (.iload 5, 2) := by decide +kernel
theorem dX12_fits_212 : decode cX12_fits 212 = .ok (.ifCond .ne 34, 3) := by decide +kernel
theorem dX12_fits_215 : decode cX12_fits 215 = .ok (.iload_n 1, 1) := by decide +kernel
theorem dX12_fits_216 : decode cX12_fits 216 = .ok (.iload_n 2, 1) := by decide +kernel
theorem dX12_fits_217 : decode cX12_fits 217 = .ok (.if_icmp .le 29, 3) := by decide +kernel
theorem dX12_fits_220 : decode cX12_fits 220 = .ok (.aload 4, 2) := by decide +kernel
theorem dX12_fits_222 : decode cX12_fits 222 = .ok (.iload_n 1, 1) := by decide +kernel
theorem dX12_fits_223 : decode cX12_fits 223 = .ok (.iconst 1, 1) := by decide +kernel
theorem dX12_fits_224 : decode cX12_fits 224 = .ok (.isub, 1) := by decide +kernel
theorem dX12_fits_225 : decode cX12_fits 225 = .ok (.iaload, 1) := by decide +kernel
theorem dX12_fits_226 : decode cX12_fits 226 = .ok (.iconst 1, 1) := by decide +kernel
theorem dX12_fits_227 : decode cX12_fits 227 = .ok (.if_icmp .ne 19, 3) := by decide +kernel
theorem dX12_fits_230 : decode cX12_fits 230 = .ok (.aload 4, 2) := by decide +kernel
theorem dX12_fits_232 : decode cX12_fits 232 = .ok (.iload_n 1, 1) := by decide +kernel
theorem dX12_fits_233 : decode cX12_fits 233 = .ok (.iconst 1, 1) := by decide +kernel
theorem dX12_fits_234 : decode cX12_fits 234 = .ok (.iadd, 1) := by decide +kernel
theorem dX12_fits_235 : decode cX12_fits 235 = .ok (.iload_n 3, 1) := by decide +kernel
theorem dX12_fits_236 : decode cX12_fits 236 = .ok (.invokestatic 237, 3) := by decide +kernel
theorem dX12_fits_239 : decode cX12_fits 239 = .ok (.ifCond .le 7, 3) := by decide +kernel
theorem dX12_fits_242 : decode cX12_fits 242 = .ok (.iconst 1, 1) := by decide +kernel
theorem dX12_fits_243 : decode cX12_fits 243 = .ok (.goto 4, 3) := by decide +kernel
theorem dX12_fits_246 : decode cX12_fits 246 = .ok (.iconst 0, 1) := by decide +kernel
theorem dX12_fits_247 : decode cX12_fits 247 = .ok (.ireturn, 1) := by decide +kernel
theorem dX12_fits_248 : decode cX12_fits 248 = .ok (.iload 5, 2) := by decide +kernel
theorem dX12_fits_250 : decode cX12_fits 250 = .ok (.ifCond .eq 9, 3) := by decide +kernel
theorem dX12_fits_253 : decode cX12_fits 253 = .ok (.iload_n 1, 1) := by decide +kernel
theorem dX12_fits_254 : decode cX12_fits 254 = .ok (.iload 6, 2) := by decide +kernel
theorem dX12_fits_256 : decode cX12_fits 256 = .ok (.if_icmp .ge 5, 3) := by decide +kernel
theorem dX12_fits_259 : decode cX12_fits 259 = .ok (.iconst 1, 1) := by decide +kernel
theorem dX12_fits_260 : decode cX12_fits 260 = .ok (.ireturn, 1) := by decide +kernel
theorem dX12_fits_261 : decode cX12_fits 261 = .ok (.aload 4, 2) := by decide +kernel
theorem dX12_fits_263 : decode cX12_fits 263 = .ok (.iload 6, 2) := by decide +kernel
theorem dX12_fits_265 : decode cX12_fits 265 = .ok (.iconst 1, 1) := by decide +kernel
theorem dX12_fits_266 : decode cX12_fits 266 = .ok (.iadd, 1) := by decide +kernel
theorem dX12_fits_267 : decode cX12_fits 267 = .ok (.iaload, 1) := by decide +kernel
theorem dX12_fits_268 : decode cX12_fits 268 = .ok (.iconst 1, 1) := by decide +kernel
theorem dX12_fits_269 : decode cX12_fits 269 = .ok (.if_icmp .ne 34, 3) := by decide +kernel
theorem dX12_fits_272 : decode cX12_fits 272 = .ok (.iload_n 1, 1) := by decide +kernel
theorem dX12_fits_273 : decode cX12_fits 273 = .ok (.iload 6, 2) := by decide +kernel
theorem dX12_fits_275 : decode cX12_fits 275 = .ok (.iconst 4, 1) := by decide +kernel
theorem dX12_fits_276 : decode cX12_fits 276 = .ok (.iadd, 1) := by decide +kernel
theorem dX12_fits_277 : decode cX12_fits 277 = .ok (.if_icmp .ge 26, 3) := by decide +kernel
theorem dX12_fits_280 : decode cX12_fits 280 = .ok (.iload_n 1, 1) := by decide +kernel
theorem dX12_fits_281 : decode cX12_fits 281 = .ok (.iload 6, 2) := by decide +kernel
theorem dX12_fits_283 : decode cX12_fits 283 = .ok (.iconst 1, 1) := by decide +kernel
theorem dX12_fits_284 : decode cX12_fits 284 = .ok (.iadd, 1) := by decide +kernel
theorem dX12_fits_285 : decode cX12_fits 285 = .ok (.aload 4, 2) := by decide +kernel
theorem dX12_fits_287 : decode cX12_fits 287 = .ok (.iload 6, 2) := by decide +kernel
theorem dX12_fits_289 : decode cX12_fits 289 = .ok (.iconst 1, 1) := by decide +kernel
theorem dX12_fits_290 : decode cX12_fits 290 = .ok (.iadd, 1) := by decide +kernel
theorem dX12_fits_291 : decode cX12_fits 291 = .ok (.iload_n 3, 1) := by decide +kernel
theorem dX12_fits_292 : decode cX12_fits 292 = .ok (.invokestatic 237, 3) := by decide +kernel
theorem dX12_fits_295 : decode cX12_fits 295 = .ok (.iadd, 1) := by decide +kernel
theorem dX12_fits_296 : decode cX12_fits 296 = .ok (.if_icmp .ge 7, 3) := by decide +kernel
theorem dX12_fits_299 : decode cX12_fits 299 = .ok (.iconst 1, 1) := by decide +kernel
theorem dX12_fits_300 : decode cX12_fits 300 = .ok (.goto 4, 3) := by decide +kernel
theorem dX12_fits_303 : decode cX12_fits 303 = .ok (.iconst 0, 1) := by decide +kernel
theorem dX12_fits_304 : decode cX12_fits 304 = .ok (.ireturn, 1) := by decide +kernel
theorem dX12_fits_305 : decode cX12_fits 305 = .ok (.iconst 1, 1) := by decide +kernel
theorem dX12_fits_306 : decode cX12_fits 306 = .ok (.ireturn, 1) := by decide +kernel
theorem dX12_tenths_0 : decode cX12_tenths 0 = .ok (.iload_n 2, 1) := by decide +kernel
theorem dX12_tenths_1 : decode cX12_tenths 1 = .ok (.iload_n 3, 1) := by decide +kernel
theorem dX12_tenths_2 : decode cX12_tenths 2 = .ok (.if_icmp .le 43, 3) := by decide +kernel
theorem dX12_tenths_5 : decode cX12_tenths 5 = .ok (.aload_n 0, 1) := by decide +kernel
theorem dX12_tenths_6 : decode cX12_tenths 6 = .ok (.iload_n 2, 1) := by decide +kernel
theorem dX12_tenths_7 : decode cX12_tenths 7 = .ok (.iaload, 1) := by decide +kernel
theorem dX12_tenths_8 : decode cX12_tenths 8 = .ok (.iconst 2, 1) := by decide +kernel
theorem dX12_tenths_9 : decode cX12_tenths 9 = .ok (.if_icmp .ne 36, 3) := by decide +kernel
theorem dX12_tenths_12 : decode cX12_tenths 12 = .ok (.aload_n 0, 1) := by decide +kernel
theorem dX12_tenths_13 : decode cX12_tenths 13 = .ok (.iload_n 2, 1) := by decide +kernel
theorem dX12_tenths_14 : decode cX12_tenths 14 = .ok (.iconst 1, 1) := by decide +kernel
theorem dX12_tenths_15 : decode cX12_tenths 15 = .ok (.isub, 1) := by decide +kernel
theorem dX12_tenths_16 : decode cX12_tenths 16 = .ok (.iaload, 1) := by decide +kernel
theorem dX12_tenths_17 : decode cX12_tenths 17 = .ok (.bipush 10, 2) := by decide +kernel
theorem dX12_tenths_19 : decode cX12_tenths 19 = .ok (.if_icmp .eq 13, 3) := by decide +kernel
theorem dX12_tenths_22 : decode cX12_tenths 22 = .ok (.aload_n 0, 1) := by decide +kernel
theorem dX12_tenths_23 : decode cX12_tenths 23 = .ok (.iload_n 2, 1) := by decide +kernel
theorem dX12_tenths_24 : decode cX12_tenths 24 = .ok (.iconst 1, 1) := by decide +kernel
theorem dX12_tenths_25 : decode cX12_tenths 25 = .ok (.isub, 1) := by decide +kernel
theorem dX12_tenths_26 : decode cX12_tenths 26 = .ok (.iaload, 1) := by decide +kernel
theorem dX12_tenths_27 : decode cX12_tenths 27 = .ok (.bipush 12, 2) := by decide +kernel
theorem dX12_tenths_29 : decode cX12_tenths 29 = .ok (.if_icmp .ne 16, 3) := by decide +kernel
theorem dX12_tenths_32 : decode cX12_tenths 32 = .ok (.aload_n 1, 1) := by decide +kernel
theorem dX12_tenths_33 : decode cX12_tenths 33 = .ok (.iload_n 2, 1) := by decide +kernel
theorem dX12_tenths_34 : decode cX12_tenths 34 = .ok (.iconst 1, 1) := by decide +kernel
theorem dX12_tenths_35 : decode cX12_tenths 35 = .ok (.isub, 1) := by decide +kernel
theorem dX12_tenths_36 : decode cX12_tenths 36 = .ok (.iaload, 1) := by decide +kernel
theorem dX12_tenths_37 : decode cX12_tenths 37 = .ok (.bipush 8, 2) := by decide +kernel
theorem dX12_tenths_39 : decode cX12_tenths 39 = .ok (.idiv, 1) := by decide +kernel
theorem dX12_tenths_40 : decode cX12_tenths 40 = .ok (.bipush 115, 2) := by decide +kernel
theorem dX12_tenths_42 : decode cX12_tenths 42 = .ok (.if_icmp .eq 5, 3) := by decide +kernel
theorem dX12_tenths_45 : decode cX12_tenths 45 = .ok (.iconst 0, 1) := by decide +kernel
theorem dX12_tenths_46 : decode cX12_tenths 46 = .ok (.ireturn, 1) := by decide +kernel
theorem dX12_tenths_47 : decode cX12_tenths 47 = .ok (.iconst 0, 1) := by decide +kernel
theorem dX12_tenths_48 : decode cX12_tenths 48 = .ok (.istore 5, 2) := by decide +kernel
theorem dX12_tenths_50 : decode cX12_tenths 50 = .ok (.iload 5, 2) := by decide +kernel
theorem dX12_tenths_52 : decode cX12_tenths 52 = .ok (.iconst 3, 1) := by decide +kernel
theorem dX12_tenths_53 : decode cX12_tenths 53 = .ok (.if_icmp .ge 45, 3) := by decide +kernel
theorem dX12_tenths_56 : decode cX12_tenths 56 = .ok (.iload_n 2, 1) := by decide +kernel
theorem dX12_tenths_57 : decode cX12_tenths 57 = .ok (.iconst 1, 1) := by decide +kernel
theorem dX12_tenths_58 : decode cX12_tenths 58 = .ok (.iadd, 1) := by decide +kernel
theorem dX12_tenths_59 : decode cX12_tenths 59 = .ok (.iload 5, 2) := by decide +kernel
theorem dX12_tenths_61 : decode cX12_tenths 61 = .ok (.iadd, 1) := by decide +kernel
theorem dX12_tenths_62 : decode cX12_tenths 62 = .ok (.iload 4, 2) := by decide +kernel
theorem dX12_tenths_64 : decode cX12_tenths 64 = .ok (.if_icmp .ge 34, 3) := by decide +kernel
theorem dX12_tenths_67 : decode cX12_tenths 67 = .ok (.aload_n 0, 1) := by decide +kernel
theorem dX12_tenths_68 : decode cX12_tenths 68 = .ok (.iload_n 2, 1) := by decide +kernel
theorem dX12_tenths_69 : decode cX12_tenths 69 = .ok (.iconst 1, 1) := by decide +kernel
theorem dX12_tenths_70 : decode cX12_tenths 70 = .ok (.iadd, 1) := by decide +kernel
theorem dX12_tenths_71 : decode cX12_tenths 71 = .ok (.iload 5, 2) := by decide +kernel
theorem dX12_tenths_73 : decode cX12_tenths 73 = .ok (.iadd, 1) := by decide +kernel
theorem dX12_tenths_74 : decode cX12_tenths 74 = .ok (.iaload, 1) := by decide +kernel
theorem dX12_tenths_75 : decode cX12_tenths 75 = .ok (.iconst 1, 1) := by decide +kernel
theorem dX12_tenths_76 : decode cX12_tenths 76 = .ok (.if_icmp .ne 22, 3) := by decide +kernel
theorem dX12_tenths_79 : decode cX12_tenths 79 = .ok (.aload_n 1, 1) := by decide +kernel
theorem dX12_tenths_80 : decode cX12_tenths 80 = .ok (.iload_n 2, 1) := by decide +kernel
theorem dX12_tenths_81 : decode cX12_tenths 81 = .ok (.iconst 1, 1) := by decide +kernel
theorem dX12_tenths_82 : decode cX12_tenths 82 = .ok (.iadd, 1) := by decide +kernel
theorem dX12_tenths_83 : decode cX12_tenths 83 = .ok (.iload 5, 2) := by decide +kernel
theorem dX12_tenths_85 : decode cX12_tenths 85 = .ok (.iadd, 1) := by decide +kernel
theorem dX12_tenths_86 : decode cX12_tenths 86 = .ok (.iaload, 1) := by decide +kernel
theorem dX12_tenths_87 : decode cX12_tenths 87 = .ok (.bipush 48, 2) := by decide +kernel
theorem dX12_tenths_89 : decode cX12_tenths 89 = .ok (.if_icmp .ne 9, 3) := by decide +kernel
theorem dX12_tenths_92 : decode cX12_tenths 92 = .ok (.iinc 5 1, 3) := by decide +kernel
theorem dX12_tenths_95 : decode cX12_tenths 95 = .ok (.goto (-45), 3) := by decide +kernel
theorem dX12_tenths_98 : decode cX12_tenths 98 = .ok (.iload 5, 2) := by decide +kernel
theorem dX12_tenths_100 : decode cX12_tenths 100 = .ok (.ireturn, 1) := by decide +kernel
theorem dX12_isTenth_0 : decode cX12_isTenth 0 = .ok (.iconst 0, 1) := by decide +kernel
theorem dX12_isTenth_1 : decode cX12_isTenth 1 = .ok (.istore 5, 2) := by decide +kernel
theorem dX12_isTenth_3 : decode cX12_isTenth 3 = .ok (.iload_n 2, 1) := by decide +kernel
theorem dX12_isTenth_4 : decode cX12_isTenth 4 = .ok (.iconst 1, 1) := by decide +kernel
theorem dX12_isTenth_5 : decode cX12_isTenth 5 = .ok (.isub, 1) := by decide +kernel
theorem dX12_isTenth_6 : decode cX12_isTenth 6 = .ok (.istore 6, 2) := by decide +kernel
theorem dX12_isTenth_8 : decode cX12_isTenth 8 = .ok (.iload 6, 2) := by decide +kernel
theorem dX12_isTenth_10 : decode cX12_isTenth 10 = .ok (.iload_n 3, 1) := by decide +kernel
theorem dX12_isTenth_11 : decode cX12_isTenth 11 = .ok (.if_icmp .lt 46, 3) := by decide +kernel
theorem dX12_isTenth_14 : decode cX12_isTenth 14 = .ok (.iload 6, 2) := by decide +kernel
theorem dX12_isTenth_16 : decode cX12_isTenth 16 = .ok (.iload_n 2, 1) := by decide +kernel
theorem dX12_isTenth_17 : decode cX12_isTenth 17 = .ok (.iconst 3, 1) := by decide +kernel
theorem dX12_isTenth_18 : decode cX12_isTenth 18 = .ok (.isub, 1) := by decide +kernel
theorem dX12_isTenth_19 : decode cX12_isTenth 19 = .ok (.if_icmp .lt 38, 3) := by decide +kernel
theorem dX12_isTenth_22 : decode cX12_isTenth 22 = .ok (.iload 5, 2) := by decide +kernel
theorem dX12_isTenth_24 : decode cX12_isTenth 24 = .ok (.ifCond .ne 20, 3) := by decide +kernel
theorem dX12_isTenth_27 : decode cX12_isTenth 27 = .ok (.aload_n 0, 1) := by decide +kernel
theorem dX12_isTenth_28 : decode cX12_isTenth 28 = .ok (.aload_n 1, 1) := by decide +kernel
theorem dX12_isTenth_29 : decode cX12_isTenth 29 = .ok (.iload 6, 2) := by decide +kernel
theorem dX12_isTenth_31 : decode cX12_isTenth 31 = .ok (.iload_n 3, 1) := by decide +kernel
theorem dX12_isTenth_32 : decode cX12_isTenth 32 = .ok (.iload 4, 2) := by decide +kernel
theorem dX12_isTenth_34 : decode cX12_isTenth 34 = .ok (.invokestatic 241, 3) := by decide +kernel
theorem dX12_isTenth_37 : decode cX12_isTenth 37 = .ok (.iload_n 2, 1) := by decide +kernel
theorem dX12_isTenth_38 : decode cX12_isTenth 38 = .ok (.iload 6, 2) := by decide +kernel
theorem dX12_isTenth_40 : decode cX12_isTenth 40 = .ok (.isub, 1) := by decide +kernel
theorem dX12_isTenth_41 : decode cX12_isTenth 41 = .ok (.if_icmp .lt 7, 3) := by decide +kernel
theorem dX12_isTenth_44 : decode cX12_isTenth 44 = .ok (.iconst 1, 1) := by decide +kernel
theorem dX12_isTenth_45 : decode cX12_isTenth 45 = .ok (.goto 4, 3) := by decide +kernel
theorem dX12_isTenth_48 : decode cX12_isTenth 48 = .ok (.iconst 0, 1) := by decide +kernel
theorem dX12_isTenth_49 : decode cX12_isTenth 49 = .ok (.istore 5, 2) := by decide +kernel
theorem dX12_isTenth_51 : decode cX12_isTenth 51 = .ok (.iinc 6 (-1), 3) := by decide +kernel
theorem dX12_isTenth_54 : decode cX12_isTenth 54 = .ok (.goto (-46), 3) := by decide +kernel
theorem dX12_isTenth_57 : decode cX12_isTenth 57 = .ok (.iload 5, 2) := by decide +kernel
theorem dX12_isTenth_59 : decode cX12_isTenth 59 = .ok (.ireturn, 1) := by decide +kernel
theorem dX12_wrongIn_0 : decode cX12_wrongIn 0 = .ok (.aload_n 0, 1) := by decide +kernel
theorem dX12_wrongIn_1 : decode cX12_wrongIn 1 = .ok (.getfield 42, 3) := by decide +kernel
theorem dX12_wrongIn_4 : decode cX12_wrongIn 4 = .ok (.iload_n 2, 1) := by decide +kernel
theorem dX12_wrongIn_5 : decode cX12_wrongIn 5 = .ok (.iload_n 3, 1) := by decide +kernel
theorem dX12_wrongIn_6 : decode cX12_wrongIn 6 = .ok (.invokestatic 245, 3) := by decide +kernel
theorem dX12_wrongIn_9 : decode cX12_wrongIn 9 = .ok (.istore 4, 2) := by decide +kernel
theorem dX12_wrongIn_11 : decode cX12_wrongIn 11 = .ok (.iload_n 1, 1) := by decide +kernel
theorem dX12_wrongIn_12 : decode cX12_wrongIn 12 = .ok (.iconst 3, 1) := by decide +kernel
theorem dX12_wrongIn_13 : decode cX12_wrongIn 13 = .ok (.if_icmp .ne 21, 3) := by decide +kernel
theorem dX12_wrongIn_16 : decode cX12_wrongIn 16 = .ok (.iload 4, 2) := by decide +kernel
theorem dX12_wrongIn_18 : decode cX12_wrongIn 18 = .ok (.iconst 2, 1) := by decide +kernel
theorem dX12_wrongIn_19 : decode cX12_wrongIn 19 = .ok (.if_icmp .eq 15, 3) := by decide +kernel
theorem dX12_wrongIn_22 : decode cX12_wrongIn 22 = .ok (.iload 4, 2) := by decide +kernel
theorem dX12_wrongIn_24 : decode cX12_wrongIn 24 = .ok (.ifCond .eq 10, 3) := by decide +kernel
theorem dX12_wrongIn_27 : decode cX12_wrongIn 27 = .ok (.aload_n 0, 1) := by decide +kernel
theorem dX12_wrongIn_28 : decode cX12_wrongIn 28 = .ok (.getfield 51, 3) := by decide +kernel
theorem dX12_wrongIn_31 : decode cX12_wrongIn 31 = .ok (.iload_n 2, 1) := by decide +kernel
theorem dX12_wrongIn_32 : decode cX12_wrongIn 32 = .ok (.iaload, 1) := by decide +kernel
theorem dX12_wrongIn_33 : decode cX12_wrongIn 33 = .ok (.ireturn, 1) := by decide +kernel
theorem dX12_wrongIn_34 : decode cX12_wrongIn 34 = .ok (.iload_n 2, 1) := by decide +kernel
theorem dX12_wrongIn_35 : decode cX12_wrongIn 35 = .ok (.istore 5, 2) := by decide +kernel
theorem dX12_wrongIn_37 : decode cX12_wrongIn 37 = .ok (.iload 5, 2) := by decide +kernel
theorem dX12_wrongIn_39 : decode cX12_wrongIn 39 = .ok (.iload_n 3, 1) := by decide +kernel
theorem dX12_wrongIn_40 : decode cX12_wrongIn 40 = .ok (.if_icmp .ge 256, 3) := by decide +kernel
theorem dX12_wrongIn_43 : decode cX12_wrongIn 43 = .ok (.aload_n 0, 1) := by decide +kernel
theorem dX12_wrongIn_44 : decode cX12_wrongIn 44 = .ok (.getfield 42, 3) := by decide +kernel
theorem dX12_wrongIn_47 : decode cX12_wrongIn 47 = .ok (.iload 5, 2) := by decide +kernel
theorem dX12_wrongIn_49 : decode cX12_wrongIn 49 = .ok (.iaload, 1) := by decide +kernel
theorem dX12_wrongIn_50 : decode cX12_wrongIn 50 = .ok (.istore 6, 2) := by decide +kernel
theorem dX12_wrongIn_52 : decode cX12_wrongIn 52 = .ok (.iload 6, 2) := by decide +kernel
theorem dX12_wrongIn_54 : decode cX12_wrongIn 54 = .ok (.bipush 15, 2) := by decide +kernel
theorem dX12_wrongIn_56 : decode cX12_wrongIn 56 = .ok (.if_icmp .eq 25, 3) := by decide +kernel
theorem dX12_wrongIn_59 : decode cX12_wrongIn 59 = .ok (.iload 6, 2) := by decide +kernel
theorem dX12_wrongIn_61 : decode cX12_wrongIn 61 = .ok (.bipush 11, 2) := by decide +kernel
theorem dX12_wrongIn_63 : decode cX12_wrongIn 63 = .ok (.if_icmp .ne 14, 3) := by decide +kernel
theorem dX12_wrongIn_66 : decode cX12_wrongIn 66 = .ok (.iload 5, 2) := by decide +kernel
theorem dX12_wrongIn_68 : decode cX12_wrongIn 68 = .ok (.iload_n 2, 1) := by decide +kernel
theorem dX12_wrongIn_69 : decode cX12_wrongIn 69 = .ok (.if_icmp .ne 12, 3) := by decide +kernel
theorem dX12_wrongIn_72 : decode cX12_wrongIn 72 = .ok (.iload_n 1, 1) := by decide +kernel
theorem dX12_wrongIn_73 : decode cX12_wrongIn 73 = .ok (.iconst 2, 1) := by decide +kernel
theorem dX12_wrongIn_74 : decode cX12_wrongIn 74 = .ok (.if_icmp .ge 7, 3) := by decide +kernel
theorem dX12_wrongIn_77 : decode cX12_wrongIn 77 = .ok (.iconst 1, 1) := by decide +kernel
theorem dX12_wrongIn_78 : decode cX12_wrongIn 78 = .ok (.goto 4, 3) := by decide +kernel
theorem dX12_wrongIn_81 : decode cX12_wrongIn 81 = .ok (.iconst 0, 1) := by decide +kernel
theorem dX12_wrongIn_82 : decode cX12_wrongIn 82 = .ok (.istore 7, 2) := by decide +kernel
theorem dX12_wrongIn_84 : decode cX12_wrongIn 84 = .ok (.iload 4, 2) := by decide +kernel
theorem dX12_wrongIn_86 : decode cX12_wrongIn 86 = .ok (.iconst 1, 1) := by decide +kernel
theorem dX12_wrongIn_87 : decode cX12_wrongIn 87 = .ok (.if_icmp .ne 29, 3) := by decide +kernel
theorem dX12_wrongIn_90 : decode cX12_wrongIn 90 = .ok (.iload 7, 2) := by decide +kernel
theorem dX12_wrongIn_92 : decode cX12_wrongIn 92 = .ok (.ifCond .eq 18, 3) := by decide +kernel
theorem dX12_wrongIn_95 : decode cX12_wrongIn 95 = .ok (.aload_n 0, 1) := by decide +kernel
theorem dX12_wrongIn_96 : decode cX12_wrongIn 96 = .ok (.iload 5, 2) := by decide +kernel
theorem dX12_wrongIn_98 : decode cX12_wrongIn 98 = .ok (.iload_n 2, 1) := by decide +kernel
theorem dX12_wrongIn_99 : decode cX12_wrongIn 99 = .ok (.iload_n 3, 1) := by decide +kernel
theorem dX12_wrongIn_100 : decode cX12_wrongIn 100 = .ok (.invokevirtual 248, 3) := by decide +kernel
theorem dX12_wrongIn_103 : decode cX12_wrongIn 103 = .ok (.ifCond .eq 7, 3) := by decide +kernel
theorem dX12_wrongIn_106 : decode cX12_wrongIn 106 = .ok (.iconst 1, 1) := by decide +kernel
theorem dX12_wrongIn_107 : decode cX12_wrongIn 107 = .ok (.goto 4, 3) := by decide +kernel
theorem dX12_wrongIn_110 : decode cX12_wrongIn 110 = .ok (.iconst 0, 1) := by decide +kernel
theorem dX12_wrongIn_111 : decode cX12_wrongIn 111 = .ok (.istore 7, 2) := by decide +kernel
theorem dX12_wrongIn_113 : decode cX12_wrongIn 113 = .ok (.goto 59, 3) := by decide +kernel
theorem dX12_wrongIn_116 : decode cX12_wrongIn 116 = .ok (.iload 7, 2) := by decide +kernel
theorem dX12_wrongIn_118 : decode cX12_wrongIn 118 = .ok (.ifCond .eq 51, 3) := by decide +kernel
theorem dX12_wrongIn_121 : decode cX12_wrongIn 121 = .ok (.iload 6, 2) := by decide +kernel
theorem dX12_wrongIn_123 : decode cX12_wrongIn 123 = .ok (.bipush 7, 2) := by decide +kernel
theorem dX12_wrongIn_125 : decode cX12_wrongIn 125 = .ok (.if_icmp .eq 44, 3) := by decide +kernel
theorem dX12_wrongIn_128 : decode cX12_wrongIn 128 = .ok (.iload 6, 2) := by decide +kernel
theorem dX12_wrongIn_130 : decode cX12_wrongIn 130 = .ok (.bipush 13, 2) := by decide +kernel
theorem dX12_wrongIn_132 : decode cX12_wrongIn 132 = .ok (.if_icmp .eq 37, 3) := by decide +kernel
theorem dX12_wrongIn_135 : decode cX12_wrongIn 135 = .ok (.iload 6, 2) := by decide +kernel
theorem dX12_wrongIn_137 : decode cX12_wrongIn 137 = .ok (.iconst 1, 1) := by decide +kernel
theorem dX12_wrongIn_138 : decode cX12_wrongIn 138 = .ok (.if_icmp .ne 27, 3) := by decide +kernel
theorem dX12_wrongIn_141 : decode cX12_wrongIn 141 = .ok (.iload 4, 2) := by decide +kernel
theorem dX12_wrongIn_143 : decode cX12_wrongIn 143 = .ok (.iconst 3, 1) := by decide +kernel
theorem dX12_wrongIn_144 : decode cX12_wrongIn 144 = .ok (.if_icmp .ne 25, 3) := by decide +kernel
theorem dX12_wrongIn_147 : decode cX12_wrongIn 147 = .ok (.aload_n 0, 1) := by decide +kernel
theorem dX12_wrongIn_148 : decode cX12_wrongIn 148 = .ok (.getfield 42, 3) := by decide +kernel
theorem dX12_wrongIn_151 : decode cX12_wrongIn 151 = .ok (.aload_n 0, 1) := by decide +kernel
theorem dX12_wrongIn_152 : decode cX12_wrongIn 152 = .ok (.getfield 45, 3) := by decide +kernel
theorem dX12_wrongIn_155 : decode cX12_wrongIn 155 = .ok (.iload 5, 2) := by decide +kernel
theorem dX12_wrongIn_157 : decode cX12_wrongIn 157 = .ok (.iload_n 2, 1) := by decide +kernel
theorem dX12_wrongIn_158 : decode cX12_wrongIn 158 = .ok (.iload_n 3, 1) := by decide +kernel
theorem dX12_wrongIn_159 : decode cX12_wrongIn 159 = .ok (.invokestatic 252, 3) := by decide +kernel
theorem dX12_wrongIn_162 : decode cX12_wrongIn 162 = .ok (.ifCond .eq 7, 3) := by decide +kernel
theorem dX12_wrongIn_165 : decode cX12_wrongIn 165 = .ok (.iconst 1, 1) := by decide +kernel
theorem dX12_wrongIn_166 : decode cX12_wrongIn 166 = .ok (.goto 4, 3) := by decide +kernel
theorem dX12_wrongIn_169 : decode cX12_wrongIn 169 = .ok (.iconst 0, 1) := by decide +kernel
theorem dX12_wrongIn_170 : decode cX12_wrongIn 170 = .ok (.istore 7, 2) := by decide +kernel
theorem dX12_wrongIn_172 : decode cX12_wrongIn 172 = .ok (.iload 4, 2) := by decide +kernel
theorem dX12_wrongIn_174 : decode cX12_wrongIn 174 = .ok (.iconst 3, 1) := by decide +kernel
theorem dX12_wrongIn_175 : decode cX12_wrongIn 175 = .ok (.if_icmp .ne 35, 3) := by decide +kernel
theorem dX12_wrongIn_178 : decode cX12_wrongIn 178 = .ok (.iload 7, 2) := by decide +kernel
theorem dX12_wrongIn_180 : decode cX12_wrongIn 180 = .ok (.ifCond .eq 27, 3) := by decide +kernel
theorem dX12_wrongIn_183 : decode cX12_wrongIn 183 = .ok (.iload 6, 2) := by decide +kernel
theorem dX12_wrongIn_185 : decode cX12_wrongIn 185 = .ok (.iconst 4, 1) := by decide +kernel
theorem dX12_wrongIn_186 : decode cX12_wrongIn 186 = .ok (.if_icmp .eq 21, 3) := by decide +kernel
theorem dX12_wrongIn_189 : decode cX12_wrongIn 189 = .ok (.iload 6, 2) := by decide +kernel
theorem dX12_wrongIn_191 : decode cX12_wrongIn 191 = .ok (.bipush 6, 2) := by decide +kernel
theorem dX12_wrongIn_193 : decode cX12_wrongIn 193 = .ok (.if_icmp .eq 14, 3) := by decide +kernel
theorem dX12_wrongIn_196 : decode cX12_wrongIn 196 = .ok (.iload 6, 2) := by decide +kernel
theorem dX12_wrongIn_198 : decode cX12_wrongIn 198 = .ok (.bipush 8, 2) := by decide +kernel
theorem dX12_wrongIn_200 : decode cX12_wrongIn 200 = .ok (.if_icmp .eq 7, 3) := by decide +kernel
theorem dX12_wrongIn_203 : decode cX12_wrongIn 203 = .ok (.iconst 1, 1) := by decide +kernel
theorem dX12_wrongIn_204 : decode cX12_wrongIn 204 = .ok (.goto 4, 3) := by decide +kernel
theorem dX12_wrongIn_207 : decode cX12_wrongIn 207 = .ok (.iconst 0, 1) := by decide +kernel
theorem dX12_wrongIn_208 : decode cX12_wrongIn 208 = .ok (.istore 7, 2) := by decide +kernel
theorem dX12_wrongIn_210 : decode cX12_wrongIn 210 = .ok (.iload 4, 2) := by decide +kernel
theorem dX12_wrongIn_212 : decode cX12_wrongIn 212 = .ok (.iconst 2, 1) := by decide +kernel
theorem dX12_wrongIn_213 : decode cX12_wrongIn 213 = .ok (.if_icmp .ne 22, 3) := by decide +kernel
theorem dX12_wrongIn_216 : decode cX12_wrongIn 216 = .ok (.iload 7, 2) := by decide +kernel
theorem dX12_wrongIn_218 : decode cX12_wrongIn 218 = .ok (.ifCond .eq 14, 3) := by decide +kernel
theorem dX12_wrongIn_221 : decode cX12_wrongIn 221 = .ok (.iload 6, 2) := by decide +kernel
theorem dX12_wrongIn_223 : decode cX12_wrongIn 223 = .ok (.bipush 8, 2) := by decide +kernel
theorem dX12_wrongIn_225 : decode cX12_wrongIn 225 = .ok (.if_icmp .eq 7, 3) := by decide +kernel
theorem dX12_wrongIn_228 : decode cX12_wrongIn 228 = .ok (.iconst 1, 1) := by decide +kernel
theorem dX12_wrongIn_229 : decode cX12_wrongIn 229 = .ok (.goto 4, 3) := by decide +kernel
theorem dX12_wrongIn_232 : decode cX12_wrongIn 232 = .ok (.iconst 0, 1) := by decide +kernel
theorem dX12_wrongIn_233 : decode cX12_wrongIn 233 = .ok (.istore 7, 2) := by decide +kernel
theorem dX12_wrongIn_235 : decode cX12_wrongIn 235 = .ok (.iload 4, 2) := by decide +kernel
theorem dX12_wrongIn_237 : decode cX12_wrongIn 237 = .ok (.bipush 8, 2) := by decide +kernel
theorem dX12_wrongIn_239 : decode cX12_wrongIn 239 = .ok (.if_icmp .ne 38, 3) := by decide +kernel
theorem dX12_wrongIn_242 : decode cX12_wrongIn 242 = .ok (.iload 7, 2) := by decide +kernel
theorem dX12_wrongIn_244 : decode cX12_wrongIn 244 = .ok (.ifCond .eq 30, 3) := by decide +kernel
theorem dX12_wrongIn_247 : decode cX12_wrongIn 247 = .ok (.iload 6, 2) := by decide +kernel
theorem dX12_wrongIn_249 : decode cX12_wrongIn 249 = .ok (.bipush 8, 2) := by decide +kernel
theorem dX12_wrongIn_251 : decode cX12_wrongIn 251 = .ok (.if_icmp .ne 19, 3) := by decide +kernel
theorem dX12_wrongIn_254 : decode cX12_wrongIn 254 = .ok (.iload 5, 2) := by decide +kernel
theorem dX12_wrongIn_256 : decode cX12_wrongIn 256 = .ok (.aload_n 0, 1) := by decide +kernel
theorem dX12_wrongIn_257 : decode cX12_wrongIn 257 = .ok (.getfield 42, 3) := by decide +kernel
theorem dX12_wrongIn_260 : decode cX12_wrongIn 260 = .ok (.iload_n 2, 1) := by decide +kernel
theorem dX12_wrongIn_261 : decode cX12_wrongIn 261 = .ok (.iload_n 3, 1) := by decide +kernel
theorem dX12_wrongIn_262 : decode cX12_wrongIn 262 = .ok (.bipush 8, 2) := by decide +kernel
theorem dX12_wrongIn_264 : decode cX12_wrongIn 264 = .ok (.invokestatic 229, 3) := by decide +kernel
theorem dX12_wrongIn_267 : decode cX12_wrongIn 267 = .ok (.if_icmp .ne 7, 3) := by decide +kernel
theorem dX12_wrongIn_270 : decode cX12_wrongIn 270 = .ok (.iconst 1, 1) := by decide +kernel
theorem dX12_wrongIn_271 : decode cX12_wrongIn 271 = .ok (.goto 4, 3) := by decide +kernel
theorem dX12_wrongIn_274 : decode cX12_wrongIn 274 = .ok (.iconst 0, 1) := by decide +kernel
theorem dX12_wrongIn_275 : decode cX12_wrongIn 275 = .ok (.istore 7, 2) := by decide +kernel
theorem dX12_wrongIn_277 : decode cX12_wrongIn 277 = .ok (.iload 7, 2) := by decide +kernel
theorem dX12_wrongIn_279 : decode cX12_wrongIn 279 = .ok (.ifCond .ne 11, 3) := by decide +kernel
theorem dX12_wrongIn_282 : decode cX12_wrongIn 282 = .ok (.aload_n 0, 1) := by decide +kernel
theorem dX12_wrongIn_283 : decode cX12_wrongIn 283 = .ok (.getfield 51, 3) := by decide +kernel
theorem dX12_wrongIn_286 : decode cX12_wrongIn 286 = .ok (.iload 5, 2) := by decide +kernel
theorem dX12_wrongIn_288 : decode cX12_wrongIn 288 = .ok (.iaload, 1) := by decide +kernel
theorem dX12_wrongIn_289 : decode cX12_wrongIn 289 = .ok (.ireturn, 1) := by decide +kernel
theorem dX12_wrongIn_290 : decode cX12_wrongIn 290 = .ok (.iinc 5 1, 3) := by decide +kernel
theorem dX12_wrongIn_293 : decode cX12_wrongIn 293 = .ok (.goto (-256), 3) := by decide +kernel
theorem dX12_wrongIn_296 : decode cX12_wrongIn 296 = .ok (.iconst (-1), 1) := by decide +kernel
theorem dX12_wrongIn_297 : decode cX12_wrongIn 297 = .ok (.ireturn, 1) := by decide +kernel
theorem dX12_readAll_0 : decode cX12_readAll 0 = .ok (.aload_n 0, 1) := by decide +kernel
theorem dX12_readAll_1 : decode cX12_readAll 1 = .ok (.iconst 0, 1) := by decide +kernel
theorem dX12_readAll_2 : decode cX12_readAll 2 = .ok (.putfield 172, 3) := by decide +kernel
theorem dX12_readAll_5 : decode cX12_readAll 5 = .ok (.aload_n 0, 1) := by decide +kernel
theorem dX12_readAll_6 : decode cX12_readAll 6 = .ok (.iconst 0, 1) := by decide +kernel
theorem dX12_readAll_7 : decode cX12_readAll 7 = .ok (.putfield 188, 3) := by decide +kernel
theorem dX12_readAll_10 : decode cX12_readAll 10 = .ok (.iconst 0, 1) := by decide +kernel
theorem dX12_readAll_11 : decode cX12_readAll 11 = .ok (.istore_n 1, 1) := by decide +kernel
theorem dX12_readAll_12 : decode cX12_readAll 12 = .ok (.iload_n 1, 1) := by decide +kernel
theorem dX12_readAll_13 : decode cX12_readAll 13 = .ok (.bipush 8, 2) := by decide +kernel
theorem dX12_readAll_15 : decode cX12_readAll 15 = .ok (.if_icmp .ge 16, 3) := by decide +kernel
theorem dX12_readAll_18 : decode cX12_readAll 18 = .ok (.aload_n 0, 1) := by decide +kernel
theorem dX12_readAll_19 : decode cX12_readAll 19 = .ok (.getfield 54, 3) := by decide +kernel
theorem dX12_readAll_22 : decode cX12_readAll 22 = .ok (.iload_n 1, 1) := by decide +kernel
theorem dX12_readAll_23 : decode cX12_readAll 23 = .ok (.iconst 0, 1) := by decide +kernel
theorem dX12_readAll_24 : decode cX12_readAll 24 = .ok (.iastore, 1) := by decide +kernel
theorem dX12_readAll_25 : decode cX12_readAll 25 = .ok (.iinc 1 1, 3) := by decide +kernel
theorem dX12_readAll_28 : decode cX12_readAll 28 = .ok (.goto (-16), 3) := by decide +kernel
theorem dX12_readAll_31 : decode cX12_readAll 31 = .ok (.iconst 0, 1) := by decide +kernel
theorem dX12_readAll_32 : decode cX12_readAll 32 = .ok (.istore_n 1, 1) := by decide +kernel
theorem dX12_readAll_33 : decode cX12_readAll 33 = .ok (.iconst 0, 1) := by decide +kernel
theorem dX12_readAll_34 : decode cX12_readAll 34 = .ok (.istore_n 2, 1) := by decide +kernel
theorem dX12_readAll_35 : decode cX12_readAll 35 = .ok (.iload_n 2, 1) := by decide +kernel
theorem dX12_readAll_36 : decode cX12_readAll 36 = .ok (.aload_n 0, 1) := by decide +kernel
theorem dX12_readAll_37 : decode cX12_readAll 37 = .ok (.getfield 88, 3) := by decide +kernel
theorem dX12_readAll_40 : decode cX12_readAll 40 = .ok (.if_icmp .gt 145, 3) := by decide +kernel
theorem dX12_readAll_43 : decode cX12_readAll 43 = .ok (.iload_n 2, 1) := by decide +kernel
theorem dX12_readAll_44 : decode cX12_readAll 44 = .ok (.aload_n 0, 1) := by decide +kernel
theorem dX12_readAll_45 : decode cX12_readAll 45 = .ok (.getfield 88, 3) := by decide +kernel
theorem dX12_readAll_48 : decode cX12_readAll 48 = .ok (.if_icmp .eq 14, 3) := by decide +kernel
theorem dX12_readAll_51 : decode cX12_readAll 51 = .ok (.aload_n 0, 1) := by decide +kernel
theorem dX12_readAll_52 : decode cX12_readAll 52 = .ok (.getfield 13, 3) := by decide +kernel
theorem dX12_readAll_55 : decode cX12_readAll 55 = .ok (.iload_n 2, 1) := by decide +kernel
theorem dX12_readAll_56 : decode cX12_readAll 56 = .ok (.iaload, 1) := by decide +kernel
theorem dX12_readAll_57 : decode cX12_readAll 57 = .ok (.bipush 59, 2) := by decide +kernel
theorem dX12_readAll_59 : decode cX12_readAll 59 = .ok (.if_icmp .ne 62, 3) := by decide +kernel
theorem dX12_readAll_62 : decode cX12_readAll 62 = .ok (.aload_n 0, 1) := by decide +kernel
theorem dX12_readAll_63 : decode cX12_readAll 63 = .ok (.aload_n 0, 1) := by decide +kernel
theorem dX12_readAll_64 : decode cX12_readAll 64 = .ok (.getfield 188, 3) := by decide +kernel
theorem dX12_readAll_67 : decode cX12_readAll 67 = .ok (.iload_n 1, 1) := by decide +kernel
theorem dX12_readAll_68 : decode cX12_readAll 68 = .ok (.aload_n 0, 1) := by decide +kernel
theorem dX12_readAll_69 : decode cX12_readAll 69 = .ok (.getfield 172, 3) := by decide +kernel
theorem dX12_readAll_72 : decode cX12_readAll 72 = .ok (.invokevirtual 256, 3) := by decide +kernel
theorem dX12_readAll_75 : decode cX12_readAll 75 = .ok (.istore_n 3, 1) := by decide +kernel
theorem dX12_readAll_76 : decode cX12_readAll 76 = .ok (.iload_n 3, 1) := by decide +kernel
theorem dX12_readAll_77 : decode cX12_readAll 77 = .ok (.ifCond .lt 5, 3) := by decide +kernel
theorem dX12_readAll_80 : decode cX12_readAll 80 = .ok (.iload_n 3, 1) := by decide +kernel
theorem dX12_readAll_81 : decode cX12_readAll 81 = .ok (.ireturn, 1) := by decide +kernel
theorem dX12_readAll_82 : decode cX12_readAll 82 = .ok (.aload_n 0, 1) := by decide +kernel
theorem dX12_readAll_83 : decode cX12_readAll 83 = .ok (.dup, 1) := by decide +kernel
theorem dX12_readAll_84 : decode cX12_readAll 84 = .ok (.getfield 188, 3) := by decide +kernel
theorem dX12_readAll_87 : decode cX12_readAll 87 = .ok (.iconst 1, 1) := by decide +kernel
theorem dX12_readAll_88 : decode cX12_readAll 88 = .ok (.iadd, 1) := by decide +kernel
theorem dX12_readAll_89 : decode cX12_readAll 89 = .ok (.putfield 188, 3) := by decide +kernel
theorem dX12_readAll_92 : decode cX12_readAll 92 = .ok (.iload_n 2, 1) := by decide +kernel
theorem dX12_readAll_93 : decode cX12_readAll 93 = .ok (.aload_n 0, 1) := by decide +kernel
theorem dX12_readAll_94 : decode cX12_readAll 94 = .ok (.getfield 88, 3) := by decide +kernel
theorem dX12_readAll_97 : decode cX12_readAll 97 = .ok (.if_icmp .ge 13, 3) := by decide +kernel
theorem dX12_readAll_100 : decode cX12_readAll 100 = .ok (.aload_n 0, 1) := by decide +kernel
theorem dX12_readAll_101 : decode cX12_readAll 101 = .ok (.getfield 188, 3) := by decide +kernel
theorem dX12_readAll_104 : decode cX12_readAll 104 = .ok (.iconst 4, 1) := by decide +kernel
theorem dX12_readAll_105 : decode cX12_readAll 105 = .ok (.if_icmp .ne 5, 3) := by decide +kernel
theorem dX12_readAll_108 : decode cX12_readAll 108 = .ok (.iload_n 2, 1) := by decide +kernel
theorem dX12_readAll_109 : decode cX12_readAll 109 = .ok (.ireturn, 1) := by decide +kernel
theorem dX12_readAll_110 : decode cX12_readAll 110 = .ok (.aload_n 0, 1) := by decide +kernel
theorem dX12_readAll_111 : decode cX12_readAll 111 = .ok (.getfield 172, 3) := by decide +kernel
theorem dX12_readAll_114 : decode cX12_readAll 114 = .ok (.istore_n 1, 1) := by decide +kernel
theorem dX12_readAll_115 : decode cX12_readAll 115 = .ok (.iinc 2 1, 3) := by decide +kernel
theorem dX12_readAll_118 : decode cX12_readAll 118 = .ok (.goto (-83), 3) := by decide +kernel
theorem dX12_readAll_121 : decode cX12_readAll 121 = .ok (.aload_n 0, 1) := by decide +kernel
theorem dX12_readAll_122 : decode cX12_readAll 122 = .ok (.getfield 51, 3) := by decide +kernel
theorem dX12_readAll_125 : decode cX12_readAll 125 = .ok (.aload_n 0, 1) := by decide +kernel
theorem dX12_readAll_126 : decode cX12_readAll 126 = .ok (.getfield 172, 3) := by decide +kernel
theorem dX12_readAll_129 : decode cX12_readAll 129 = .ok (.iload_n 2, 1) := by decide +kernel
theorem dX12_readAll_130 : decode cX12_readAll 130 = .ok (.iastore, 1) := by decide +kernel
theorem dX12_readAll_131 : decode cX12_readAll 131 = .ok (.aload_n 0, 1) := by decide +kernel
theorem dX12_readAll_132 : decode cX12_readAll 132 = .ok (.getfield 48, 3) := by decide +kernel
theorem dX12_readAll_135 : decode cX12_readAll 135 = .ok (.aload_n 0, 1) := by decide +kernel
theorem dX12_readAll_136 : decode cX12_readAll 136 = .ok (.getfield 172, 3) := by decide +kernel
theorem dX12_readAll_139 : decode cX12_readAll 139 = .ok (.aload_n 0, 1) := by decide +kernel
theorem dX12_readAll_140 : decode cX12_readAll 140 = .ok (.getfield 188, 3) := by decide +kernel
theorem dX12_readAll_143 : decode cX12_readAll 143 = .ok (.iastore, 1) := by decide +kernel
theorem dX12_readAll_144 : decode cX12_readAll 144 = .ok (.aload_n 0, 1) := by decide +kernel
theorem dX12_readAll_145 : decode cX12_readAll 145 = .ok (.iload_n 2, 1) := by decide +kernel
theorem dX12_readAll_146 : decode cX12_readAll 146 = .ok (.invokevirtual 260, 3) := by decide +kernel
theorem dX12_readAll_149 : decode cX12_readAll 149 = .ok (.aload_n 0, 1) := by decide +kernel
theorem dX12_readAll_150 : decode cX12_readAll 150 = .ok (.dup, 1) := by decide +kernel
theorem dX12_readAll_151 : decode cX12_readAll 151 = .ok (.getfield 172, 3) := by decide +kernel
theorem dX12_readAll_154 : decode cX12_readAll 154 = .ok (.aload_n 0, 1) := by decide +kernel
theorem dX12_readAll_155 : decode cX12_readAll 155 = .ok (.getfield 42, 3) := by decide +kernel
theorem dX12_readAll_158 : decode cX12_readAll 158 = .ok (.aload_n 0, 1) := by decide +kernel
theorem dX12_readAll_159 : decode cX12_readAll 159 = .ok (.getfield 172, 3) := by decide +kernel
theorem dX12_readAll_162 : decode cX12_readAll 162 = .ok (.iaload, 1) := by decide +kernel
theorem dX12_readAll_163 : decode cX12_readAll 163 = .ok (.bipush 16, 2) := by decide +kernel
theorem dX12_readAll_165 : decode cX12_readAll 165 = .ok (.if_icmp .ne 7, 3) := by decide +kernel
theorem dX12_readAll_168 : decode cX12_readAll 168 = .ok (.iconst 0, 1) := by decide +kernel
theorem dX12_readAll_169 : decode cX12_readAll 169 = .ok (.goto 4, 3) := by decide +kernel
theorem dX12_readAll_172 : decode cX12_readAll 172 = .ok (.iconst 1, 1) := by decide +kernel
theorem dX12_readAll_173 : decode cX12_readAll 173 = .ok (.iadd, 1) := by decide +kernel
theorem dX12_readAll_174 : decode cX12_readAll 174 = .ok (.putfield 172, 3) := by decide +kernel
theorem dX12_readAll_177 : decode cX12_readAll 177 = .ok (.aload_n 0, 1) := by decide +kernel
theorem dX12_readAll_178 : decode cX12_readAll 178 = .ok (.getfield 175, 3) := by decide +kernel
theorem dX12_readAll_181 : decode cX12_readAll 181 = .ok (.istore_n 2, 1) := by decide +kernel
theorem dX12_readAll_182 : decode cX12_readAll 182 = .ok (.goto (-147), 3) := by decide +kernel
theorem dX12_readAll_185 : decode cX12_readAll 185 = .ok (.iconst (-1), 1) := by decide +kernel
theorem dX12_readAll_186 : decode cX12_readAll 186 = .ok (.ireturn, 1) := by decide +kernel
theorem dX12_format_0 : decode cX12_format 0 = .ok (.aload_n 0, 1) := by decide +kernel
theorem dX12_format_1 : decode cX12_format 1 = .ok (.aload_n 0, 1) := by decide +kernel
theorem dX12_format_2 : decode cX12_format 2 = .ok (.invokevirtual 263, 3) := by decide +kernel
theorem dX12_format_5 : decode cX12_format 5 = .ok (.putfield 19, 3) := by decide +kernel
theorem dX12_format_8 : decode cX12_format 8 = .ok (.aload_n 0, 1) := by decide +kernel
theorem dX12_format_9 : decode cX12_format 9 = .ok (.aload_n 0, 1) := by decide +kernel
theorem dX12_format_10 : decode cX12_format 10 = .ok (.getfield 19, 3) := by decide +kernel
theorem dX12_format_13 : decode cX12_format 13 = .ok (.ifCond .lt 7, 3) := by decide +kernel
theorem dX12_format_16 : decode cX12_format 16 = .ok (.iconst 1, 1) := by decide +kernel
theorem dX12_format_17 : decode cX12_format 17 = .ok (.goto 4, 3) := by decide +kernel
theorem dX12_format_20 : decode cX12_format 20 = .ok (.iconst 0, 1) := by decide +kernel
theorem dX12_format_21 : decode cX12_format 21 = .ok (.putfield 78, 3) := by decide +kernel
theorem dX12_format_24 : decode cX12_format 24 = .ok (.aload_n 0, 1) := by decide +kernel
theorem dX12_format_25 : decode cX12_format 25 = .ok (.getfield 78, 3) := by decide +kernel
theorem dX12_format_28 : decode cX12_format 28 = .ok (.ifCond .eq 5, 3) := by decide +kernel
theorem dX12_format_31 : decode cX12_format 31 = .ok (.iconst 0, 1) := by decide +kernel
theorem dX12_format_32 : decode cX12_format 32 = .ok (.ireturn, 1) := by decide +kernel
theorem dX12_format_33 : decode cX12_format 33 = .ok (.aload_n 0, 1) := by decide +kernel
theorem dX12_format_34 : decode cX12_format 34 = .ok (.aload_n 0, 1) := by decide +kernel
theorem dX12_format_35 : decode cX12_format 35 = .ok (.getfield 188, 3) := by decide +kernel
theorem dX12_format_38 : decode cX12_format 38 = .ok (.putfield 267, 3) := by decide +kernel
theorem dX12_format_41 : decode cX12_format 41 = .ok (.aload_n 0, 1) := by decide +kernel
theorem dX12_format_42 : decode cX12_format 42 = .ok (.aload_n 0, 1) := by decide +kernel
theorem dX12_format_43 : decode cX12_format 43 = .ok (.getfield 172, 3) := by decide +kernel
theorem dX12_format_46 : decode cX12_format 46 = .ok (.putfield 270, 3) := by decide +kernel
theorem dX12_format_49 : decode cX12_format 49 = .ok (.iconst 0, 1) := by decide +kernel
theorem dX12_format_50 : decode cX12_format 50 = .ok (.istore_n 1, 1) := by decide +kernel
theorem dX12_format_51 : decode cX12_format 51 = .ok (.iload_n 1, 1) := by decide +kernel
theorem dX12_format_52 : decode cX12_format 52 = .ok (.aload_n 0, 1) := by decide +kernel
theorem dX12_format_53 : decode cX12_format 53 = .ok (.getfield 270, 3) := by decide +kernel
theorem dX12_format_56 : decode cX12_format 56 = .ok (.if_icmp .ge 45, 3) := by decide +kernel
theorem dX12_format_59 : decode cX12_format 59 = .ok (.aload_n 0, 1) := by decide +kernel
theorem dX12_format_60 : decode cX12_format 60 = .ok (.getfield 26, 3) := by decide +kernel
theorem dX12_format_63 : decode cX12_format 63 = .ok (.iload_n 1, 1) := by decide +kernel
theorem dX12_format_64 : decode cX12_format 64 = .ok (.aload_n 0, 1) := by decide +kernel
theorem dX12_format_65 : decode cX12_format 65 = .ok (.getfield 42, 3) := by decide +kernel
theorem dX12_format_68 : decode cX12_format 68 = .ok (.iload_n 1, 1) := by decide +kernel
theorem dX12_format_69 : decode cX12_format 69 = .ok (.iaload, 1) := by decide +kernel
theorem dX12_format_70 : decode cX12_format 70 = .ok (.iastore, 1) := by decide +kernel
theorem dX12_format_71 : decode cX12_format 71 = .ok (.aload_n 0, 1) := by decide +kernel
theorem dX12_format_72 : decode cX12_format 72 = .ok (.getfield 29, 3) := by decide +kernel
theorem dX12_format_75 : decode cX12_format 75 = .ok (.iload_n 1, 1) := by decide +kernel
theorem dX12_format_76 : decode cX12_format 76 = .ok (.aload_n 0, 1) := by decide +kernel
theorem dX12_format_77 : decode cX12_format 77 = .ok (.getfield 45, 3) := by decide +kernel
theorem dX12_format_80 : decode cX12_format 80 = .ok (.iload_n 1, 1) := by decide +kernel
theorem dX12_format_81 : decode cX12_format 81 = .ok (.iaload, 1) := by decide +kernel
theorem dX12_format_82 : decode cX12_format 82 = .ok (.iastore, 1) := by decide +kernel
theorem dX12_format_83 : decode cX12_format 83 = .ok (.aload_n 0, 1) := by decide +kernel
theorem dX12_format_84 : decode cX12_format 84 = .ok (.getfield 32, 3) := by decide +kernel
theorem dX12_format_87 : decode cX12_format 87 = .ok (.iload_n 1, 1) := by decide +kernel
theorem dX12_format_88 : decode cX12_format 88 = .ok (.aload_n 0, 1) := by decide +kernel
theorem dX12_format_89 : decode cX12_format 89 = .ok (.getfield 48, 3) := by decide +kernel
theorem dX12_format_92 : decode cX12_format 92 = .ok (.iload_n 1, 1) := by decide +kernel
theorem dX12_format_93 : decode cX12_format 93 = .ok (.iaload, 1) := by decide +kernel
theorem dX12_format_94 : decode cX12_format 94 = .ok (.iastore, 1) := by decide +kernel
theorem dX12_format_95 : decode cX12_format 95 = .ok (.iinc 1 1, 3) := by decide +kernel
theorem dX12_format_98 : decode cX12_format 98 = .ok (.goto (-47), 3) := by decide +kernel
theorem dX12_format_101 : decode cX12_format 101 = .ok (.iconst 0, 1) := by decide +kernel
theorem dX12_format_102 : decode cX12_format 102 = .ok (.istore_n 1, 1) := by decide +kernel
theorem dX12_format_103 : decode cX12_format 103 = .ok (.iload_n 1, 1) := by decide +kernel
theorem dX12_format_104 : decode cX12_format 104 = .ok (.iconst 4, 1) := by decide +kernel
theorem dX12_format_105 : decode cX12_format 105 = .ok (.if_icmp .ge 33, 3) := by decide +kernel
theorem dX12_format_108 : decode cX12_format 108 = .ok (.aload_n 0, 1) := by decide +kernel
theorem dX12_format_109 : decode cX12_format 109 = .ok (.getfield 35, 3) := by decide +kernel
theorem dX12_format_112 : decode cX12_format 112 = .ok (.iload_n 1, 1) := by decide +kernel
theorem dX12_format_113 : decode cX12_format 113 = .ok (.aload_n 0, 1) := by decide +kernel
theorem dX12_format_114 : decode cX12_format 114 = .ok (.getfield 54, 3) := by decide +kernel
theorem dX12_format_117 : decode cX12_format 117 = .ok (.iload_n 1, 1) := by decide +kernel
theorem dX12_format_118 : decode cX12_format 118 = .ok (.iaload, 1) := by decide +kernel
theorem dX12_format_119 : decode cX12_format 119 = .ok (.iastore, 1) := by decide +kernel
theorem dX12_format_120 : decode cX12_format 120 = .ok (.aload_n 0, 1) := by decide +kernel
theorem dX12_format_121 : decode cX12_format 121 = .ok (.getfield 38, 3) := by decide +kernel
theorem dX12_format_124 : decode cX12_format 124 = .ok (.iload_n 1, 1) := by decide +kernel
theorem dX12_format_125 : decode cX12_format 125 = .ok (.aload_n 0, 1) := by decide +kernel
theorem dX12_format_126 : decode cX12_format 126 = .ok (.getfield 57, 3) := by decide +kernel
theorem dX12_format_129 : decode cX12_format 129 = .ok (.iload_n 1, 1) := by decide +kernel
theorem dX12_format_130 : decode cX12_format 130 = .ok (.daload, 1) := by decide +kernel
theorem dX12_format_131 : decode cX12_format 131 = .ok (.dastore, 1) := by decide +kernel
theorem dX12_format_132 : decode cX12_format 132 = .ok (.iinc 1 1, 3) := by decide +kernel
theorem dX12_format_135 : decode cX12_format 135 = .ok (.goto (-32), 3) := by decide +kernel
theorem dX12_format_138 : decode cX12_format 138 = .ok (.iconst 0, 1) := by decide +kernel
theorem dX12_format_139 : decode cX12_format 139 = .ok (.istore_n 1, 1) := by decide +kernel
theorem dX12_format_140 : decode cX12_format 140 = .ok (.iload_n 1, 1) := by decide +kernel
theorem dX12_format_141 : decode cX12_format 141 = .ok (.aload_n 0, 1) := by decide +kernel
theorem dX12_format_142 : decode cX12_format 142 = .ok (.getfield 88, 3) := by decide +kernel
theorem dX12_format_145 : decode cX12_format 145 = .ok (.if_icmp .ge 21, 3) := by decide +kernel
theorem dX12_format_148 : decode cX12_format 148 = .ok (.aload_n 0, 1) := by decide +kernel
theorem dX12_format_149 : decode cX12_format 149 = .ok (.getfield 23, 3) := by decide +kernel
theorem dX12_format_152 : decode cX12_format 152 = .ok (.iload_n 1, 1) := by decide +kernel
theorem dX12_format_153 : decode cX12_format 153 = .ok (.aload_n 0, 1) := by decide +kernel
theorem dX12_format_154 : decode cX12_format 154 = .ok (.getfield 13, 3) := by decide +kernel
theorem dX12_format_157 : decode cX12_format 157 = .ok (.iload_n 1, 1) := by decide +kernel
theorem dX12_format_158 : decode cX12_format 158 = .ok (.iaload, 1) := by decide +kernel
theorem dX12_format_159 : decode cX12_format 159 = .ok (.iastore, 1) := by decide +kernel
theorem dX12_format_160 : decode cX12_format 160 = .ok (.iinc 1 1, 3) := by decide +kernel
theorem dX12_format_163 : decode cX12_format 163 = .ok (.goto (-23), 3) := by decide +kernel
theorem dX12_format_166 : decode cX12_format 166 = .ok (.aload_n 0, 1) := by decide +kernel
theorem dX12_format_167 : decode cX12_format 167 = .ok (.getfield 267, 3) := by decide +kernel
theorem dX12_format_170 : decode cX12_format 170 = .ok (.ireturn, 1) := by decide +kernel
theorem dX12_illAt_0 : decode cX12_illAt 0 = .ok (.aload_n 0, 1) := by decide +kernel
theorem dX12_illAt_1 : decode cX12_illAt 1 = .ok (.iconst 0, 1) := by decide +kernel
theorem dX12_illAt_2 : decode cX12_illAt 2 = .ok (.putfield 78, 3) := by decide +kernel
theorem dX12_illAt_5 : decode cX12_illAt 5 = .ok (.aload_n 0, 1) := by decide +kernel
theorem dX12_illAt_6 : decode cX12_illAt 6 = .ok (.getfield 19, 3) := by decide +kernel
theorem dX12_illAt_9 : decode cX12_illAt 9 = .ok (.ireturn, 1) := by decide +kernel
theorem dX12_write_0 : decode cX12_write 0 = .ok (.aload_n 0, 1) := by decide +kernel
theorem dX12_write_1 : decode cX12_write 1 = .ok (.getfield 273, 3) := by decide +kernel
theorem dX12_write_4 : decode cX12_write 4 = .ok (.sipush 1024, 3) := by decide +kernel
theorem dX12_write_7 : decode cX12_write 7 = .ok (.if_icmp .ne 4, 3) := by decide +kernel
theorem dX12_write_10 : decode cX12_write 10 = .ok (.return_, 1) := by decide +kernel
theorem dX12_write_11 : decode cX12_write 11 = .ok (.aload_n 0, 1) := by decide +kernel
theorem dX12_write_12 : decode cX12_write 12 = .ok (.getfield 16, 3) := by decide +kernel
theorem dX12_write_15 : decode cX12_write 15 = .ok (.aload_n 0, 1) := by decide +kernel
theorem dX12_write_16 : decode cX12_write 16 = .ok (.getfield 273, 3) := by decide +kernel
theorem dX12_write_19 : decode cX12_write 19 = .ok (.iload_n 1, 1) := by decide +kernel
theorem dX12_write_20 : decode cX12_write 20 = .ok (.iastore, 1) := by decide +kernel
theorem dX12_write_21 : decode cX12_write 21 = .ok (.aload_n 0, 1) := by decide +kernel
theorem dX12_write_22 : decode cX12_write 22 = .ok (.dup, 1) := by decide +kernel
theorem dX12_write_23 : decode cX12_write 23 = .ok (.getfield 273, 3) := by decide +kernel
theorem dX12_write_26 : decode cX12_write 26 = .ok (.iconst 1, 1) := by decide +kernel
theorem dX12_write_27 : decode cX12_write 27 = .ok (.iadd, 1) := by decide +kernel
theorem dX12_write_28 : decode cX12_write 28 = .ok (.putfield 273, 3) := by decide +kernel
theorem dX12_write_31 : decode cX12_write 31 = .ok (.return_, 1) := by decide +kernel
theorem dX12_writeNumber_0 : decode cX12_writeNumber 0 = .ok (.lconst 1, 1) := by decide +kernel
theorem dX12_writeNumber_1 : decode cX12_writeNumber 1 = .ok (.lstore 4, 2) := by decide +kernel
theorem dX12_writeNumber_3 : decode cX12_writeNumber 3 = .ok (.iconst 1, 1) := by decide +kernel
theorem dX12_writeNumber_4 : decode cX12_writeNumber 4 = .ok (.istore 6, 2) := by decide +kernel
theorem dX12_writeNumber_6 : decode cX12_writeNumber 6 = .ok (.lload_n 1, 1) := by decide +kernel
theorem dX12_writeNumber_7 : decode cX12_writeNumber 7 = .ok (.lload 4, 2) := by decide +kernel
theorem dX12_writeNumber_9 : decode cX12_writeNumber 9 = .ok (.ldiv, 1) := by decide +kernel
theorem dX12_writeNumber_10 : decode cX12_writeNumber 10 = .ok (.ldc2_w 276, 3) := by decide +kernel
theorem dX12_writeNumber_13 : decode cX12_writeNumber 13 = .ok (.lcmp, 1) := by decide +kernel
theorem dX12_writeNumber_14 : decode cX12_writeNumber 14 = .ok (.ifCond .le 17, 3) := by decide +kernel
theorem dX12_writeNumber_17 : decode cX12_writeNumber 17 = .ok (.ldc2_w 114, 3) := by decide +kernel
theorem dX12_writeNumber_20 : decode cX12_writeNumber 20 = .ok (.lload 4, 2) := by decide +kernel
theorem dX12_writeNumber_22 : decode cX12_writeNumber 22 = .ok (.lmul, 1) := by decide +kernel
theorem dX12_writeNumber_23 : decode cX12_writeNumber 23 = .ok (.lstore 4, 2) := by decide +kernel
theorem dX12_writeNumber_25 : decode cX12_writeNumber 25 = .ok (.iinc 6 1, 3) := by decide +kernel
theorem dX12_writeNumber_28 : decode cX12_writeNumber 28 = .ok (.goto (-22), 3) := by decide +kernel
theorem dX12_writeNumber_31 : decode cX12_writeNumber 31 = .ok (.iload 6, 2) := by decide +kernel
theorem dX12_writeNumber_33 : decode cX12_writeNumber 33 = .ok (.istore 7, 2) := by decide +kernel
theorem dX12_writeNumber_35 : decode cX12_writeNumber 35 = .ok (.iload 7, 2) := by decide +kernel
theorem dX12_writeNumber_37 : decode cX12_writeNumber 37 = .ok (.iload_n 3, 1) := by decide +kernel
theorem dX12_writeNumber_38 : decode cX12_writeNumber 38 = .ok (.if_icmp .ge 15, 3) := by decide +kernel
theorem dX12_writeNumber_41 : decode cX12_writeNumber 41 = .ok (.aload_n 0, 1) := by decide +kernel
theorem dX12_writeNumber_42 : decode cX12_writeNumber 42 = .ok (.bipush 48, 2) := by decide +kernel
theorem dX12_writeNumber_44 : decode cX12_writeNumber 44 = .ok (.invokevirtual 278, 3) := by decide +kernel
theorem dX12_writeNumber_47 : decode cX12_writeNumber 47 = .ok (.iinc 7 1, 3) := by decide +kernel
theorem dX12_writeNumber_50 : decode cX12_writeNumber 50 = .ok (.goto (-15), 3) := by decide +kernel
theorem dX12_writeNumber_53 : decode cX12_writeNumber 53 = .ok (.lload 4, 2) := by decide +kernel
theorem dX12_writeNumber_55 : decode cX12_writeNumber 55 = .ok (.lstore 7, 2) := by decide +kernel
theorem dX12_writeNumber_57 : decode cX12_writeNumber 57 = .ok (.lload 7, 2) := by decide +kernel
theorem dX12_writeNumber_59 : decode cX12_writeNumber 59 = .ok (.lconst 0, 1) := by decide +kernel
theorem dX12_writeNumber_60 : decode cX12_writeNumber 60 = .ok (.lcmp, 1) := by decide +kernel
theorem dX12_writeNumber_61 : decode cX12_writeNumber 61 = .ok (.ifCond .le 31, 3) := by decide +kernel
theorem dX12_writeNumber_64 : decode cX12_writeNumber 64 = .ok (.aload_n 0, 1) := by decide +kernel
theorem dX12_writeNumber_65 : decode cX12_writeNumber 65 = .ok (.ldc2_w 219, 3) := by decide +kernel
theorem dX12_writeNumber_68 : decode cX12_writeNumber 68 = .ok (.lload_n 1, 1) := by decide +kernel
theorem dX12_writeNumber_69 : decode cX12_writeNumber 69 = .ok (.lload 7, 2) := by decide +kernel
theorem dX12_writeNumber_71 : decode cX12_writeNumber 71 = .ok (.ldiv, 1) := by decide +kernel
theorem dX12_writeNumber_72 : decode cX12_writeNumber 72 = .ok (.ldc2_w 114, 3) := by decide +kernel
theorem dX12_writeNumber_75 : decode cX12_writeNumber 75 = .ok (.lrem, 1) := by decide +kernel
theorem dX12_writeNumber_76 : decode cX12_writeNumber 76 = .ok (.ladd, 1) := by decide +kernel
theorem dX12_writeNumber_77 : decode cX12_writeNumber 77 = .ok (.l2i, 1) := by decide +kernel
theorem dX12_writeNumber_78 : decode cX12_writeNumber 78 = .ok (.invokevirtual 278, 3) := by decide +kernel
theorem dX12_writeNumber_81 : decode cX12_writeNumber 81 = .ok (.lload 7, 2) := by decide +kernel
theorem dX12_writeNumber_83 : decode cX12_writeNumber 83 = .ok (.ldc2_w 114, 3) := by decide +kernel
theorem dX12_writeNumber_86 : decode cX12_writeNumber 86 = .ok (.ldiv, 1) := by decide +kernel
theorem dX12_writeNumber_87 : decode cX12_writeNumber 87 = .ok (.lstore 7, 2) := by decide +kernel
theorem dX12_writeNumber_89 : decode cX12_writeNumber 89 = .ok (.goto (-32), 3) := by decide +kernel
theorem dX12_writeNumber_92 : decode cX12_writeNumber 92 = .ok (.return_, 1) := by decide +kernel
theorem dX12_writeLetters_0 : decode cX12_writeLetters 0 = .ok (.bipush 56, 2) := by decide +kernel
theorem dX12_writeLetters_2 : decode cX12_writeLetters 2 = .ok (.istore_n 3, 1) := by decide +kernel
theorem dX12_writeLetters_3 : decode cX12_writeLetters 3 = .ok (.iload_n 3, 1) := by decide +kernel
theorem dX12_writeLetters_4 : decode cX12_writeLetters 4 = .ok (.ifCond .lt 33, 3) := by decide +kernel
theorem dX12_writeLetters_7 : decode cX12_writeLetters 7 = .ok (.lload_n 1, 1) := by decide +kernel
theorem dX12_writeLetters_8 : decode cX12_writeLetters 8 = .ok (.iload_n 3, 1) := by decide +kernel
theorem dX12_writeLetters_9 : decode cX12_writeLetters 9 = .ok (.lshr, 1) := by decide +kernel
theorem dX12_writeLetters_10 : decode cX12_writeLetters 10 = .ok (.ldc2_w 163, 3) := by decide +kernel
theorem dX12_writeLetters_13 : decode cX12_writeLetters 13 = .ok (.land, 1) := by decide +kernel
theorem dX12_writeLetters_14 : decode cX12_writeLetters 14 = .ok (.lconst 0, 1) := by decide +kernel
theorem dX12_writeLetters_15 : decode cX12_writeLetters 15 = .ok (.lcmp, 1) := by decide +kernel
theorem dX12_writeLetters_16 : decode cX12_writeLetters 16 = .ok (.ifCond .le 15, 3) := by decide +kernel
theorem dX12_writeLetters_19 : decode cX12_writeLetters 19 = .ok (.aload_n 0, 1) := by decide +kernel
theorem dX12_writeLetters_20 : decode cX12_writeLetters 20 = .ok (.lload_n 1, 1) := by decide +kernel
theorem dX12_writeLetters_21 : decode cX12_writeLetters 21 = .ok (.iload_n 3, 1) := by decide +kernel
theorem dX12_writeLetters_22 : decode cX12_writeLetters 22 = .ok (.lshr, 1) := by decide +kernel
theorem dX12_writeLetters_23 : decode cX12_writeLetters 23 = .ok (.ldc2_w 163, 3) := by decide +kernel
theorem dX12_writeLetters_26 : decode cX12_writeLetters 26 = .ok (.land, 1) := by decide +kernel
theorem dX12_writeLetters_27 : decode cX12_writeLetters 27 = .ok (.l2i, 1) := by decide +kernel
theorem dX12_writeLetters_28 : decode cX12_writeLetters 28 = .ok (.invokevirtual 278, 3) := by decide +kernel
theorem dX12_writeLetters_31 : decode cX12_writeLetters 31 = .ok (.iinc 3 (-8), 3) := by decide +kernel
theorem dX12_writeLetters_34 : decode cX12_writeLetters 34 = .ok (.goto (-31), 3) := by decide +kernel
theorem dX12_writeLetters_37 : decode cX12_writeLetters 37 = .ok (.return_, 1) := by decide +kernel
theorem dX12_writeQuote_0 : decode cX12_writeQuote 0 = .ok (.iload_n 1, 1) := by decide +kernel
theorem dX12_writeQuote_1 : decode cX12_writeQuote 1 = .ok (.sipush 256, 3) := by decide +kernel
theorem dX12_writeQuote_4 : decode cX12_writeQuote 4 = .ok (.idiv, 1) := by decide +kernel
theorem dX12_writeQuote_5 : decode cX12_writeQuote 5 = .ok (.istore_n 2, 1) := by decide +kernel
theorem dX12_writeQuote_6 : decode cX12_writeQuote 6 = .ok (.iload_n 2, 1) := by decide +kernel
theorem dX12_writeQuote_7 : decode cX12_writeQuote 7 = .ok (.iload_n 1, 1) := by decide +kernel
theorem dX12_writeQuote_8 : decode cX12_writeQuote 8 = .ok (.sipush 256, 3) := by decide +kernel
theorem dX12_writeQuote_11 : decode cX12_writeQuote 11 = .ok (.idiv, 1) := by decide +kernel
theorem dX12_writeQuote_12 : decode cX12_writeQuote 12 = .ok (.iload_n 1, 1) := by decide +kernel
theorem dX12_writeQuote_13 : decode cX12_writeQuote 13 = .ok (.sipush 256, 3) := by decide +kernel
theorem dX12_writeQuote_16 : decode cX12_writeQuote 16 = .ok (.irem, 1) := by decide +kernel
theorem dX12_writeQuote_17 : decode cX12_writeQuote 17 = .ok (.iadd, 1) := by decide +kernel
theorem dX12_writeQuote_18 : decode cX12_writeQuote 18 = .ok (.if_icmp .ge 19, 3) := by decide +kernel
theorem dX12_writeQuote_21 : decode cX12_writeQuote 21 = .ok (.aload_n 0, 1) := by decide +kernel
theorem dX12_writeQuote_22 : decode cX12_writeQuote 22 = .ok (.aload_n 0, 1) := by decide +kernel
theorem dX12_writeQuote_23 : decode cX12_writeQuote 23 = .ok (.getfield 23, 3) := by decide +kernel
theorem dX12_writeQuote_26 : decode cX12_writeQuote 26 = .ok (.iload_n 2, 1) := by decide +kernel
theorem dX12_writeQuote_27 : decode cX12_writeQuote 27 = .ok (.iaload, 1) := by decide +kernel
theorem dX12_writeQuote_28 : decode cX12_writeQuote 28 = .ok (.invokevirtual 278, 3) := by decide +kernel
theorem dX12_writeQuote_31 : decode cX12_writeQuote 31 = .ok (.iinc 2 1, 3) := by decide +kernel
theorem dX12_writeQuote_34 : decode cX12_writeQuote 34 = .ok (.goto (-28), 3) := by decide +kernel
theorem dX12_writeQuote_37 : decode cX12_writeQuote 37 = .ok (.return_, 1) := by decide +kernel
theorem dX12_roundExact_0 : decode cX12_roundExact 0 = .ok (.aload_n 0, 1) := by decide +kernel
theorem dX12_roundExact_1 : decode cX12_roundExact 1 = .ok (.getfield 66, 3) := by decide +kernel
theorem dX12_roundExact_4 : decode cX12_roundExact 4 = .ok (.iload_n 1, 1) := by decide +kernel
theorem dX12_roundExact_5 : decode cX12_roundExact 5 = .ok (.iconst 1, 1) := by decide +kernel
theorem dX12_roundExact_6 : decode cX12_roundExact 6 = .ok (.iadd, 1) := by decide +kernel
theorem dX12_roundExact_7 : decode cX12_roundExact 7 = .ok (.iaload, 1) := by decide +kernel
theorem dX12_roundExact_8 : decode cX12_roundExact 8 = .ok (.iconst 4, 1) := by decide +kernel
theorem dX12_roundExact_9 : decode cX12_roundExact 9 = .ok (.if_icmp .le 7, 3) := by decide +kernel
theorem dX12_roundExact_12 : decode cX12_roundExact 12 = .ok (.iconst 1, 1) := by decide +kernel
theorem dX12_roundExact_13 : decode cX12_roundExact 13 = .ok (.goto 4, 3) := by decide +kernel
theorem dX12_roundExact_16 : decode cX12_roundExact 16 = .ok (.iconst 0, 1) := by decide +kernel
theorem dX12_roundExact_17 : decode cX12_roundExact 17 = .ok (.istore_n 2, 1) := by decide +kernel
theorem dX12_roundExact_18 : decode cX12_roundExact 18 = .ok (.iload_n 1, 1) := by decide +kernel
theorem dX12_roundExact_19 : decode cX12_roundExact 19 = .ok (.iconst 1, 1) := by decide +kernel
theorem dX12_roundExact_20 : decode cX12_roundExact 20 = .ok (.iadd, 1) := by decide +kernel
theorem dX12_roundExact_21 : decode cX12_roundExact 21 = .ok (.istore_n 3, 1) := by decide +kernel
theorem dX12_roundExact_22 : decode cX12_roundExact 22 = .ok (.iload_n 3, 1) := by decide +kernel
theorem dX12_roundExact_23 : decode cX12_roundExact 23 = .ok (.sipush 1420, 3) := by decide +kernel
theorem dX12_roundExact_26 : decode cX12_roundExact 26 = .ok (.if_icmp .ge 16, 3) := by decide +kernel
theorem dX12_roundExact_29 : decode cX12_roundExact 29 = .ok (.aload_n 0, 1) := by decide +kernel
theorem dX12_roundExact_30 : decode cX12_roundExact 30 = .ok (.getfield 66, 3) := by decide +kernel
theorem dX12_roundExact_33 : decode cX12_roundExact 33 = .ok (.iload_n 3, 1) := by decide +kernel
theorem dX12_roundExact_34 : decode cX12_roundExact 34 = .ok (.iconst 0, 1) := by decide +kernel
theorem dX12_roundExact_35 : decode cX12_roundExact 35 = .ok (.iastore, 1) := by decide +kernel
theorem dX12_roundExact_36 : decode cX12_roundExact 36 = .ok (.iinc 3 1, 3) := by decide +kernel
theorem dX12_roundExact_39 : decode cX12_roundExact 39 = .ok (.goto (-17), 3) := by decide +kernel
theorem dX12_roundExact_42 : decode cX12_roundExact 42 = .ok (.iload_n 1, 1) := by decide +kernel
theorem dX12_roundExact_43 : decode cX12_roundExact 43 = .ok (.istore_n 3, 1) := by decide +kernel
theorem dX12_roundExact_44 : decode cX12_roundExact 44 = .ok (.iload_n 2, 1) := by decide +kernel
theorem dX12_roundExact_45 : decode cX12_roundExact 45 = .ok (.ifCond .eq 27, 3) := by decide +kernel
theorem dX12_roundExact_48 : decode cX12_roundExact 48 = .ok (.aload_n 0, 1) := by decide +kernel
theorem dX12_roundExact_49 : decode cX12_roundExact 49 = .ok (.getfield 66, 3) := by decide +kernel
theorem dX12_roundExact_52 : decode cX12_roundExact 52 = .ok (.iload_n 3, 1) := by decide +kernel
theorem dX12_roundExact_53 : decode cX12_roundExact 53 = .ok (.iaload, 1) := by decide +kernel
theorem dX12_roundExact_54 : decode cX12_roundExact 54 = .ok (.bipush 9, 2) := by decide +kernel
theorem dX12_roundExact_56 : decode cX12_roundExact 56 = .ok (.if_icmp .ne 16, 3) := by decide +kernel
theorem dX12_roundExact_59 : decode cX12_roundExact 59 = .ok (.aload_n 0, 1) := by decide +kernel
theorem dX12_roundExact_60 : decode cX12_roundExact 60 = .ok (.getfield 66, 3) := by decide +kernel
theorem dX12_roundExact_63 : decode cX12_roundExact 63 = .ok (.iload_n 3, 1) := by decide +kernel
theorem dX12_roundExact_64 : decode cX12_roundExact 64 = .ok (.iconst 0, 1) := by decide +kernel
theorem dX12_roundExact_65 : decode cX12_roundExact 65 = .ok (.iastore, 1) := by decide +kernel
theorem dX12_roundExact_66 : decode cX12_roundExact 66 = .ok (.iinc 3 (-1), 3) := by decide +kernel
theorem dX12_roundExact_69 : decode cX12_roundExact 69 = .ok (.goto (-25), 3) := by decide +kernel
theorem dX12_roundExact_72 : decode cX12_roundExact 72 = .ok (.aload_n 0, 1) := by decide +kernel
theorem dX12_roundExact_73 : decode cX12_roundExact 73 = .ok (.getfield 66, 3) := by decide +kernel
theorem dX12_roundExact_76 : decode cX12_roundExact 76 = .ok (.iload_n 3, 1) := by decide +kernel
theorem dX12_roundExact_77 : decode cX12_roundExact 77 = .ok (.dup2, 1) := by decide +kernel
theorem dX12_roundExact_78 : decode cX12_roundExact 78 = .ok (.iaload, 1) := by decide +kernel
theorem dX12_roundExact_79 : decode cX12_roundExact 79 = .ok (.iload_n 2, 1) := by decide +kernel
theorem dX12_roundExact_80 : decode cX12_roundExact 80 = .ok (.ifCond .eq 7, 3) := by decide +kernel
theorem dX12_roundExact_83 : decode cX12_roundExact 83 = .ok (.iconst 1, 1) := by decide +kernel
theorem dX12_roundExact_84 : decode cX12_roundExact 84 = .ok (.goto 4, 3) := by decide +kernel
theorem dX12_roundExact_87 : decode cX12_roundExact 87 = .ok (.iconst 0, 1) := by decide +kernel
theorem dX12_roundExact_88 : decode cX12_roundExact 88 = .ok (.iadd, 1) := by decide +kernel
theorem dX12_roundExact_89 : decode cX12_roundExact 89 = .ok (.iastore, 1) := by decide +kernel
theorem dX12_roundExact_90 : decode cX12_roundExact 90 = .ok (.return_, 1) := by decide +kernel
theorem dX12_writeGeneral_0 : decode cX12_writeGeneral 0 = .ok (.aload_n 0, 1) := by decide +kernel
theorem dX12_writeGeneral_1 : decode cX12_writeGeneral 1 = .ok (.getfield 95, 3) := by decide +kernel
theorem dX12_writeGeneral_4 : decode cX12_writeGeneral 4 = .ok (.dconst 0, 1) := by decide +kernel
theorem dX12_writeGeneral_5 : decode cX12_writeGeneral 5 = .ok (.dcmp .l, 1) := by decide +kernel
theorem dX12_writeGeneral_6 : decode cX12_writeGeneral 6 = .ok (.ifCond .ne 10, 3) := by decide +kernel
theorem dX12_writeGeneral_9 : decode cX12_writeGeneral 9 = .ok (.aload_n 0, 1) := by decide +kernel
theorem dX12_writeGeneral_10 : decode cX12_writeGeneral 10 = .ok (.bipush 48, 2) := by decide +kernel
theorem dX12_writeGeneral_12 : decode cX12_writeGeneral 12 = .ok (.invokevirtual 278, 3) := by decide +kernel
theorem dX12_writeGeneral_15 : decode cX12_writeGeneral 15 = .ok (.return_, 1) := by decide +kernel
theorem dX12_writeGeneral_16 : decode cX12_writeGeneral 16 = .ok (.aload_n 0, 1) := by decide +kernel
theorem dX12_writeGeneral_17 : decode cX12_writeGeneral 17 = .ok (.invokevirtual 281, 3) := by decide +kernel
theorem dX12_writeGeneral_20 : decode cX12_writeGeneral 20 = .ok (.sipush 319, 3) := by decide +kernel
theorem dX12_writeGeneral_23 : decode cX12_writeGeneral 23 = .ok (.aload_n 0, 1) := by decide +kernel
theorem dX12_writeGeneral_24 : decode cX12_writeGeneral 24 = .ok (.getfield 66, 3) := by decide +kernel
theorem dX12_writeGeneral_27 : decode cX12_writeGeneral 27 = .ok (.invokestatic 103, 3) := by decide +kernel
theorem dX12_writeGeneral_30 : decode cX12_writeGeneral 30 = .ok (.isub, 1) := by decide +kernel
theorem dX12_writeGeneral_31 : decode cX12_writeGeneral 31 = .ok (.istore_n 1, 1) := by decide +kernel
theorem dX12_writeGeneral_32 : decode cX12_writeGeneral 32 = .ok (.iload_n 1, 1) := by decide +kernel
theorem dX12_writeGeneral_33 : decode cX12_writeGeneral 33 = .ok (.bipush 11, 2) := by decide +kernel
theorem dX12_writeGeneral_35 : decode cX12_writeGeneral 35 = .ok (.if_icmp .ge 13, 3) := by decide +kernel
theorem dX12_writeGeneral_38 : decode cX12_writeGeneral 38 = .ok (.iload_n 1, 1) := by decide +kernel
theorem dX12_writeGeneral_39 : decode cX12_writeGeneral 39 = .ok (.bipush (-6), 2) := by decide +kernel
theorem dX12_writeGeneral_41 : decode cX12_writeGeneral 41 = .ok (.if_icmp .le 7, 3) := by decide +kernel
theorem dX12_writeGeneral_44 : decode cX12_writeGeneral 44 = .ok (.iconst 1, 1) := by decide +kernel
theorem dX12_writeGeneral_45 : decode cX12_writeGeneral 45 = .ok (.goto 4, 3) := by decide +kernel
theorem dX12_writeGeneral_48 : decode cX12_writeGeneral 48 = .ok (.iconst 0, 1) := by decide +kernel
theorem dX12_writeGeneral_49 : decode cX12_writeGeneral 49 = .ok (.istore_n 2, 1) := by decide +kernel
theorem dX12_writeGeneral_50 : decode cX12_writeGeneral 50 = .ok (.iload_n 2, 1) := by decide +kernel
theorem dX12_writeGeneral_51 : decode cX12_writeGeneral 51 = .ok (.ifCond .eq 59, 3) := by decide +kernel
theorem dX12_writeGeneral_54 : decode cX12_writeGeneral 54 = .ok (.iload_n 1, 1) := by decide +kernel
theorem dX12_writeGeneral_55 : decode cX12_writeGeneral 55 = .ok (.ifCond .ge 7, 3) := by decide +kernel
theorem dX12_writeGeneral_58 : decode cX12_writeGeneral 58 = .ok (.iconst 1, 1) := by decide +kernel
theorem dX12_writeGeneral_59 : decode cX12_writeGeneral 59 = .ok (.goto 6, 3) := by decide +kernel
theorem dX12_writeGeneral_62 : decode cX12_writeGeneral 62 = .ok (.iload_n 1, 1) := by decide +kernel
theorem dX12_writeGeneral_63 : decode cX12_writeGeneral 63 = .ok (.iconst 1, 1) := by decide +kernel
theorem dX12_writeGeneral_64 : decode cX12_writeGeneral 64 = .ok (.iadd, 1) := by decide +kernel
theorem dX12_writeGeneral_65 : decode cX12_writeGeneral 65 = .ok (.istore_n 3, 1) := by decide +kernel
theorem dX12_writeGeneral_66 : decode cX12_writeGeneral 66 = .ok (.aload_n 0, 1) := by decide +kernel
theorem dX12_writeGeneral_67 : decode cX12_writeGeneral 67 = .ok (.sipush 319, 3) := by decide +kernel
theorem dX12_writeGeneral_70 : decode cX12_writeGeneral 70 = .ok (.iload_n 3, 1) := by decide +kernel
theorem dX12_writeGeneral_71 : decode cX12_writeGeneral 71 = .ok (.bipush 10, 2) := by decide +kernel
theorem dX12_writeGeneral_73 : decode cX12_writeGeneral 73 = .ok (.if_icmp .ge 10, 3) := by decide +kernel
theorem dX12_writeGeneral_76 : decode cX12_writeGeneral 76 = .ok (.bipush 10, 2) := by decide +kernel
theorem dX12_writeGeneral_78 : decode cX12_writeGeneral 78 = .ok (.iload_n 3, 1) := by decide +kernel
theorem dX12_writeGeneral_79 : decode cX12_writeGeneral 79 = .ok (.isub, 1) := by decide +kernel
theorem dX12_writeGeneral_80 : decode cX12_writeGeneral 80 = .ok (.goto 4, 3) := by decide +kernel
theorem dX12_writeGeneral_83 : decode cX12_writeGeneral 83 = .ok (.iconst 0, 1) := by decide +kernel
theorem dX12_writeGeneral_84 : decode cX12_writeGeneral 84 = .ok (.iadd, 1) := by decide +kernel
theorem dX12_writeGeneral_85 : decode cX12_writeGeneral 85 = .ok (.invokevirtual 284, 3) := by decide +kernel
theorem dX12_writeGeneral_88 : decode cX12_writeGeneral 88 = .ok (.sipush 319, 3) := by decide +kernel
theorem dX12_writeGeneral_91 : decode cX12_writeGeneral 91 = .ok (.aload_n 0, 1) := by decide +kernel
theorem dX12_writeGeneral_92 : decode cX12_writeGeneral 92 = .ok (.getfield 66, 3) := by decide +kernel
theorem dX12_writeGeneral_95 : decode cX12_writeGeneral 95 = .ok (.invokestatic 103, 3) := by decide +kernel
theorem dX12_writeGeneral_98 : decode cX12_writeGeneral 98 = .ok (.isub, 1) := by decide +kernel
theorem dX12_writeGeneral_99 : decode cX12_writeGeneral 99 = .ok (.bipush 11, 2) := by decide +kernel
theorem dX12_writeGeneral_101 : decode cX12_writeGeneral 101 = .ok (.if_icmp .ge 7, 3) := by decide +kernel
theorem dX12_writeGeneral_104 : decode cX12_writeGeneral 104 = .ok (.iconst 1, 1) := by decide +kernel
theorem dX12_writeGeneral_105 : decode cX12_writeGeneral 105 = .ok (.goto 4, 3) := by decide +kernel
theorem dX12_writeGeneral_108 : decode cX12_writeGeneral 108 = .ok (.iconst 0, 1) := by decide +kernel
theorem dX12_writeGeneral_109 : decode cX12_writeGeneral 109 = .ok (.istore_n 2, 1) := by decide +kernel
theorem dX12_writeGeneral_110 : decode cX12_writeGeneral 110 = .ok (.iload_n 2, 1) := by decide +kernel
theorem dX12_writeGeneral_111 : decode cX12_writeGeneral 111 = .ok (.ifCond .ne 20, 3) := by decide +kernel
theorem dX12_writeGeneral_114 : decode cX12_writeGeneral 114 = .ok (.aload_n 0, 1) := by decide +kernel
theorem dX12_writeGeneral_115 : decode cX12_writeGeneral 115 = .ok (.invokevirtual 281, 3) := by decide +kernel
theorem dX12_writeGeneral_118 : decode cX12_writeGeneral 118 = .ok (.aload_n 0, 1) := by decide +kernel
theorem dX12_writeGeneral_119 : decode cX12_writeGeneral 119 = .ok (.aload_n 0, 1) := by decide +kernel
theorem dX12_writeGeneral_120 : decode cX12_writeGeneral 120 = .ok (.getfield 66, 3) := by decide +kernel
theorem dX12_writeGeneral_123 : decode cX12_writeGeneral 123 = .ok (.invokestatic 103, 3) := by decide +kernel
theorem dX12_writeGeneral_126 : decode cX12_writeGeneral 126 = .ok (.iconst 5, 1) := by decide +kernel
theorem dX12_writeGeneral_127 : decode cX12_writeGeneral 127 = .ok (.iadd, 1) := by decide +kernel
theorem dX12_writeGeneral_128 : decode cX12_writeGeneral 128 = .ok (.invokevirtual 284, 3) := by decide +kernel
theorem dX12_writeGeneral_131 : decode cX12_writeGeneral 131 = .ok (.aload_n 0, 1) := by decide +kernel
theorem dX12_writeGeneral_132 : decode cX12_writeGeneral 132 = .ok (.getfield 66, 3) := by decide +kernel
theorem dX12_writeGeneral_135 : decode cX12_writeGeneral 135 = .ok (.invokestatic 103, 3) := by decide +kernel
theorem dX12_writeGeneral_138 : decode cX12_writeGeneral 138 = .ok (.istore_n 3, 1) := by decide +kernel
theorem dX12_writeGeneral_139 : decode cX12_writeGeneral 139 = .ok (.aload_n 0, 1) := by decide +kernel
theorem dX12_writeGeneral_140 : decode cX12_writeGeneral 140 = .ok (.getfield 66, 3) := by decide +kernel
theorem dX12_writeGeneral_143 : decode cX12_writeGeneral 143 = .ok (.invokestatic 107, 3) := by decide +kernel
theorem dX12_writeGeneral_146 : decode cX12_writeGeneral 146 = .ok (.istore 4, 2) := by decide +kernel
theorem dX12_writeGeneral_148 : decode cX12_writeGeneral 148 = .ok (.sipush 319, 3) := by decide +kernel
theorem dX12_writeGeneral_151 : decode cX12_writeGeneral 151 = .ok (.iload_n 3, 1) := by decide +kernel
theorem dX12_writeGeneral_152 : decode cX12_writeGeneral 152 = .ok (.isub, 1) := by decide +kernel
theorem dX12_writeGeneral_153 : decode cX12_writeGeneral 153 = .ok (.istore_n 1, 1) := by decide +kernel
theorem dX12_writeGeneral_154 : decode cX12_writeGeneral 154 = .ok (.iload_n 2, 1) := by decide +kernel
theorem dX12_writeGeneral_155 : decode cX12_writeGeneral 155 = .ok (.ifCond .eq 94, 3) := by decide +kernel
theorem dX12_writeGeneral_158 : decode cX12_writeGeneral 158 = .ok (.iload_n 3, 1) := by decide +kernel
theorem dX12_writeGeneral_159 : decode cX12_writeGeneral 159 = .ok (.sipush 319, 3) := by decide +kernel
theorem dX12_writeGeneral_162 : decode cX12_writeGeneral 162 = .ok (.if_icmp .ge 7, 3) := by decide +kernel
theorem dX12_writeGeneral_165 : decode cX12_writeGeneral 165 = .ok (.iload_n 3, 1) := by decide +kernel
theorem dX12_writeGeneral_166 : decode cX12_writeGeneral 166 = .ok (.goto 6, 3) := by decide +kernel
theorem dX12_writeGeneral_169 : decode cX12_writeGeneral 169 = .ok (.sipush 319, 3) := by decide +kernel
theorem dX12_writeGeneral_172 : decode cX12_writeGeneral 172 = .ok (.istore 5, 2) := by decide +kernel
theorem dX12_writeGeneral_174 : decode cX12_writeGeneral 174 = .ok (.iload 5, 2) := by decide +kernel
theorem dX12_writeGeneral_176 : decode cX12_writeGeneral 176 = .ok (.sipush 319, 3) := by decide +kernel
theorem dX12_writeGeneral_179 : decode cX12_writeGeneral 179 = .ok (.if_icmp .gt 23, 3) := by decide +kernel
theorem dX12_writeGeneral_182 : decode cX12_writeGeneral 182 = .ok (.aload_n 0, 1) := by decide +kernel
theorem dX12_writeGeneral_183 : decode cX12_writeGeneral 183 = .ok (.bipush 48, 2) := by decide +kernel
theorem dX12_writeGeneral_185 : decode cX12_writeGeneral 185 = .ok (.aload_n 0, 1) := by decide +kernel
theorem dX12_writeGeneral_186 : decode cX12_writeGeneral 186 = .ok (.getfield 66, 3) := by decide +kernel
theorem dX12_writeGeneral_189 : decode cX12_writeGeneral 189 = .ok (.iload 5, 2) := by decide +kernel
theorem dX12_writeGeneral_191 : decode cX12_writeGeneral 191 = .ok (.iaload, 1) := by decide +kernel
theorem dX12_writeGeneral_192 : decode cX12_writeGeneral 192 = .ok (.iadd, 1) := by decide +kernel
theorem dX12_writeGeneral_193 : decode cX12_writeGeneral 193 = .ok (.invokevirtual 278, 3) := by decide +kernel
theorem dX12_writeGeneral_196 : decode cX12_writeGeneral 196 = .ok (.iinc 5 1, 3) := by decide +kernel
theorem dX12_writeGeneral_199 : decode cX12_writeGeneral 199 = .ok (.goto (-25), 3) := by decide +kernel
theorem dX12_writeGeneral_202 : decode cX12_writeGeneral 202 = .ok (.iload 4, 2) := by decide +kernel
theorem dX12_writeGeneral_204 : decode cX12_writeGeneral 204 = .ok (.sipush 319, 3) := by decide +kernel
theorem dX12_writeGeneral_207 : decode cX12_writeGeneral 207 = .ok (.if_icmp .le 9, 3) := by decide +kernel
theorem dX12_writeGeneral_210 : decode cX12_writeGeneral 210 = .ok (.aload_n 0, 1) := by decide +kernel
theorem dX12_writeGeneral_211 : decode cX12_writeGeneral 211 = .ok (.bipush 46, 2) := by decide +kernel
theorem dX12_writeGeneral_213 : decode cX12_writeGeneral 213 = .ok (.invokevirtual 278, 3) := by decide +kernel
theorem dX12_writeGeneral_216 : decode cX12_writeGeneral 216 = .ok (.sipush 320, 3) := by decide +kernel
theorem dX12_writeGeneral_219 : decode cX12_writeGeneral 219 = .ok (.istore 5, 2) := by decide +kernel
theorem dX12_writeGeneral_221 : decode cX12_writeGeneral 221 = .ok (.iload 5, 2) := by decide +kernel
theorem dX12_writeGeneral_223 : decode cX12_writeGeneral 223 = .ok (.iload 4, 2) := by decide +kernel
theorem dX12_writeGeneral_225 : decode cX12_writeGeneral 225 = .ok (.if_icmp .gt 23, 3) := by decide +kernel
theorem dX12_writeGeneral_228 : decode cX12_writeGeneral 228 = .ok (.aload_n 0, 1) := by decide +kernel
theorem dX12_writeGeneral_229 : decode cX12_writeGeneral 229 = .ok (.bipush 48, 2) := by decide +kernel
theorem dX12_writeGeneral_231 : decode cX12_writeGeneral 231 = .ok (.aload_n 0, 1) := by decide +kernel
theorem dX12_writeGeneral_232 : decode cX12_writeGeneral 232 = .ok (.getfield 66, 3) := by decide +kernel
theorem dX12_writeGeneral_235 : decode cX12_writeGeneral 235 = .ok (.iload 5, 2) := by decide +kernel
theorem dX12_writeGeneral_237 : decode cX12_writeGeneral 237 = .ok (.iaload, 1) := by decide +kernel
theorem dX12_writeGeneral_238 : decode cX12_writeGeneral 238 = .ok (.iadd, 1) := by decide +kernel
theorem dX12_writeGeneral_239 : decode cX12_writeGeneral 239 = .ok (.invokevirtual 278, 3) := by decide +kernel
theorem dX12_writeGeneral_242 : decode cX12_writeGeneral 242 = .ok (.iinc 5 1, 3) := by decide +kernel
theorem dX12_writeGeneral_245 : decode cX12_writeGeneral 245 = .ok (.goto (-24), 3) := by decide +kernel
theorem dX12_writeGeneral_248 : decode cX12_writeGeneral 248 = .ok (.return_, 1) := by decide +kernel
theorem dX12_writeGeneral_249 : decode cX12_writeGeneral 249 = .ok (.aload_n 0, 1) := by decide +kernel
theorem dX12_writeGeneral_250 : decode cX12_writeGeneral 250 = .ok (.bipush 48, 2) := by decide +kernel
theorem dX12_writeGeneral_252 : decode cX12_writeGeneral 252 = .ok (.aload_n 0, 1) := by decide +kernel
theorem dX12_writeGeneral_253 : decode cX12_writeGeneral 253 = .ok (.getfield 66, 3) := by decide +kernel
theorem dX12_writeGeneral_256 : decode cX12_writeGeneral 256 = .ok (.iload_n 3, 1) := by decide +kernel
theorem dX12_writeGeneral_257 : decode cX12_writeGeneral 257 = .ok (.iaload, 1) := by decide +kernel
theorem dX12_writeGeneral_258 : decode cX12_writeGeneral 258 = .ok (.iadd, 1) := by decide +kernel
theorem dX12_writeGeneral_259 : decode cX12_writeGeneral 259 = .ok (.invokevirtual 278, 3) := by decide +kernel
theorem dX12_writeGeneral_262 : decode cX12_writeGeneral 262 = .ok (.iload 4, 2) := by decide +kernel
theorem dX12_writeGeneral_264 : decode cX12_writeGeneral 264 = .ok (.iload_n 3, 1) := by decide +kernel
theorem dX12_writeGeneral_265 : decode cX12_writeGeneral 265 = .ok (.if_icmp .le 9, 3) := by decide +kernel
theorem dX12_writeGeneral_268 : decode cX12_writeGeneral 268 = .ok (.aload_n 0, 1) := by decide +kernel
theorem dX12_writeGeneral_269 : decode cX12_writeGeneral 269 = .ok (.bipush 46, 2) := by decide +kernel
theorem dX12_writeGeneral_271 : decode cX12_writeGeneral 271 = .ok (.invokevirtual 278, 3) := by decide +kernel
theorem dX12_writeGeneral_274 : decode cX12_writeGeneral 274 = .ok (.iload_n 3, 1) := by decide +kernel
theorem dX12_writeGeneral_275 : decode cX12_writeGeneral 275 = .ok (.iconst 1, 1) := by decide +kernel
theorem dX12_writeGeneral_276 : decode cX12_writeGeneral 276 = .ok (.iadd, 1) := by decide +kernel
theorem dX12_writeGeneral_277 : decode cX12_writeGeneral 277 = .ok (.istore 5, 2) := by decide +kernel
theorem dX12_writeGeneral_279 : decode cX12_writeGeneral 279 = .ok (.iload 5, 2) := by decide +kernel
theorem dX12_writeGeneral_281 : decode cX12_writeGeneral 281 = .ok (.iload 4, 2) := by decide +kernel
theorem dX12_writeGeneral_283 : decode cX12_writeGeneral 283 = .ok (.if_icmp .gt 23, 3) := by decide +kernel
theorem dX12_writeGeneral_286 : decode cX12_writeGeneral 286 = .ok (.aload_n 0, 1) := by decide +kernel
theorem dX12_writeGeneral_287 : decode cX12_writeGeneral 287 = .ok (.bipush 48, 2) := by decide +kernel
theorem dX12_writeGeneral_289 : decode cX12_writeGeneral 289 = .ok (.aload_n 0, 1) := by decide +kernel
theorem dX12_writeGeneral_290 : decode cX12_writeGeneral 290 = .ok (.getfield 66, 3) := by decide +kernel
theorem dX12_writeGeneral_293 : decode cX12_writeGeneral 293 = .ok (.iload 5, 2) := by decide +kernel
theorem dX12_writeGeneral_295 : decode cX12_writeGeneral 295 = .ok (.iaload, 1) := by decide +kernel
theorem dX12_writeGeneral_296 : decode cX12_writeGeneral 296 = .ok (.iadd, 1) := by decide +kernel
theorem dX12_writeGeneral_297 : decode cX12_writeGeneral 297 = .ok (.invokevirtual 278, 3) := by decide +kernel
theorem dX12_writeGeneral_300 : decode cX12_writeGeneral 300 = .ok (.iinc 5 1, 3) := by decide +kernel
theorem dX12_writeGeneral_303 : decode cX12_writeGeneral 303 = .ok (.goto (-24), 3) := by decide +kernel
theorem dX12_writeGeneral_306 : decode cX12_writeGeneral 306 = .ok (.aload_n 0, 1) := by decide +kernel
theorem dX12_writeGeneral_307 : decode cX12_writeGeneral 307 = .ok (.bipush 69, 2) := by decide +kernel
theorem dX12_writeGeneral_309 : decode cX12_writeGeneral 309 = .ok (.invokevirtual 278, 3) := by decide +kernel
theorem dX12_writeGeneral_312 : decode cX12_writeGeneral 312 = .ok (.aload_n 0, 1) := by decide +kernel
theorem dX12_writeGeneral_313 : decode cX12_writeGeneral 313 = .ok (.iload_n 1, 1) := by decide +kernel
theorem dX12_writeGeneral_314 : decode cX12_writeGeneral 314 = .ok (.ifCond .ge 8, 3) := by decide +kernel
theorem dX12_writeGeneral_317 : decode cX12_writeGeneral 317 = .ok (.bipush 45, 2) := by decide +kernel
theorem dX12_writeGeneral_319 : decode cX12_writeGeneral 319 = .ok (.goto 5, 3) := by decide +kernel
theorem dX12_writeGeneral_322 : decode cX12_writeGeneral 322 = .ok (.bipush 43, 2) := by decide +kernel
theorem dX12_writeGeneral_324 : decode cX12_writeGeneral 324 = .ok (.invokevirtual 278, 3) := by decide +kernel
theorem dX12_writeGeneral_327 : decode cX12_writeGeneral 327 = .ok (.aload_n 0, 1) := by decide +kernel
theorem dX12_writeGeneral_328 : decode cX12_writeGeneral 328 = .ok (.iload_n 1, 1) := by decide +kernel
theorem dX12_writeGeneral_329 : decode cX12_writeGeneral 329 = .ok (.ifCond .ge 9, 3) := by decide +kernel
theorem dX12_writeGeneral_332 : decode cX12_writeGeneral 332 = .ok (.iload_n 1, 1) := by decide +kernel
theorem dX12_writeGeneral_333 : decode cX12_writeGeneral 333 = .ok (.ineg, 1) := by decide +kernel
theorem dX12_writeGeneral_334 : decode cX12_writeGeneral 334 = .ok (.i2l, 1) := by decide +kernel
theorem dX12_writeGeneral_335 : decode cX12_writeGeneral 335 = .ok (.goto 5, 3) := by decide +kernel
theorem dX12_writeGeneral_338 : decode cX12_writeGeneral 338 = .ok (.iload_n 1, 1) := by decide +kernel
theorem dX12_writeGeneral_339 : decode cX12_writeGeneral 339 = .ok (.i2l, 1) := by decide +kernel
theorem dX12_writeGeneral_340 : decode cX12_writeGeneral 340 = .ok (.iconst 2, 1) := by decide +kernel
theorem dX12_writeGeneral_341 : decode cX12_writeGeneral 341 = .ok (.invokevirtual 287, 3) := by decide +kernel
theorem dX12_writeGeneral_344 : decode cX12_writeGeneral 344 = .ok (.return_, 1) := by decide +kernel
theorem dX12_round_0 : decode cX12_round 0 = .ok (.iconst 0, 1) := by decide +kernel
theorem dX12_round_1 : decode cX12_round 1 = .ok (.istore_n 3, 1) := by decide +kernel
theorem dX12_round_2 : decode cX12_round 2 = .ok (.iload_n 3, 1) := by decide +kernel
theorem dX12_round_3 : decode cX12_round 3 = .ok (.sipush 1400, 3) := by decide +kernel
theorem dX12_round_6 : decode cX12_round 6 = .ok (.if_icmp .ge 16, 3) := by decide +kernel
theorem dX12_round_9 : decode cX12_round 9 = .ok (.aload_n 0, 1) := by decide +kernel
theorem dX12_round_10 : decode cX12_round 10 = .ok (.getfield 75, 3) := by decide +kernel
theorem dX12_round_13 : decode cX12_round 13 = .ok (.iload_n 3, 1) := by decide +kernel
theorem dX12_round_14 : decode cX12_round 14 = .ok (.iconst 0, 1) := by decide +kernel
theorem dX12_round_15 : decode cX12_round 15 = .ok (.iastore, 1) := by decide +kernel
theorem dX12_round_16 : decode cX12_round 16 = .ok (.iinc 3 1, 3) := by decide +kernel
theorem dX12_round_19 : decode cX12_round 19 = .ok (.goto (-17), 3) := by decide +kernel
theorem dX12_round_22 : decode cX12_round 22 = .ok (.iconst 0, 1) := by decide +kernel
theorem dX12_round_23 : decode cX12_round 23 = .ok (.istore_n 3, 1) := by decide +kernel
theorem dX12_round_24 : decode cX12_round 24 = .ok (.iload_n 3, 1) := by decide +kernel
theorem dX12_round_25 : decode cX12_round 25 = .ok (.sipush 1420, 3) := by decide +kernel
theorem dX12_round_28 : decode cX12_round 28 = .ok (.if_icmp .ge 61, 3) := by decide +kernel
theorem dX12_round_31 : decode cX12_round 31 = .ok (.sipush 319, 3) := by decide +kernel
theorem dX12_round_34 : decode cX12_round 34 = .ok (.iload_n 3, 1) := by decide +kernel
theorem dX12_round_35 : decode cX12_round 35 = .ok (.isub, 1) := by decide +kernel
theorem dX12_round_36 : decode cX12_round 36 = .ok (.iload_n 1, 1) := by decide +kernel
theorem dX12_round_37 : decode cX12_round 37 = .ok (.iadd, 1) := by decide +kernel
theorem dX12_round_38 : decode cX12_round 38 = .ok (.istore 4, 2) := by decide +kernel
theorem dX12_round_40 : decode cX12_round 40 = .ok (.aload_n 0, 1) := by decide +kernel
theorem dX12_round_41 : decode cX12_round 41 = .ok (.getfield 66, 3) := by decide +kernel
theorem dX12_round_44 : decode cX12_round 44 = .ok (.iload_n 3, 1) := by decide +kernel
theorem dX12_round_45 : decode cX12_round 45 = .ok (.iaload, 1) := by decide +kernel
theorem dX12_round_46 : decode cX12_round 46 = .ok (.ifCond .le 37, 3) := by decide +kernel
theorem dX12_round_49 : decode cX12_round 49 = .ok (.iload 4, 2) := by decide +kernel
theorem dX12_round_51 : decode cX12_round 51 = .ok (.iload_n 2, 1) := by decide +kernel
theorem dX12_round_52 : decode cX12_round 52 = .ok (.ineg, 1) := by decide +kernel
theorem dX12_round_53 : decode cX12_round 53 = .ok (.iconst 1, 1) := by decide +kernel
theorem dX12_round_54 : decode cX12_round 54 = .ok (.isub, 1) := by decide +kernel
theorem dX12_round_55 : decode cX12_round 55 = .ok (.if_icmp .lt 28, 3) := by decide +kernel
theorem dX12_round_58 : decode cX12_round 58 = .ok (.iload 4, 2) := by decide +kernel
theorem dX12_round_60 : decode cX12_round 60 = .ok (.sipush 1000, 3) := by decide +kernel
theorem dX12_round_63 : decode cX12_round 63 = .ok (.if_icmp .gt 20, 3) := by decide +kernel
theorem dX12_round_66 : decode cX12_round 66 = .ok (.aload_n 0, 1) := by decide +kernel
theorem dX12_round_67 : decode cX12_round 67 = .ok (.getfield 75, 3) := by decide +kernel
theorem dX12_round_70 : decode cX12_round 70 = .ok (.sipush 1000, 3) := by decide +kernel
theorem dX12_round_73 : decode cX12_round 73 = .ok (.iload 4, 2) := by decide +kernel
theorem dX12_round_75 : decode cX12_round 75 = .ok (.isub, 1) := by decide +kernel
theorem dX12_round_76 : decode cX12_round 76 = .ok (.aload_n 0, 1) := by decide +kernel
theorem dX12_round_77 : decode cX12_round 77 = .ok (.getfield 66, 3) := by decide +kernel
theorem dX12_round_80 : decode cX12_round 80 = .ok (.iload_n 3, 1) := by decide +kernel
theorem dX12_round_81 : decode cX12_round 81 = .ok (.iaload, 1) := by decide +kernel
theorem dX12_round_82 : decode cX12_round 82 = .ok (.iastore, 1) := by decide +kernel
theorem dX12_round_83 : decode cX12_round 83 = .ok (.iinc 3 1, 3) := by decide +kernel
theorem dX12_round_86 : decode cX12_round 86 = .ok (.goto (-62), 3) := by decide +kernel
theorem dX12_round_89 : decode cX12_round 89 = .ok (.sipush 1000, 3) := by decide +kernel
theorem dX12_round_92 : decode cX12_round 92 = .ok (.iload_n 2, 1) := by decide +kernel
theorem dX12_round_93 : decode cX12_round 93 = .ok (.iadd, 1) := by decide +kernel
theorem dX12_round_94 : decode cX12_round 94 = .ok (.istore_n 3, 1) := by decide +kernel
theorem dX12_round_95 : decode cX12_round 95 = .ok (.aload_n 0, 1) := by decide +kernel
theorem dX12_round_96 : decode cX12_round 96 = .ok (.getfield 75, 3) := by decide +kernel
theorem dX12_round_99 : decode cX12_round 99 = .ok (.iload_n 3, 1) := by decide +kernel
theorem dX12_round_100 : decode cX12_round 100 = .ok (.iconst 1, 1) := by decide +kernel
theorem dX12_round_101 : decode cX12_round 101 = .ok (.iadd, 1) := by decide +kernel
theorem dX12_round_102 : decode cX12_round 102 = .ok (.iaload, 1) := by decide +kernel
theorem dX12_round_103 : decode cX12_round 103 = .ok (.iconst 4, 1) := by decide +kernel
theorem dX12_round_104 : decode cX12_round 104 = .ok (.if_icmp .le 7, 3) := by decide +kernel
theorem dX12_round_107 : decode cX12_round 107 = .ok (.iconst 1, 1) := by decide +kernel
theorem dX12_round_108 : decode cX12_round 108 = .ok (.goto 4, 3) := by decide +kernel
theorem dX12_round_111 : decode cX12_round 111 = .ok (.iconst 0, 1) := by decide +kernel
theorem dX12_round_112 : decode cX12_round 112 = .ok (.istore 4, 2) := by decide +kernel
theorem dX12_round_114 : decode cX12_round 114 = .ok (.aload_n 0, 1) := by decide +kernel
theorem dX12_round_115 : decode cX12_round 115 = .ok (.getfield 75, 3) := by decide +kernel
theorem dX12_round_118 : decode cX12_round 118 = .ok (.iload_n 3, 1) := by decide +kernel
theorem dX12_round_119 : decode cX12_round 119 = .ok (.iconst 1, 1) := by decide +kernel
theorem dX12_round_120 : decode cX12_round 120 = .ok (.iadd, 1) := by decide +kernel
theorem dX12_round_121 : decode cX12_round 121 = .ok (.iconst 0, 1) := by decide +kernel
theorem dX12_round_122 : decode cX12_round 122 = .ok (.iastore, 1) := by decide +kernel
theorem dX12_round_123 : decode cX12_round 123 = .ok (.iload 4, 2) := by decide +kernel
theorem dX12_round_125 : decode cX12_round 125 = .ok (.ifCond .eq 27, 3) := by decide +kernel
theorem dX12_round_128 : decode cX12_round 128 = .ok (.aload_n 0, 1) := by decide +kernel
theorem dX12_round_129 : decode cX12_round 129 = .ok (.getfield 75, 3) := by decide +kernel
theorem dX12_round_132 : decode cX12_round 132 = .ok (.iload_n 3, 1) := by decide +kernel
theorem dX12_round_133 : decode cX12_round 133 = .ok (.iaload, 1) := by decide +kernel
theorem dX12_round_134 : decode cX12_round 134 = .ok (.bipush 9, 2) := by decide +kernel
theorem dX12_round_136 : decode cX12_round 136 = .ok (.if_icmp .ne 16, 3) := by decide +kernel
theorem dX12_round_139 : decode cX12_round 139 = .ok (.aload_n 0, 1) := by decide +kernel
theorem dX12_round_140 : decode cX12_round 140 = .ok (.getfield 75, 3) := by decide +kernel
theorem dX12_round_143 : decode cX12_round 143 = .ok (.iload_n 3, 1) := by decide +kernel
theorem dX12_round_144 : decode cX12_round 144 = .ok (.iconst 0, 1) := by decide +kernel
theorem dX12_round_145 : decode cX12_round 145 = .ok (.iastore, 1) := by decide +kernel
theorem dX12_round_146 : decode cX12_round 146 = .ok (.iinc 3 (-1), 3) := by decide +kernel
theorem dX12_round_149 : decode cX12_round 149 = .ok (.goto (-26), 3) := by decide +kernel
theorem dX12_round_152 : decode cX12_round 152 = .ok (.aload_n 0, 1) := by decide +kernel
theorem dX12_round_153 : decode cX12_round 153 = .ok (.getfield 75, 3) := by decide +kernel
theorem dX12_round_156 : decode cX12_round 156 = .ok (.iload_n 3, 1) := by decide +kernel
theorem dX12_round_157 : decode cX12_round 157 = .ok (.dup2, 1) := by decide +kernel
theorem dX12_round_158 : decode cX12_round 158 = .ok (.iaload, 1) := by decide +kernel
theorem dX12_round_159 : decode cX12_round 159 = .ok (.iload 4, 2) := by decide +kernel
theorem dX12_round_161 : decode cX12_round 161 = .ok (.ifCond .eq 7, 3) := by decide +kernel
theorem dX12_round_164 : decode cX12_round 164 = .ok (.iconst 1, 1) := by decide +kernel
theorem dX12_round_165 : decode cX12_round 165 = .ok (.goto 4, 3) := by decide +kernel
theorem dX12_round_168 : decode cX12_round 168 = .ok (.iconst 0, 1) := by decide +kernel
theorem dX12_round_169 : decode cX12_round 169 = .ok (.iadd, 1) := by decide +kernel
theorem dX12_round_170 : decode cX12_round 170 = .ok (.iastore, 1) := by decide +kernel
theorem dX12_round_171 : decode cX12_round 171 = .ok (.aload_n 0, 1) := by decide +kernel
theorem dX12_round_172 : decode cX12_round 172 = .ok (.invokevirtual 290, 3) := by decide +kernel
theorem dX12_round_175 : decode cX12_round 175 = .ok (.return_, 1) := by decide +kernel
theorem dX12_findWhole_0 : decode cX12_findWhole 0 = .ok (.aload_n 0, 1) := by decide +kernel
theorem dX12_findWhole_1 : decode cX12_findWhole 1 = .ok (.iconst 0, 1) := by decide +kernel
theorem dX12_findWhole_2 : decode cX12_findWhole 2 = .ok (.putfield 293, 3) := by decide +kernel
theorem dX12_findWhole_5 : decode cX12_findWhole 5 = .ok (.iconst 0, 1) := by decide +kernel
theorem dX12_findWhole_6 : decode cX12_findWhole 6 = .ok (.istore_n 1, 1) := by decide +kernel
theorem dX12_findWhole_7 : decode cX12_findWhole 7 = .ok (.iload_n 1, 1) := by decide +kernel
theorem dX12_findWhole_8 : decode cX12_findWhole 8 = .ok (.sipush 1000, 3) := by decide +kernel
theorem dX12_findWhole_11 : decode cX12_findWhole 11 = .ok (.if_icmp .gt 36, 3) := by decide +kernel
theorem dX12_findWhole_14 : decode cX12_findWhole 14 = .ok (.aload_n 0, 1) := by decide +kernel
theorem dX12_findWhole_15 : decode cX12_findWhole 15 = .ok (.getfield 75, 3) := by decide +kernel
theorem dX12_findWhole_18 : decode cX12_findWhole 18 = .ok (.iload_n 1, 1) := by decide +kernel
theorem dX12_findWhole_19 : decode cX12_findWhole 19 = .ok (.iaload, 1) := by decide +kernel
theorem dX12_findWhole_20 : decode cX12_findWhole 20 = .ok (.ifCond .le 21, 3) := by decide +kernel
theorem dX12_findWhole_23 : decode cX12_findWhole 23 = .ok (.aload_n 0, 1) := by decide +kernel
theorem dX12_findWhole_24 : decode cX12_findWhole 24 = .ok (.getfield 293, 3) := by decide +kernel
theorem dX12_findWhole_27 : decode cX12_findWhole 27 = .ok (.ifCond .ne 14, 3) := by decide +kernel
theorem dX12_findWhole_30 : decode cX12_findWhole 30 = .ok (.aload_n 0, 1) := by decide +kernel
theorem dX12_findWhole_31 : decode cX12_findWhole 31 = .ok (.sipush 1000, 3) := by decide +kernel
theorem dX12_findWhole_34 : decode cX12_findWhole 34 = .ok (.iload_n 1, 1) := by decide +kernel
theorem dX12_findWhole_35 : decode cX12_findWhole 35 = .ok (.isub, 1) := by decide +kernel
theorem dX12_findWhole_36 : decode cX12_findWhole 36 = .ok (.iconst 1, 1) := by decide +kernel
theorem dX12_findWhole_37 : decode cX12_findWhole 37 = .ok (.iadd, 1) := by decide +kernel
theorem dX12_findWhole_38 : decode cX12_findWhole 38 = .ok (.putfield 293, 3) := by decide +kernel
theorem dX12_findWhole_41 : decode cX12_findWhole 41 = .ok (.iinc 1 1, 3) := by decide +kernel
theorem dX12_findWhole_44 : decode cX12_findWhole 44 = .ok (.goto (-37), 3) := by decide +kernel
theorem dX12_findWhole_47 : decode cX12_findWhole 47 = .ok (.return_, 1) := by decide +kernel
theorem dX12_takeDigits_0 : decode cX12_takeDigits 0 = .ok (.iconst 0, 1) := by decide +kernel
theorem dX12_takeDigits_1 : decode cX12_takeDigits 1 = .ok (.istore_n 3, 1) := by decide +kernel
theorem dX12_takeDigits_2 : decode cX12_takeDigits 2 = .ok (.iload_n 3, 1) := by decide +kernel
theorem dX12_takeDigits_3 : decode cX12_takeDigits 3 = .ok (.sipush 1400, 3) := by decide +kernel
theorem dX12_takeDigits_6 : decode cX12_takeDigits 6 = .ok (.if_icmp .ge 16, 3) := by decide +kernel
theorem dX12_takeDigits_9 : decode cX12_takeDigits 9 = .ok (.aload_n 0, 1) := by decide +kernel
theorem dX12_takeDigits_10 : decode cX12_takeDigits 10 = .ok (.getfield 75, 3) := by decide +kernel
theorem dX12_takeDigits_13 : decode cX12_takeDigits 13 = .ok (.iload_n 3, 1) := by decide +kernel
theorem dX12_takeDigits_14 : decode cX12_takeDigits 14 = .ok (.iconst 0, 1) := by decide +kernel
theorem dX12_takeDigits_15 : decode cX12_takeDigits 15 = .ok (.iastore, 1) := by decide +kernel
theorem dX12_takeDigits_16 : decode cX12_takeDigits 16 = .ok (.iinc 3 1, 3) := by decide +kernel
theorem dX12_takeDigits_19 : decode cX12_takeDigits 19 = .ok (.goto (-17), 3) := by decide +kernel
theorem dX12_takeDigits_22 : decode cX12_takeDigits 22 = .ok (.lload_n 1, 1) := by decide +kernel
theorem dX12_takeDigits_23 : decode cX12_takeDigits 23 = .ok (.lstore_n 3, 1) := by decide +kernel
theorem dX12_takeDigits_24 : decode cX12_takeDigits 24 = .ok (.sipush 1000, 3) := by decide +kernel
theorem dX12_takeDigits_27 : decode cX12_takeDigits 27 = .ok (.istore 5, 2) := by decide +kernel
theorem dX12_takeDigits_29 : decode cX12_takeDigits 29 = .ok (.lload_n 3, 1) := by decide +kernel
theorem dX12_takeDigits_30 : decode cX12_takeDigits 30 = .ok (.lconst 0, 1) := by decide +kernel
theorem dX12_takeDigits_31 : decode cX12_takeDigits 31 = .ok (.lcmp, 1) := by decide +kernel
theorem dX12_takeDigits_32 : decode cX12_takeDigits 32 = .ok (.ifCond .le 28, 3) := by decide +kernel
theorem dX12_takeDigits_35 : decode cX12_takeDigits 35 = .ok (.aload_n 0, 1) := by decide +kernel
theorem dX12_takeDigits_36 : decode cX12_takeDigits 36 = .ok (.getfield 75, 3) := by decide +kernel
theorem dX12_takeDigits_39 : decode cX12_takeDigits 39 = .ok (.iload 5, 2) := by decide +kernel
theorem dX12_takeDigits_41 : decode cX12_takeDigits 41 = .ok (.lload_n 3, 1) := by decide +kernel
theorem dX12_takeDigits_42 : decode cX12_takeDigits 42 = .ok (.ldc2_w 114, 3) := by decide +kernel
theorem dX12_takeDigits_45 : decode cX12_takeDigits 45 = .ok (.lrem, 1) := by decide +kernel
theorem dX12_takeDigits_46 : decode cX12_takeDigits 46 = .ok (.l2i, 1) := by decide +kernel
theorem dX12_takeDigits_47 : decode cX12_takeDigits 47 = .ok (.iastore, 1) := by decide +kernel
theorem dX12_takeDigits_48 : decode cX12_takeDigits 48 = .ok (.lload_n 3, 1) := by decide +kernel
theorem dX12_takeDigits_49 : decode cX12_takeDigits 49 = .ok (.ldc2_w 114, 3) := by decide +kernel
theorem dX12_takeDigits_52 : decode cX12_takeDigits 52 = .ok (.ldiv, 1) := by decide +kernel
theorem dX12_takeDigits_53 : decode cX12_takeDigits 53 = .ok (.lstore_n 3, 1) := by decide +kernel
theorem dX12_takeDigits_54 : decode cX12_takeDigits 54 = .ok (.iinc 5 (-1), 3) := by decide +kernel
theorem dX12_takeDigits_57 : decode cX12_takeDigits 57 = .ok (.goto (-28), 3) := by decide +kernel
theorem dX12_takeDigits_60 : decode cX12_takeDigits 60 = .ok (.aload_n 0, 1) := by decide +kernel
theorem dX12_takeDigits_61 : decode cX12_takeDigits 61 = .ok (.invokevirtual 290, 3) := by decide +kernel
theorem dX12_takeDigits_64 : decode cX12_takeDigits 64 = .ok (.return_, 1) := by decide +kernel
theorem dX12_isNothing_0 : decode cX12_isNothing 0 = .ok (.iconst 1, 1) := by decide +kernel
theorem dX12_isNothing_1 : decode cX12_isNothing 1 = .ok (.istore_n 1, 1) := by decide +kernel
theorem dX12_isNothing_2 : decode cX12_isNothing 2 = .ok (.iconst 0, 1) := by decide +kernel
theorem dX12_isNothing_3 : decode cX12_isNothing 3 = .ok (.istore_n 2, 1) := by decide +kernel
theorem dX12_isNothing_4 : decode cX12_isNothing 4 = .ok (.iload_n 2, 1) := by decide +kernel
theorem dX12_isNothing_5 : decode cX12_isNothing 5 = .ok (.sipush 1400, 3) := by decide +kernel
theorem dX12_isNothing_8 : decode cX12_isNothing 8 = .ok (.if_icmp .ge 28, 3) := by decide +kernel
theorem dX12_isNothing_11 : decode cX12_isNothing 11 = .ok (.iload_n 1, 1) := by decide +kernel
theorem dX12_isNothing_12 : decode cX12_isNothing 12 = .ok (.ifCond .eq 16, 3) := by decide +kernel
theorem dX12_isNothing_15 : decode cX12_isNothing 15 = .ok (.aload_n 0, 1) := by decide +kernel
theorem dX12_isNothing_16 : decode cX12_isNothing 16 = .ok (.getfield 75, 3) := by decide +kernel
theorem dX12_isNothing_19 : decode cX12_isNothing 19 = .ok (.iload_n 2, 1) := by decide +kernel
theorem dX12_isNothing_20 : decode cX12_isNothing 20 = .ok (.iaload, 1) := by decide +kernel
theorem dX12_isNothing_21 : decode cX12_isNothing 21 = .ok (.ifCond .ne 7, 3) := by decide +kernel
theorem dX12_isNothing_24 : decode cX12_isNothing 24 = .ok (.iconst 1, 1) := by decide +kernel
theorem dX12_isNothing_25 : decode cX12_isNothing 25 = .ok (.goto 4, 3) := by decide +kernel
theorem dX12_isNothing_28 : decode cX12_isNothing 28 = .ok (.iconst 0, 1) := by decide +kernel
theorem dX12_isNothing_29 : decode cX12_isNothing 29 = .ok (.istore_n 1, 1) := by decide +kernel
theorem dX12_isNothing_30 : decode cX12_isNothing 30 = .ok (.iinc 2 1, 3) := by decide +kernel
theorem dX12_isNothing_33 : decode cX12_isNothing 33 = .ok (.goto (-29), 3) := by decide +kernel
theorem dX12_isNothing_36 : decode cX12_isNothing 36 = .ok (.iload_n 1, 1) := by decide +kernel
theorem dX12_isNothing_37 : decode cX12_isNothing 37 = .ok (.ireturn, 1) := by decide +kernel
theorem dX12_writeDigit_0 : decode cX12_writeDigit 0 = .ok (.aload_n 0, 1) := by decide +kernel
theorem dX12_writeDigit_1 : decode cX12_writeDigit 1 = .ok (.bipush 48, 2) := by decide +kernel
theorem dX12_writeDigit_3 : decode cX12_writeDigit 3 = .ok (.aload_n 0, 1) := by decide +kernel
theorem dX12_writeDigit_4 : decode cX12_writeDigit 4 = .ok (.getfield 75, 3) := by decide +kernel
theorem dX12_writeDigit_7 : decode cX12_writeDigit 7 = .ok (.sipush 1000, 3) := by decide +kernel
theorem dX12_writeDigit_10 : decode cX12_writeDigit 10 = .ok (.iload_n 1, 1) := by decide +kernel
theorem dX12_writeDigit_11 : decode cX12_writeDigit 11 = .ok (.isub, 1) := by decide +kernel
theorem dX12_writeDigit_12 : decode cX12_writeDigit 12 = .ok (.iaload, 1) := by decide +kernel
theorem dX12_writeDigit_13 : decode cX12_writeDigit 13 = .ok (.iadd, 1) := by decide +kernel
theorem dX12_writeDigit_14 : decode cX12_writeDigit 14 = .ok (.invokevirtual 278, 3) := by decide +kernel
theorem dX12_writeDigit_17 : decode cX12_writeDigit 17 = .ok (.iload_n 2, 1) := by decide +kernel
theorem dX12_writeDigit_18 : decode cX12_writeDigit 18 = .ok (.ifCond .eq 19, 3) := by decide +kernel
theorem dX12_writeDigit_21 : decode cX12_writeDigit 21 = .ok (.iload_n 1, 1) := by decide +kernel
theorem dX12_writeDigit_22 : decode cX12_writeDigit 22 = .ok (.ifCond .le 15, 3) := by decide +kernel
theorem dX12_writeDigit_25 : decode cX12_writeDigit 25 = .ok (.iload_n 1, 1) := by decide +kernel
theorem dX12_writeDigit_26 : decode cX12_writeDigit 26 = .ok (.iconst 3, 1) := by decide +kernel
theorem dX12_writeDigit_27 : decode cX12_writeDigit 27 = .ok (.irem, 1) := by decide +kernel
theorem dX12_writeDigit_28 : decode cX12_writeDigit 28 = .ok (.ifCond .ne 9, 3) := by decide +kernel
theorem dX12_writeDigit_31 : decode cX12_writeDigit 31 = .ok (.aload_n 0, 1) := by decide +kernel
theorem dX12_writeDigit_32 : decode cX12_writeDigit 32 = .ok (.bipush 44, 2) := by decide +kernel
theorem dX12_writeDigit_34 : decode cX12_writeDigit 34 = .ok (.invokevirtual 278, 3) := by decide +kernel
theorem dX12_writeDigit_37 : decode cX12_writeDigit 37 = .ok (.return_, 1) := by decide +kernel
theorem dX12_writeWhole_0 : decode cX12_writeWhole 0 = .ok (.iload_n 2, 1) := by decide +kernel
theorem dX12_writeWhole_1 : decode cX12_writeWhole 1 = .ok (.aload_n 0, 1) := by decide +kernel
theorem dX12_writeWhole_2 : decode cX12_writeWhole 2 = .ok (.getfield 293, 3) := by decide +kernel
theorem dX12_writeWhole_5 : decode cX12_writeWhole 5 = .ok (.if_icmp .ge 40, 3) := by decide +kernel
theorem dX12_writeWhole_8 : decode cX12_writeWhole 8 = .ok (.iload_n 3, 1) := by decide +kernel
theorem dX12_writeWhole_9 : decode cX12_writeWhole 9 = .ok (.ifCond .eq 12, 3) := by decide +kernel
theorem dX12_writeWhole_12 : decode cX12_writeWhole 12 = .ok (.aload_n 0, 1) := by decide +kernel
theorem dX12_writeWhole_13 : decode cX12_writeWhole 13 = .ok (.getfield 293, 3) := by decide +kernel
theorem dX12_writeWhole_16 : decode cX12_writeWhole 16 = .ok (.iconst 1, 1) := by decide +kernel
theorem dX12_writeWhole_17 : decode cX12_writeWhole 17 = .ok (.isub, 1) := by decide +kernel
theorem dX12_writeWhole_18 : decode cX12_writeWhole 18 = .ok (.goto 4, 3) := by decide +kernel
theorem dX12_writeWhole_21 : decode cX12_writeWhole 21 = .ok (.iload_n 2, 1) := by decide +kernel
theorem dX12_writeWhole_22 : decode cX12_writeWhole 22 = .ok (.istore 6, 2) := by decide +kernel
theorem dX12_writeWhole_24 : decode cX12_writeWhole 24 = .ok (.iload 6, 2) := by decide +kernel
theorem dX12_writeWhole_26 : decode cX12_writeWhole 26 = .ok (.iload_n 2, 1) := by decide +kernel
theorem dX12_writeWhole_27 : decode cX12_writeWhole 27 = .ok (.if_icmp .lt 17, 3) := by decide +kernel
theorem dX12_writeWhole_30 : decode cX12_writeWhole 30 = .ok (.aload_n 0, 1) := by decide +kernel
theorem dX12_writeWhole_31 : decode cX12_writeWhole 31 = .ok (.iload 6, 2) := by decide +kernel
theorem dX12_writeWhole_33 : decode cX12_writeWhole 33 = .ok (.iload 5, 2) := by decide +kernel
theorem dX12_writeWhole_35 : decode cX12_writeWhole 35 = .ok (.invokevirtual 296, 3) := by decide +kernel
theorem dX12_writeWhole_38 : decode cX12_writeWhole 38 = .ok (.iinc 6 (-1), 3) := by decide +kernel
theorem dX12_writeWhole_41 : decode cX12_writeWhole 41 = .ok (.goto (-17), 3) := by decide +kernel
theorem dX12_writeWhole_44 : decode cX12_writeWhole 44 = .ok (.return_, 1) := by decide +kernel
theorem dX12_writeWhole_45 : decode cX12_writeWhole 45 = .ok (.aload_n 0, 1) := by decide +kernel
theorem dX12_writeWhole_46 : decode cX12_writeWhole 46 = .ok (.getfield 29, 3) := by decide +kernel
theorem dX12_writeWhole_49 : decode cX12_writeWhole 49 = .ok (.iload_n 1, 1) := by decide +kernel
theorem dX12_writeWhole_50 : decode cX12_writeWhole 50 = .ok (.iaload, 1) := by decide +kernel
theorem dX12_writeWhole_51 : decode cX12_writeWhole 51 = .ok (.bipush 48, 2) := by decide +kernel
theorem dX12_writeWhole_53 : decode cX12_writeWhole 53 = .ok (.if_icmp .eq 8, 3) := by decide +kernel
theorem dX12_writeWhole_56 : decode cX12_writeWhole 56 = .ok (.iload 4, 2) := by decide +kernel
theorem dX12_writeWhole_58 : decode cX12_writeWhole 58 = .ok (.ifCond .eq 13, 3) := by decide +kernel
theorem dX12_writeWhole_61 : decode cX12_writeWhole 61 = .ok (.aload_n 0, 1) := by decide +kernel
theorem dX12_writeWhole_62 : decode cX12_writeWhole 62 = .ok (.iload_n 2, 1) := by decide +kernel
theorem dX12_writeWhole_63 : decode cX12_writeWhole 63 = .ok (.iload 5, 2) := by decide +kernel
theorem dX12_writeWhole_65 : decode cX12_writeWhole 65 = .ok (.invokevirtual 296, 3) := by decide +kernel
theorem dX12_writeWhole_68 : decode cX12_writeWhole 68 = .ok (.goto 41, 3) := by decide +kernel
theorem dX12_writeWhole_71 : decode cX12_writeWhole 71 = .ok (.aload_n 0, 1) := by decide +kernel
theorem dX12_writeWhole_72 : decode cX12_writeWhole 72 = .ok (.getfield 29, 3) := by decide +kernel
theorem dX12_writeWhole_75 : decode cX12_writeWhole 75 = .ok (.iload_n 1, 1) := by decide +kernel
theorem dX12_writeWhole_76 : decode cX12_writeWhole 76 = .ok (.iaload, 1) := by decide +kernel
theorem dX12_writeWhole_77 : decode cX12_writeWhole 77 = .ok (.bipush 63, 2) := by decide +kernel
theorem dX12_writeWhole_79 : decode cX12_writeWhole 79 = .ok (.if_icmp .ne 30, 3) := by decide +kernel
theorem dX12_writeWhole_82 : decode cX12_writeWhole 82 = .ok (.aload_n 0, 1) := by decide +kernel
theorem dX12_writeWhole_83 : decode cX12_writeWhole 83 = .ok (.bipush 32, 2) := by decide +kernel
theorem dX12_writeWhole_85 : decode cX12_writeWhole 85 = .ok (.invokevirtual 278, 3) := by decide +kernel
theorem dX12_writeWhole_88 : decode cX12_writeWhole 88 = .ok (.iload 5, 2) := by decide +kernel
theorem dX12_writeWhole_90 : decode cX12_writeWhole 90 = .ok (.ifCond .eq 19, 3) := by decide +kernel
theorem dX12_writeWhole_93 : decode cX12_writeWhole 93 = .ok (.iload_n 2, 1) := by decide +kernel
theorem dX12_writeWhole_94 : decode cX12_writeWhole 94 = .ok (.ifCond .le 15, 3) := by decide +kernel
theorem dX12_writeWhole_97 : decode cX12_writeWhole 97 = .ok (.iload_n 2, 1) := by decide +kernel
theorem dX12_writeWhole_98 : decode cX12_writeWhole 98 = .ok (.iconst 3, 1) := by decide +kernel
theorem dX12_writeWhole_99 : decode cX12_writeWhole 99 = .ok (.irem, 1) := by decide +kernel
theorem dX12_writeWhole_100 : decode cX12_writeWhole 100 = .ok (.ifCond .ne 9, 3) := by decide +kernel
theorem dX12_writeWhole_103 : decode cX12_writeWhole 103 = .ok (.aload_n 0, 1) := by decide +kernel
theorem dX12_writeWhole_104 : decode cX12_writeWhole 104 = .ok (.bipush 32, 2) := by decide +kernel
theorem dX12_writeWhole_106 : decode cX12_writeWhole 106 = .ok (.invokevirtual 278, 3) := by decide +kernel
theorem dX12_writeWhole_109 : decode cX12_writeWhole 109 = .ok (.return_, 1) := by decide +kernel
theorem dX12_countDigits_0 : decode cX12_countDigits 0 = .ok (.iconst 0, 1) := by decide +kernel
theorem dX12_countDigits_1 : decode cX12_countDigits 1 = .ok (.istore_n 3, 1) := by decide +kernel
theorem dX12_countDigits_2 : decode cX12_countDigits 2 = .ok (.iload_n 1, 1) := by decide +kernel
theorem dX12_countDigits_3 : decode cX12_countDigits 3 = .ok (.istore 4, 2) := by decide +kernel
theorem dX12_countDigits_5 : decode cX12_countDigits 5 = .ok (.iload 4, 2) := by decide +kernel
theorem dX12_countDigits_7 : decode cX12_countDigits 7 = .ok (.iload_n 2, 1) := by decide +kernel
theorem dX12_countDigits_8 : decode cX12_countDigits 8 = .ok (.if_icmp .ge 28, 3) := by decide +kernel
theorem dX12_countDigits_11 : decode cX12_countDigits 11 = .ok (.iload_n 3, 1) := by decide +kernel
theorem dX12_countDigits_12 : decode cX12_countDigits 12 = .ok (.aload_n 0, 1) := by decide +kernel
theorem dX12_countDigits_13 : decode cX12_countDigits 13 = .ok (.getfield 26, 3) := by decide +kernel
theorem dX12_countDigits_16 : decode cX12_countDigits 16 = .ok (.iload 4, 2) := by decide +kernel
theorem dX12_countDigits_18 : decode cX12_countDigits 18 = .ok (.iaload, 1) := by decide +kernel
theorem dX12_countDigits_19 : decode cX12_countDigits 19 = .ok (.iconst 1, 1) := by decide +kernel
theorem dX12_countDigits_20 : decode cX12_countDigits 20 = .ok (.if_icmp .ne 7, 3) := by decide +kernel
theorem dX12_countDigits_23 : decode cX12_countDigits 23 = .ok (.iconst 1, 1) := by decide +kernel
theorem dX12_countDigits_24 : decode cX12_countDigits 24 = .ok (.goto 4, 3) := by decide +kernel
theorem dX12_countDigits_27 : decode cX12_countDigits 27 = .ok (.iconst 0, 1) := by decide +kernel
theorem dX12_countDigits_28 : decode cX12_countDigits 28 = .ok (.iadd, 1) := by decide +kernel
theorem dX12_countDigits_29 : decode cX12_countDigits 29 = .ok (.istore_n 3, 1) := by decide +kernel
theorem dX12_countDigits_30 : decode cX12_countDigits 30 = .ok (.iinc 4 1, 3) := by decide +kernel
theorem dX12_countDigits_33 : decode cX12_countDigits 33 = .ok (.goto (-28), 3) := by decide +kernel
theorem dX12_countDigits_36 : decode cX12_countDigits 36 = .ok (.iload_n 3, 1) := by decide +kernel
theorem dX12_countDigits_37 : decode cX12_countDigits 37 = .ok (.ireturn, 1) := by decide +kernel
theorem dX12_writeWholes_0 : decode cX12_writeWholes 0 = .ok (.aload_n 0, 1) := by decide +kernel
theorem dX12_writeWholes_1 : decode cX12_writeWholes 1 = .ok (.iload_n 1, 1) := by decide +kernel
theorem dX12_writeWholes_2 : decode cX12_writeWholes 2 = .ok (.iload_n 2, 1) := by decide +kernel
theorem dX12_writeWholes_3 : decode cX12_writeWholes 3 = .ok (.invokevirtual 300, 3) := by decide +kernel
theorem dX12_writeWholes_6 : decode cX12_writeWholes 6 = .ok (.istore 4, 2) := by decide +kernel
theorem dX12_writeWholes_8 : decode cX12_writeWholes 8 = .ok (.iconst 1, 1) := by decide +kernel
theorem dX12_writeWholes_9 : decode cX12_writeWholes 9 = .ok (.istore 5, 2) := by decide +kernel
theorem dX12_writeWholes_11 : decode cX12_writeWholes 11 = .ok (.iconst 0, 1) := by decide +kernel
theorem dX12_writeWholes_12 : decode cX12_writeWholes 12 = .ok (.istore 6, 2) := by decide +kernel
theorem dX12_writeWholes_14 : decode cX12_writeWholes 14 = .ok (.iload_n 1, 1) := by decide +kernel
theorem dX12_writeWholes_15 : decode cX12_writeWholes 15 = .ok (.istore 7, 2) := by decide +kernel
theorem dX12_writeWholes_17 : decode cX12_writeWholes 17 = .ok (.iload 7, 2) := by decide +kernel
theorem dX12_writeWholes_19 : decode cX12_writeWholes 19 = .ok (.iload_n 2, 1) := by decide +kernel
theorem dX12_writeWholes_20 : decode cX12_writeWholes 20 = .ok (.if_icmp .ge 72, 3) := by decide +kernel
theorem dX12_writeWholes_23 : decode cX12_writeWholes 23 = .ok (.aload_n 0, 1) := by decide +kernel
theorem dX12_writeWholes_24 : decode cX12_writeWholes 24 = .ok (.getfield 26, 3) := by decide +kernel
theorem dX12_writeWholes_27 : decode cX12_writeWholes 27 = .ok (.iload 7, 2) := by decide +kernel
theorem dX12_writeWholes_29 : decode cX12_writeWholes 29 = .ok (.iaload, 1) := by decide +kernel
theorem dX12_writeWholes_30 : decode cX12_writeWholes 30 = .ok (.iconst 1, 1) := by decide +kernel
theorem dX12_writeWholes_31 : decode cX12_writeWholes 31 = .ok (.if_icmp .eq 12, 3) := by decide +kernel
theorem dX12_writeWholes_34 : decode cX12_writeWholes 34 = .ok (.aload_n 0, 1) := by decide +kernel
theorem dX12_writeWholes_35 : decode cX12_writeWholes 35 = .ok (.iload 7, 2) := by decide +kernel
theorem dX12_writeWholes_37 : decode cX12_writeWholes 37 = .ok (.invokevirtual 304, 3) := by decide +kernel
theorem dX12_writeWholes_40 : decode cX12_writeWholes 40 = .ok (.goto 46, 3) := by decide +kernel
theorem dX12_writeWholes_43 : decode cX12_writeWholes 43 = .ok (.iinc 4 (-1), 3) := by decide +kernel
theorem dX12_writeWholes_46 : decode cX12_writeWholes 46 = .ok (.aload_n 0, 1) := by decide +kernel
theorem dX12_writeWholes_47 : decode cX12_writeWholes 47 = .ok (.iload 7, 2) := by decide +kernel
theorem dX12_writeWholes_49 : decode cX12_writeWholes 49 = .ok (.iload 4, 2) := by decide +kernel
theorem dX12_writeWholes_51 : decode cX12_writeWholes 51 = .ok (.iload 5, 2) := by decide +kernel
theorem dX12_writeWholes_53 : decode cX12_writeWholes 53 = .ok (.iload 6, 2) := by decide +kernel
theorem dX12_writeWholes_55 : decode cX12_writeWholes 55 = .ok (.iload_n 3, 1) := by decide +kernel
theorem dX12_writeWholes_56 : decode cX12_writeWholes 56 = .ok (.invokevirtual 307, 3) := by decide +kernel
theorem dX12_writeWholes_59 : decode cX12_writeWholes 59 = .ok (.iconst 0, 1) := by decide +kernel
theorem dX12_writeWholes_60 : decode cX12_writeWholes 60 = .ok (.istore 5, 2) := by decide +kernel
theorem dX12_writeWholes_62 : decode cX12_writeWholes 62 = .ok (.iload 6, 2) := by decide +kernel
theorem dX12_writeWholes_64 : decode cX12_writeWholes 64 = .ok (.ifCond .ne 15, 3) := by decide +kernel
theorem dX12_writeWholes_67 : decode cX12_writeWholes 67 = .ok (.aload_n 0, 1) := by decide +kernel
theorem dX12_writeWholes_68 : decode cX12_writeWholes 68 = .ok (.getfield 29, 3) := by decide +kernel
theorem dX12_writeWholes_71 : decode cX12_writeWholes 71 = .ok (.iload 7, 2) := by decide +kernel
theorem dX12_writeWholes_73 : decode cX12_writeWholes 73 = .ok (.iaload, 1) := by decide +kernel
theorem dX12_writeWholes_74 : decode cX12_writeWholes 74 = .ok (.bipush 48, 2) := by decide +kernel
theorem dX12_writeWholes_76 : decode cX12_writeWholes 76 = .ok (.if_icmp .ne 7, 3) := by decide +kernel
theorem dX12_writeWholes_79 : decode cX12_writeWholes 79 = .ok (.iconst 1, 1) := by decide +kernel
theorem dX12_writeWholes_80 : decode cX12_writeWholes 80 = .ok (.goto 4, 3) := by decide +kernel
theorem dX12_writeWholes_83 : decode cX12_writeWholes 83 = .ok (.iconst 0, 1) := by decide +kernel
theorem dX12_writeWholes_84 : decode cX12_writeWholes 84 = .ok (.istore 6, 2) := by decide +kernel
theorem dX12_writeWholes_86 : decode cX12_writeWholes 86 = .ok (.iinc 7 1, 3) := by decide +kernel
theorem dX12_writeWholes_89 : decode cX12_writeWholes 89 = .ok (.goto (-72), 3) := by decide +kernel
theorem dX12_writeWholes_92 : decode cX12_writeWholes 92 = .ok (.return_, 1) := by decide +kernel
theorem dX12_writeOther_0 : decode cX12_writeOther 0 = .ok (.aload_n 0, 1) := by decide +kernel
theorem dX12_writeOther_1 : decode cX12_writeOther 1 = .ok (.getfield 26, 3) := by decide +kernel
theorem dX12_writeOther_4 : decode cX12_writeOther 4 = .ok (.iload_n 1, 1) := by decide +kernel
theorem dX12_writeOther_5 : decode cX12_writeOther 5 = .ok (.iaload, 1) := by decide +kernel
theorem dX12_writeOther_6 : decode cX12_writeOther 6 = .ok (.ifCond .eq 23, 3) := by decide +kernel
theorem dX12_writeOther_9 : decode cX12_writeOther 9 = .ok (.aload_n 0, 1) := by decide +kernel
theorem dX12_writeOther_10 : decode cX12_writeOther 10 = .ok (.getfield 26, 3) := by decide +kernel
theorem dX12_writeOther_13 : decode cX12_writeOther 13 = .ok (.iload_n 1, 1) := by decide +kernel
theorem dX12_writeOther_14 : decode cX12_writeOther 14 = .ok (.iaload, 1) := by decide +kernel
theorem dX12_writeOther_15 : decode cX12_writeOther 15 = .ok (.iconst 4, 1) := by decide +kernel
theorem dX12_writeOther_16 : decode cX12_writeOther 16 = .ok (.if_icmp .eq 13, 3) := by decide +kernel
theorem dX12_writeOther_19 : decode cX12_writeOther 19 = .ok (.aload_n 0, 1) := by decide +kernel
theorem dX12_writeOther_20 : decode cX12_writeOther 20 = .ok (.getfield 26, 3) := by decide +kernel
theorem dX12_writeOther_23 : decode cX12_writeOther 23 = .ok (.iload_n 1, 1) := by decide +kernel
theorem dX12_writeOther_24 : decode cX12_writeOther 24 = .ok (.iaload, 1) := by decide +kernel
theorem dX12_writeOther_25 : decode cX12_writeOther 25 = .ok (.iconst 2, 1) := by decide +kernel
theorem dX12_writeOther_26 : decode cX12_writeOther 26 = .ok (.if_icmp .ne 13, 3) := by decide +kernel
theorem dX12_writeOther_29 : decode cX12_writeOther 29 = .ok (.aload_n 0, 1) := by decide +kernel
theorem dX12_writeOther_30 : decode cX12_writeOther 30 = .ok (.aload_n 0, 1) := by decide +kernel
theorem dX12_writeOther_31 : decode cX12_writeOther 31 = .ok (.getfield 29, 3) := by decide +kernel
theorem dX12_writeOther_34 : decode cX12_writeOther 34 = .ok (.iload_n 1, 1) := by decide +kernel
theorem dX12_writeOther_35 : decode cX12_writeOther 35 = .ok (.iaload, 1) := by decide +kernel
theorem dX12_writeOther_36 : decode cX12_writeOther 36 = .ok (.invokevirtual 278, 3) := by decide +kernel
theorem dX12_writeOther_39 : decode cX12_writeOther 39 = .ok (.aload_n 0, 1) := by decide +kernel
theorem dX12_writeOther_40 : decode cX12_writeOther 40 = .ok (.getfield 26, 3) := by decide +kernel
theorem dX12_writeOther_43 : decode cX12_writeOther 43 = .ok (.iload_n 1, 1) := by decide +kernel
theorem dX12_writeOther_44 : decode cX12_writeOther 44 = .ok (.iaload, 1) := by decide +kernel
theorem dX12_writeOther_45 : decode cX12_writeOther 45 = .ok (.bipush 14, 2) := by decide +kernel
theorem dX12_writeOther_47 : decode cX12_writeOther 47 = .ok (.if_icmp .ne 13, 3) := by decide +kernel
theorem dX12_writeOther_50 : decode cX12_writeOther 50 = .ok (.aload_n 0, 1) := by decide +kernel
theorem dX12_writeOther_51 : decode cX12_writeOther 51 = .ok (.aload_n 0, 1) := by decide +kernel
theorem dX12_writeOther_52 : decode cX12_writeOther 52 = .ok (.getfield 29, 3) := by decide +kernel
theorem dX12_writeOther_55 : decode cX12_writeOther 55 = .ok (.iload_n 1, 1) := by decide +kernel
theorem dX12_writeOther_56 : decode cX12_writeOther 56 = .ok (.iaload, 1) := by decide +kernel
theorem dX12_writeOther_57 : decode cX12_writeOther 57 = .ok (.invokevirtual 311, 3) := by decide +kernel
theorem dX12_writeOther_60 : decode cX12_writeOther 60 = .ok (.return_, 1) := by decide +kernel
theorem dX12_writeDecimals_0 : decode cX12_writeDecimals 0 = .ok (.iconst 0, 1) := by decide +kernel
theorem dX12_writeDecimals_1 : decode cX12_writeDecimals 1 = .ok (.istore_n 3, 1) := by decide +kernel
theorem dX12_writeDecimals_2 : decode cX12_writeDecimals 2 = .ok (.iconst 0, 1) := by decide +kernel
theorem dX12_writeDecimals_3 : decode cX12_writeDecimals 3 = .ok (.istore 4, 2) := by decide +kernel
theorem dX12_writeDecimals_5 : decode cX12_writeDecimals 5 = .ok (.iload_n 1, 1) := by decide +kernel
theorem dX12_writeDecimals_6 : decode cX12_writeDecimals 6 = .ok (.istore 5, 2) := by decide +kernel
theorem dX12_writeDecimals_8 : decode cX12_writeDecimals 8 = .ok (.iload 5, 2) := by decide +kernel
theorem dX12_writeDecimals_10 : decode cX12_writeDecimals 10 = .ok (.iload_n 2, 1) := by decide +kernel
theorem dX12_writeDecimals_11 : decode cX12_writeDecimals 11 = .ok (.if_icmp .ge 55, 3) := by decide +kernel
theorem dX12_writeDecimals_14 : decode cX12_writeDecimals 14 = .ok (.aload_n 0, 1) := by decide +kernel
theorem dX12_writeDecimals_15 : decode cX12_writeDecimals 15 = .ok (.getfield 26, 3) := by decide +kernel
theorem dX12_writeDecimals_18 : decode cX12_writeDecimals 18 = .ok (.iload 5, 2) := by decide +kernel
theorem dX12_writeDecimals_20 : decode cX12_writeDecimals 20 = .ok (.iaload, 1) := by decide +kernel
theorem dX12_writeDecimals_21 : decode cX12_writeDecimals 21 = .ok (.iconst 1, 1) := by decide +kernel
theorem dX12_writeDecimals_22 : decode cX12_writeDecimals 22 = .ok (.if_icmp .eq 6, 3) := by decide +kernel
theorem dX12_writeDecimals_25 : decode cX12_writeDecimals 25 = .ok (.goto 35, 3) := by decide +kernel
theorem dX12_writeDecimals_28 : decode cX12_writeDecimals 28 = .ok (.iinc 4 1, 3) := by decide +kernel
theorem dX12_writeDecimals_31 : decode cX12_writeDecimals 31 = .ok (.aload_n 0, 1) := by decide +kernel
theorem dX12_writeDecimals_32 : decode cX12_writeDecimals 32 = .ok (.getfield 29, 3) := by decide +kernel
theorem dX12_writeDecimals_35 : decode cX12_writeDecimals 35 = .ok (.iload 5, 2) := by decide +kernel
theorem dX12_writeDecimals_37 : decode cX12_writeDecimals 37 = .ok (.iaload, 1) := by decide +kernel
theorem dX12_writeDecimals_38 : decode cX12_writeDecimals 38 = .ok (.bipush 48, 2) := by decide +kernel
theorem dX12_writeDecimals_40 : decode cX12_writeDecimals 40 = .ok (.if_icmp .eq 17, 3) := by decide +kernel
theorem dX12_writeDecimals_43 : decode cX12_writeDecimals 43 = .ok (.aload_n 0, 1) := by decide +kernel
theorem dX12_writeDecimals_44 : decode cX12_writeDecimals 44 = .ok (.getfield 75, 3) := by decide +kernel
theorem dX12_writeDecimals_47 : decode cX12_writeDecimals 47 = .ok (.sipush 1000, 3) := by decide +kernel
theorem dX12_writeDecimals_50 : decode cX12_writeDecimals 50 = .ok (.iload 4, 2) := by decide +kernel
theorem dX12_writeDecimals_52 : decode cX12_writeDecimals 52 = .ok (.iadd, 1) := by decide +kernel
theorem dX12_writeDecimals_53 : decode cX12_writeDecimals 53 = .ok (.iaload, 1) := by decide +kernel
theorem dX12_writeDecimals_54 : decode cX12_writeDecimals 54 = .ok (.ifCond .le 6, 3) := by decide +kernel
theorem dX12_writeDecimals_57 : decode cX12_writeDecimals 57 = .ok (.iload 4, 2) := by decide +kernel
theorem dX12_writeDecimals_59 : decode cX12_writeDecimals 59 = .ok (.istore_n 3, 1) := by decide +kernel
theorem dX12_writeDecimals_60 : decode cX12_writeDecimals 60 = .ok (.iinc 5 1, 3) := by decide +kernel
theorem dX12_writeDecimals_63 : decode cX12_writeDecimals 63 = .ok (.goto (-55), 3) := by decide +kernel
theorem dX12_writeDecimals_66 : decode cX12_writeDecimals 66 = .ok (.iconst 0, 1) := by decide +kernel
theorem dX12_writeDecimals_67 : decode cX12_writeDecimals 67 = .ok (.istore 4, 2) := by decide +kernel
theorem dX12_writeDecimals_69 : decode cX12_writeDecimals 69 = .ok (.iload_n 1, 1) := by decide +kernel
theorem dX12_writeDecimals_70 : decode cX12_writeDecimals 70 = .ok (.istore 5, 2) := by decide +kernel
theorem dX12_writeDecimals_72 : decode cX12_writeDecimals 72 = .ok (.iload 5, 2) := by decide +kernel
theorem dX12_writeDecimals_74 : decode cX12_writeDecimals 74 = .ok (.iload_n 2, 1) := by decide +kernel
theorem dX12_writeDecimals_75 : decode cX12_writeDecimals 75 = .ok (.if_icmp .ge 77, 3) := by decide +kernel
theorem dX12_writeDecimals_78 : decode cX12_writeDecimals 78 = .ok (.aload_n 0, 1) := by decide +kernel
theorem dX12_writeDecimals_79 : decode cX12_writeDecimals 79 = .ok (.getfield 26, 3) := by decide +kernel
theorem dX12_writeDecimals_82 : decode cX12_writeDecimals 82 = .ok (.iload 5, 2) := by decide +kernel
theorem dX12_writeDecimals_84 : decode cX12_writeDecimals 84 = .ok (.iaload, 1) := by decide +kernel
theorem dX12_writeDecimals_85 : decode cX12_writeDecimals 85 = .ok (.iconst 1, 1) := by decide +kernel
theorem dX12_writeDecimals_86 : decode cX12_writeDecimals 86 = .ok (.if_icmp .eq 12, 3) := by decide +kernel
theorem dX12_writeDecimals_89 : decode cX12_writeDecimals 89 = .ok (.aload_n 0, 1) := by decide +kernel
theorem dX12_writeDecimals_90 : decode cX12_writeDecimals 90 = .ok (.iload 5, 2) := by decide +kernel
theorem dX12_writeDecimals_92 : decode cX12_writeDecimals 92 = .ok (.invokevirtual 304, 3) := by decide +kernel
theorem dX12_writeDecimals_95 : decode cX12_writeDecimals 95 = .ok (.goto 51, 3) := by decide +kernel
theorem dX12_writeDecimals_98 : decode cX12_writeDecimals 98 = .ok (.iinc 4 1, 3) := by decide +kernel
theorem dX12_writeDecimals_101 : decode cX12_writeDecimals 101 = .ok (.iload 4, 2) := by decide +kernel
theorem dX12_writeDecimals_103 : decode cX12_writeDecimals 103 = .ok (.iload_n 3, 1) := by decide +kernel
theorem dX12_writeDecimals_104 : decode cX12_writeDecimals 104 = .ok (.if_icmp .gt 24, 3) := by decide +kernel
theorem dX12_writeDecimals_107 : decode cX12_writeDecimals 107 = .ok (.aload_n 0, 1) := by decide +kernel
theorem dX12_writeDecimals_108 : decode cX12_writeDecimals 108 = .ok (.bipush 48, 2) := by decide +kernel
theorem dX12_writeDecimals_110 : decode cX12_writeDecimals 110 = .ok (.aload_n 0, 1) := by decide +kernel
theorem dX12_writeDecimals_111 : decode cX12_writeDecimals 111 = .ok (.getfield 75, 3) := by decide +kernel
theorem dX12_writeDecimals_114 : decode cX12_writeDecimals 114 = .ok (.sipush 1000, 3) := by decide +kernel
theorem dX12_writeDecimals_117 : decode cX12_writeDecimals 117 = .ok (.iload 4, 2) := by decide +kernel
theorem dX12_writeDecimals_119 : decode cX12_writeDecimals 119 = .ok (.iadd, 1) := by decide +kernel
theorem dX12_writeDecimals_120 : decode cX12_writeDecimals 120 = .ok (.iaload, 1) := by decide +kernel
theorem dX12_writeDecimals_121 : decode cX12_writeDecimals 121 = .ok (.iadd, 1) := by decide +kernel
theorem dX12_writeDecimals_122 : decode cX12_writeDecimals 122 = .ok (.invokevirtual 278, 3) := by decide +kernel
theorem dX12_writeDecimals_125 : decode cX12_writeDecimals 125 = .ok (.goto 21, 3) := by decide +kernel
theorem dX12_writeDecimals_128 : decode cX12_writeDecimals 128 = .ok (.aload_n 0, 1) := by decide +kernel
theorem dX12_writeDecimals_129 : decode cX12_writeDecimals 129 = .ok (.getfield 29, 3) := by decide +kernel
theorem dX12_writeDecimals_132 : decode cX12_writeDecimals 132 = .ok (.iload 5, 2) := by decide +kernel
theorem dX12_writeDecimals_134 : decode cX12_writeDecimals 134 = .ok (.iaload, 1) := by decide +kernel
theorem dX12_writeDecimals_135 : decode cX12_writeDecimals 135 = .ok (.bipush 63, 2) := by decide +kernel
theorem dX12_writeDecimals_137 : decode cX12_writeDecimals 137 = .ok (.if_icmp .ne 9, 3) := by decide +kernel
theorem dX12_writeDecimals_140 : decode cX12_writeDecimals 140 = .ok (.aload_n 0, 1) := by decide +kernel
theorem dX12_writeDecimals_141 : decode cX12_writeDecimals 141 = .ok (.bipush 32, 2) := by decide +kernel
theorem dX12_writeDecimals_143 : decode cX12_writeDecimals 143 = .ok (.invokevirtual 278, 3) := by decide +kernel
theorem dX12_writeDecimals_146 : decode cX12_writeDecimals 146 = .ok (.iinc 5 1, 3) := by decide +kernel
theorem dX12_writeDecimals_149 : decode cX12_writeDecimals 149 = .ok (.goto (-77), 3) := by decide +kernel
theorem dX12_writeDecimals_152 : decode cX12_writeDecimals 152 = .ok (.return_, 1) := by decide +kernel
theorem dX12_lastDigit_0 : decode cX12_lastDigit 0 = .ok (.iconst (-1), 1) := by decide +kernel
theorem dX12_lastDigit_1 : decode cX12_lastDigit 1 = .ok (.istore_n 3, 1) := by decide +kernel
theorem dX12_lastDigit_2 : decode cX12_lastDigit 2 = .ok (.iload_n 1, 1) := by decide +kernel
theorem dX12_lastDigit_3 : decode cX12_lastDigit 3 = .ok (.istore 4, 2) := by decide +kernel
theorem dX12_lastDigit_5 : decode cX12_lastDigit 5 = .ok (.iload 4, 2) := by decide +kernel
theorem dX12_lastDigit_7 : decode cX12_lastDigit 7 = .ok (.iload_n 2, 1) := by decide +kernel
theorem dX12_lastDigit_8 : decode cX12_lastDigit 8 = .ok (.if_icmp .ge 27, 3) := by decide +kernel
theorem dX12_lastDigit_11 : decode cX12_lastDigit 11 = .ok (.aload_n 0, 1) := by decide +kernel
theorem dX12_lastDigit_12 : decode cX12_lastDigit 12 = .ok (.getfield 26, 3) := by decide +kernel
theorem dX12_lastDigit_15 : decode cX12_lastDigit 15 = .ok (.iload 4, 2) := by decide +kernel
theorem dX12_lastDigit_17 : decode cX12_lastDigit 17 = .ok (.iaload, 1) := by decide +kernel
theorem dX12_lastDigit_18 : decode cX12_lastDigit 18 = .ok (.iconst 1, 1) := by decide +kernel
theorem dX12_lastDigit_19 : decode cX12_lastDigit 19 = .ok (.if_icmp .ne 8, 3) := by decide +kernel
theorem dX12_lastDigit_22 : decode cX12_lastDigit 22 = .ok (.iload 4, 2) := by decide +kernel
theorem dX12_lastDigit_24 : decode cX12_lastDigit 24 = .ok (.goto 4, 3) := by decide +kernel
theorem dX12_lastDigit_27 : decode cX12_lastDigit 27 = .ok (.iload_n 3, 1) := by decide +kernel
theorem dX12_lastDigit_28 : decode cX12_lastDigit 28 = .ok (.istore_n 3, 1) := by decide +kernel
theorem dX12_lastDigit_29 : decode cX12_lastDigit 29 = .ok (.iinc 4 1, 3) := by decide +kernel
theorem dX12_lastDigit_32 : decode cX12_lastDigit 32 = .ok (.goto (-27), 3) := by decide +kernel
theorem dX12_lastDigit_35 : decode cX12_lastDigit 35 = .ok (.iload_n 3, 1) := by decide +kernel
theorem dX12_lastDigit_36 : decode cX12_lastDigit 36 = .ok (.ireturn, 1) := by decide +kernel
theorem dX12_floor_0 : decode cX12_floor 0 = .ok (.iload_n 0, 1) := by decide +kernel
theorem dX12_floor_1 : decode cX12_floor 1 = .ok (.ifCond .lt 11, 3) := by decide +kernel
theorem dX12_floor_4 : decode cX12_floor 4 = .ok (.iload_n 0, 1) := by decide +kernel
theorem dX12_floor_5 : decode cX12_floor 5 = .ok (.iload_n 1, 1) := by decide +kernel
theorem dX12_floor_6 : decode cX12_floor 6 = .ok (.idiv, 1) := by decide +kernel
theorem dX12_floor_7 : decode cX12_floor 7 = .ok (.iload_n 1, 1) := by decide +kernel
theorem dX12_floor_8 : decode cX12_floor 8 = .ok (.imul, 1) := by decide +kernel
theorem dX12_floor_9 : decode cX12_floor 9 = .ok (.goto 13, 3) := by decide +kernel
theorem dX12_floor_12 : decode cX12_floor 12 = .ok (.iload_n 1, 1) := by decide +kernel
theorem dX12_floor_13 : decode cX12_floor 13 = .ok (.iconst 1, 1) := by decide +kernel
theorem dX12_floor_14 : decode cX12_floor 14 = .ok (.isub, 1) := by decide +kernel
theorem dX12_floor_15 : decode cX12_floor 15 = .ok (.iload_n 0, 1) := by decide +kernel
theorem dX12_floor_16 : decode cX12_floor 16 = .ok (.isub, 1) := by decide +kernel
theorem dX12_floor_17 : decode cX12_floor 17 = .ok (.iload_n 1, 1) := by decide +kernel
theorem dX12_floor_18 : decode cX12_floor 18 = .ok (.idiv, 1) := by decide +kernel
theorem dX12_floor_19 : decode cX12_floor 19 = .ok (.ineg, 1) := by decide +kernel
theorem dX12_floor_20 : decode cX12_floor 20 = .ok (.iload_n 1, 1) := by decide +kernel
theorem dX12_floor_21 : decode cX12_floor 21 = .ok (.imul, 1) := by decide +kernel
theorem dX12_floor_22 : decode cX12_floor 22 = .ok (.ireturn, 1) := by decide +kernel
theorem dX12_writeNumberBy_0 : decode cX12_writeNumberBy 0 = .ok (.aload_n 0, 1) := by decide +kernel
theorem dX12_writeNumberBy_1 : decode cX12_writeNumberBy 1 = .ok (.getfield 26, 3) := by decide +kernel
theorem dX12_writeNumberBy_4 : decode cX12_writeNumberBy 4 = .ok (.iload_n 1, 1) := by decide +kernel
theorem dX12_writeNumberBy_5 : decode cX12_writeNumberBy 5 = .ok (.iload_n 2, 1) := by decide +kernel
theorem dX12_writeNumberBy_6 : decode cX12_writeNumberBy 6 = .ok (.bipush 7, 2) := by decide +kernel
theorem dX12_writeNumberBy_8 : decode cX12_writeNumberBy 8 = .ok (.invokestatic 229, 3) := by decide +kernel
theorem dX12_writeNumberBy_11 : decode cX12_writeNumberBy 11 = .ok (.istore 4, 2) := by decide +kernel
theorem dX12_writeNumberBy_13 : decode cX12_writeNumberBy 13 = .ok (.aload_n 0, 1) := by decide +kernel
theorem dX12_writeNumberBy_14 : decode cX12_writeNumberBy 14 = .ok (.getfield 26, 3) := by decide +kernel
theorem dX12_writeNumberBy_17 : decode cX12_writeNumberBy 17 = .ok (.iload_n 1, 1) := by decide +kernel
theorem dX12_writeNumberBy_18 : decode cX12_writeNumberBy 18 = .ok (.iload 4, 2) := by decide +kernel
theorem dX12_writeNumberBy_20 : decode cX12_writeNumberBy 20 = .ok (.iconst 2, 1) := by decide +kernel
theorem dX12_writeNumberBy_21 : decode cX12_writeNumberBy 21 = .ok (.invokestatic 229, 3) := by decide +kernel
theorem dX12_writeNumberBy_24 : decode cX12_writeNumberBy 24 = .ok (.istore 5, 2) := by decide +kernel
theorem dX12_writeNumberBy_26 : decode cX12_writeNumberBy 26 = .ok (.aload_n 0, 1) := by decide +kernel
theorem dX12_writeNumberBy_27 : decode cX12_writeNumberBy 27 = .ok (.iload_n 1, 1) := by decide +kernel
theorem dX12_writeNumberBy_28 : decode cX12_writeNumberBy 28 = .ok (.iload 5, 2) := by decide +kernel
theorem dX12_writeNumberBy_30 : decode cX12_writeNumberBy 30 = .ok (.invokevirtual 300, 3) := by decide +kernel
theorem dX12_writeNumberBy_33 : decode cX12_writeNumberBy 33 = .ok (.istore 6, 2) := by decide +kernel
theorem dX12_writeNumberBy_35 : decode cX12_writeNumberBy 35 = .ok (.aload_n 0, 1) := by decide +kernel
theorem dX12_writeNumberBy_36 : decode cX12_writeNumberBy 36 = .ok (.iload 5, 2) := by decide +kernel
theorem dX12_writeNumberBy_38 : decode cX12_writeNumberBy 38 = .ok (.iload 4, 2) := by decide +kernel
theorem dX12_writeNumberBy_40 : decode cX12_writeNumberBy 40 = .ok (.invokevirtual 300, 3) := by decide +kernel
theorem dX12_writeNumberBy_43 : decode cX12_writeNumberBy 43 = .ok (.istore 7, 2) := by decide +kernel
theorem dX12_writeNumberBy_45 : decode cX12_writeNumberBy 45 = .ok (.aload_n 0, 1) := by decide +kernel
theorem dX12_writeNumberBy_46 : decode cX12_writeNumberBy 46 = .ok (.iload_n 1, 1) := by decide +kernel
theorem dX12_writeNumberBy_47 : decode cX12_writeNumberBy 47 = .ok (.iload 5, 2) := by decide +kernel
theorem dX12_writeNumberBy_49 : decode cX12_writeNumberBy 49 = .ok (.invokevirtual 314, 3) := by decide +kernel
theorem dX12_writeNumberBy_52 : decode cX12_writeNumberBy 52 = .ok (.istore 8, 2) := by decide +kernel
theorem dX12_writeNumberBy_54 : decode cX12_writeNumberBy 54 = .ok (.iconst 0, 1) := by decide +kernel
theorem dX12_writeNumberBy_55 : decode cX12_writeNumberBy 55 = .ok (.istore 9, 2) := by decide +kernel
theorem dX12_writeNumberBy_57 : decode cX12_writeNumberBy 57 = .ok (.iconst 0, 1) := by decide +kernel
theorem dX12_writeNumberBy_58 : decode cX12_writeNumberBy 58 = .ok (.istore 10, 2) := by decide +kernel
theorem dX12_writeNumberBy_60 : decode cX12_writeNumberBy 60 = .ok (.iload_n 1, 1) := by decide +kernel
theorem dX12_writeNumberBy_61 : decode cX12_writeNumberBy 61 = .ok (.istore 11, 2) := by decide +kernel
theorem dX12_writeNumberBy_63 : decode cX12_writeNumberBy 63 = .ok (.iload 11, 2) := by decide +kernel
theorem dX12_writeNumberBy_65 : decode cX12_writeNumberBy 65 = .ok (.iload_n 2, 1) := by decide +kernel
theorem dX12_writeNumberBy_66 : decode cX12_writeNumberBy 66 = .ok (.if_icmp .ge 30, 3) := by decide +kernel
theorem dX12_writeNumberBy_69 : decode cX12_writeNumberBy 69 = .ok (.iload 9, 2) := by decide +kernel
theorem dX12_writeNumberBy_71 : decode cX12_writeNumberBy 71 = .ok (.aload_n 0, 1) := by decide +kernel
theorem dX12_writeNumberBy_72 : decode cX12_writeNumberBy 72 = .ok (.getfield 26, 3) := by decide +kernel
theorem dX12_writeNumberBy_75 : decode cX12_writeNumberBy 75 = .ok (.iload 11, 2) := by decide +kernel
theorem dX12_writeNumberBy_77 : decode cX12_writeNumberBy 77 = .ok (.iaload, 1) := by decide +kernel
theorem dX12_writeNumberBy_78 : decode cX12_writeNumberBy 78 = .ok (.iconst 4, 1) := by decide +kernel
theorem dX12_writeNumberBy_79 : decode cX12_writeNumberBy 79 = .ok (.if_icmp .ne 7, 3) := by decide +kernel
theorem dX12_writeNumberBy_82 : decode cX12_writeNumberBy 82 = .ok (.iconst 2, 1) := by decide +kernel
theorem dX12_writeNumberBy_83 : decode cX12_writeNumberBy 83 = .ok (.goto 4, 3) := by decide +kernel
theorem dX12_writeNumberBy_86 : decode cX12_writeNumberBy 86 = .ok (.iconst 0, 1) := by decide +kernel
theorem dX12_writeNumberBy_87 : decode cX12_writeNumberBy 87 = .ok (.iadd, 1) := by decide +kernel
theorem dX12_writeNumberBy_88 : decode cX12_writeNumberBy 88 = .ok (.istore 9, 2) := by decide +kernel
theorem dX12_writeNumberBy_90 : decode cX12_writeNumberBy 90 = .ok (.iinc 11 1, 3) := by decide +kernel
theorem dX12_writeNumberBy_93 : decode cX12_writeNumberBy 93 = .ok (.goto (-30), 3) := by decide +kernel
theorem dX12_writeNumberBy_96 : decode cX12_writeNumberBy 96 = .ok (.iload_n 1, 1) := by decide +kernel
theorem dX12_writeNumberBy_97 : decode cX12_writeNumberBy 97 = .ok (.istore 11, 2) := by decide +kernel
theorem dX12_writeNumberBy_99 : decode cX12_writeNumberBy 99 = .ok (.iload 11, 2) := by decide +kernel
theorem dX12_writeNumberBy_101 : decode cX12_writeNumberBy 101 = .ok (.iload 5, 2) := by decide +kernel
theorem dX12_writeNumberBy_103 : decode cX12_writeNumberBy 103 = .ok (.if_icmp .ge 49, 3) := by decide +kernel
theorem dX12_writeNumberBy_106 : decode cX12_writeNumberBy 106 = .ok (.iload 10, 2) := by decide +kernel
theorem dX12_writeNumberBy_108 : decode cX12_writeNumberBy 108 = .ok (.ifCond .ne 31, 3) := by decide +kernel
theorem dX12_writeNumberBy_111 : decode cX12_writeNumberBy 111 = .ok (.aload_n 0, 1) := by decide +kernel
theorem dX12_writeNumberBy_112 : decode cX12_writeNumberBy 112 = .ok (.getfield 26, 3) := by decide +kernel
theorem dX12_writeNumberBy_115 : decode cX12_writeNumberBy 115 = .ok (.iload 11, 2) := by decide +kernel
theorem dX12_writeNumberBy_117 : decode cX12_writeNumberBy 117 = .ok (.iaload, 1) := by decide +kernel
theorem dX12_writeNumberBy_118 : decode cX12_writeNumberBy 118 = .ok (.iconst 3, 1) := by decide +kernel
theorem dX12_writeNumberBy_119 : decode cX12_writeNumberBy 119 = .ok (.if_icmp .ne 24, 3) := by decide +kernel
theorem dX12_writeNumberBy_122 : decode cX12_writeNumberBy 122 = .ok (.iload 11, 2) := by decide +kernel
theorem dX12_writeNumberBy_124 : decode cX12_writeNumberBy 124 = .ok (.iload 8, 2) := by decide +kernel
theorem dX12_writeNumberBy_126 : decode cX12_writeNumberBy 126 = .ok (.if_icmp .ge 17, 3) := by decide +kernel
theorem dX12_writeNumberBy_129 : decode cX12_writeNumberBy 129 = .ok (.aload_n 0, 1) := by decide +kernel
theorem dX12_writeNumberBy_130 : decode cX12_writeNumberBy 130 = .ok (.iload_n 1, 1) := by decide +kernel
theorem dX12_writeNumberBy_131 : decode cX12_writeNumberBy 131 = .ok (.iload 11, 2) := by decide +kernel
theorem dX12_writeNumberBy_133 : decode cX12_writeNumberBy 133 = .ok (.invokevirtual 300, 3) := by decide +kernel
theorem dX12_writeNumberBy_136 : decode cX12_writeNumberBy 136 = .ok (.ifCond .le 7, 3) := by decide +kernel
theorem dX12_writeNumberBy_139 : decode cX12_writeNumberBy 139 = .ok (.iconst 1, 1) := by decide +kernel
theorem dX12_writeNumberBy_140 : decode cX12_writeNumberBy 140 = .ok (.goto 4, 3) := by decide +kernel
theorem dX12_writeNumberBy_143 : decode cX12_writeNumberBy 143 = .ok (.iconst 0, 1) := by decide +kernel
theorem dX12_writeNumberBy_144 : decode cX12_writeNumberBy 144 = .ok (.istore 10, 2) := by decide +kernel
theorem dX12_writeNumberBy_146 : decode cX12_writeNumberBy 146 = .ok (.iinc 11 1, 3) := by decide +kernel
theorem dX12_writeNumberBy_149 : decode cX12_writeNumberBy 149 = .ok (.goto (-50), 3) := by decide +kernel
theorem dX12_writeNumberBy_152 : decode cX12_writeNumberBy 152 = .ok (.iload 8, 2) := by decide +kernel
theorem dX12_writeNumberBy_154 : decode cX12_writeNumberBy 154 = .ok (.iconst 1, 1) := by decide +kernel
theorem dX12_writeNumberBy_155 : decode cX12_writeNumberBy 155 = .ok (.iadd, 1) := by decide +kernel
theorem dX12_writeNumberBy_156 : decode cX12_writeNumberBy 156 = .ok (.istore 11, 2) := by decide +kernel
theorem dX12_writeNumberBy_158 : decode cX12_writeNumberBy 158 = .ok (.iload 8, 2) := by decide +kernel
theorem dX12_writeNumberBy_160 : decode cX12_writeNumberBy 160 = .ok (.ifCond .lt 29, 3) := by decide +kernel
theorem dX12_writeNumberBy_163 : decode cX12_writeNumberBy 163 = .ok (.iload 11, 2) := by decide +kernel
theorem dX12_writeNumberBy_165 : decode cX12_writeNumberBy 165 = .ok (.iload_n 2, 1) := by decide +kernel
theorem dX12_writeNumberBy_166 : decode cX12_writeNumberBy 166 = .ok (.if_icmp .ge 23, 3) := by decide +kernel
theorem dX12_writeNumberBy_169 : decode cX12_writeNumberBy 169 = .ok (.aload_n 0, 1) := by decide +kernel
theorem dX12_writeNumberBy_170 : decode cX12_writeNumberBy 170 = .ok (.getfield 26, 3) := by decide +kernel
theorem dX12_writeNumberBy_173 : decode cX12_writeNumberBy 173 = .ok (.iload 11, 2) := by decide +kernel
theorem dX12_writeNumberBy_175 : decode cX12_writeNumberBy 175 = .ok (.iaload, 1) := by decide +kernel
theorem dX12_writeNumberBy_176 : decode cX12_writeNumberBy 176 = .ok (.iconst 3, 1) := by decide +kernel
theorem dX12_writeNumberBy_177 : decode cX12_writeNumberBy 177 = .ok (.if_icmp .ne 12, 3) := by decide +kernel
theorem dX12_writeNumberBy_180 : decode cX12_writeNumberBy 180 = .ok (.iinc 9 (-3), 3) := by decide +kernel
theorem dX12_writeNumberBy_183 : decode cX12_writeNumberBy 183 = .ok (.iinc 11 1, 3) := by decide +kernel
theorem dX12_writeNumberBy_186 : decode cX12_writeNumberBy 186 = .ok (.goto (-28), 3) := by decide +kernel
theorem dX12_writeNumberBy_189 : decode cX12_writeNumberBy 189 = .ok (.aload_n 0, 1) := by decide +kernel
theorem dX12_writeNumberBy_190 : decode cX12_writeNumberBy 190 = .ok (.invokevirtual 281, 3) := by decide +kernel
theorem dX12_writeNumberBy_193 : decode cX12_writeNumberBy 193 = .ok (.iconst 0, 1) := by decide +kernel
theorem dX12_writeNumberBy_194 : decode cX12_writeNumberBy 194 = .ok (.istore 11, 2) := by decide +kernel
theorem dX12_writeNumberBy_196 : decode cX12_writeNumberBy 196 = .ok (.iload 6, 2) := by decide +kernel
theorem dX12_writeNumberBy_198 : decode cX12_writeNumberBy 198 = .ok (.ifCond .le 8, 3) := by decide +kernel
theorem dX12_writeNumberBy_201 : decode cX12_writeNumberBy 201 = .ok (.iload 6, 2) := by decide +kernel
theorem dX12_writeNumberBy_203 : decode cX12_writeNumberBy 203 = .ok (.goto 4, 3) := by decide +kernel
theorem dX12_writeNumberBy_206 : decode cX12_writeNumberBy 206 = .ok (.iconst 1, 1) := by decide +kernel
theorem dX12_writeNumberBy_207 : decode cX12_writeNumberBy 207 = .ok (.istore 12, 2) := by decide +kernel
theorem dX12_writeNumberBy_209 : decode cX12_writeNumberBy 209 = .ok (.iload 4, 2) := by decide +kernel
theorem dX12_writeNumberBy_211 : decode cX12_writeNumberBy 211 = .ok (.iload_n 2, 1) := by decide +kernel
theorem dX12_writeNumberBy_212 : decode cX12_writeNumberBy 212 = .ok (.if_icmp .ge 33, 3) := by decide +kernel
theorem dX12_writeNumberBy_215 : decode cX12_writeNumberBy 215 = .ok (.aload_n 0, 1) := by decide +kernel
theorem dX12_writeNumberBy_216 : decode cX12_writeNumberBy 216 = .ok (.getfield 95, 3) := by decide +kernel
theorem dX12_writeNumberBy_219 : decode cX12_writeNumberBy 219 = .ok (.dconst 0, 1) := by decide +kernel
theorem dX12_writeNumberBy_220 : decode cX12_writeNumberBy 220 = .ok (.dcmp .l, 1) := by decide +kernel
theorem dX12_writeNumberBy_221 : decode cX12_writeNumberBy 221 = .ok (.ifCond .eq 24, 3) := by decide +kernel
theorem dX12_writeNumberBy_224 : decode cX12_writeNumberBy 224 = .ok (.sipush 319, 3) := by decide +kernel
theorem dX12_writeNumberBy_227 : decode cX12_writeNumberBy 227 = .ok (.aload_n 0, 1) := by decide +kernel
theorem dX12_writeNumberBy_228 : decode cX12_writeNumberBy 228 = .ok (.getfield 66, 3) := by decide +kernel
theorem dX12_writeNumberBy_231 : decode cX12_writeNumberBy 231 = .ok (.invokestatic 103, 3) := by decide +kernel
theorem dX12_writeNumberBy_234 : decode cX12_writeNumberBy 234 = .ok (.isub, 1) := by decide +kernel
theorem dX12_writeNumberBy_235 : decode cX12_writeNumberBy 235 = .ok (.iload 9, 2) := by decide +kernel
theorem dX12_writeNumberBy_237 : decode cX12_writeNumberBy 237 = .ok (.iadd, 1) := by decide +kernel
theorem dX12_writeNumberBy_238 : decode cX12_writeNumberBy 238 = .ok (.iload 12, 2) := by decide +kernel
theorem dX12_writeNumberBy_240 : decode cX12_writeNumberBy 240 = .ok (.invokestatic 317, 3) := by decide +kernel
theorem dX12_writeNumberBy_243 : decode cX12_writeNumberBy 243 = .ok (.istore 11, 2) := by decide +kernel
theorem dX12_writeNumberBy_245 : decode cX12_writeNumberBy 245 = .ok (.aload_n 0, 1) := by decide +kernel
theorem dX12_writeNumberBy_246 : decode cX12_writeNumberBy 246 = .ok (.iload 9, 2) := by decide +kernel
theorem dX12_writeNumberBy_248 : decode cX12_writeNumberBy 248 = .ok (.iload 11, 2) := by decide +kernel
theorem dX12_writeNumberBy_250 : decode cX12_writeNumberBy 250 = .ok (.isub, 1) := by decide +kernel
theorem dX12_writeNumberBy_251 : decode cX12_writeNumberBy 251 = .ok (.iload 7, 2) := by decide +kernel
theorem dX12_writeNumberBy_253 : decode cX12_writeNumberBy 253 = .ok (.invokevirtual 320, 3) := by decide +kernel
theorem dX12_writeNumberBy_256 : decode cX12_writeNumberBy 256 = .ok (.iload 4, 2) := by decide +kernel
theorem dX12_writeNumberBy_258 : decode cX12_writeNumberBy 258 = .ok (.iload_n 2, 1) := by decide +kernel
theorem dX12_writeNumberBy_259 : decode cX12_writeNumberBy 259 = .ok (.if_icmp .ge 24, 3) := by decide +kernel
theorem dX12_writeNumberBy_262 : decode cX12_writeNumberBy 262 = .ok (.aload_n 0, 1) := by decide +kernel
theorem dX12_writeNumberBy_263 : decode cX12_writeNumberBy 263 = .ok (.getfield 293, 3) := by decide +kernel
theorem dX12_writeNumberBy_266 : decode cX12_writeNumberBy 266 = .ok (.iload 12, 2) := by decide +kernel
theorem dX12_writeNumberBy_268 : decode cX12_writeNumberBy 268 = .ok (.if_icmp .le 15, 3) := by decide +kernel
theorem dX12_writeNumberBy_271 : decode cX12_writeNumberBy 271 = .ok (.iload 11, 2) := by decide +kernel
theorem dX12_writeNumberBy_273 : decode cX12_writeNumberBy 273 = .ok (.iload 12, 2) := by decide +kernel
theorem dX12_writeNumberBy_275 : decode cX12_writeNumberBy 275 = .ok (.iadd, 1) := by decide +kernel
theorem dX12_writeNumberBy_276 : decode cX12_writeNumberBy 276 = .ok (.istore 11, 2) := by decide +kernel
theorem dX12_writeNumberBy_278 : decode cX12_writeNumberBy 278 = .ok (.aload_n 0, 1) := by decide +kernel
theorem dX12_writeNumberBy_279 : decode cX12_writeNumberBy 279 = .ok (.lconst 1, 1) := by decide +kernel
theorem dX12_writeNumberBy_280 : decode cX12_writeNumberBy 280 = .ok (.invokevirtual 323, 3) := by decide +kernel
theorem dX12_writeNumberBy_283 : decode cX12_writeNumberBy 283 = .ok (.iload_n 3, 1) := by decide +kernel
theorem dX12_writeNumberBy_284 : decode cX12_writeNumberBy 284 = .ok (.ifCond .eq 16, 3) := by decide +kernel
theorem dX12_writeNumberBy_287 : decode cX12_writeNumberBy 287 = .ok (.aload_n 0, 1) := by decide +kernel
theorem dX12_writeNumberBy_288 : decode cX12_writeNumberBy 288 = .ok (.invokevirtual 327, 3) := by decide +kernel
theorem dX12_writeNumberBy_291 : decode cX12_writeNumberBy 291 = .ok (.ifCond .ne 9, 3) := by decide +kernel
theorem dX12_writeNumberBy_294 : decode cX12_writeNumberBy 294 = .ok (.aload_n 0, 1) := by decide +kernel
theorem dX12_writeNumberBy_295 : decode cX12_writeNumberBy 295 = .ok (.bipush 45, 2) := by decide +kernel
theorem dX12_writeNumberBy_297 : decode cX12_writeNumberBy 297 = .ok (.invokevirtual 278, 3) := by decide +kernel
theorem dX12_writeNumberBy_300 : decode cX12_writeNumberBy 300 = .ok (.aload_n 0, 1) := by decide +kernel
theorem dX12_writeNumberBy_301 : decode cX12_writeNumberBy 301 = .ok (.iload_n 1, 1) := by decide +kernel
theorem dX12_writeNumberBy_302 : decode cX12_writeNumberBy 302 = .ok (.iload 5, 2) := by decide +kernel
theorem dX12_writeNumberBy_304 : decode cX12_writeNumberBy 304 = .ok (.iload 10, 2) := by decide +kernel
theorem dX12_writeNumberBy_306 : decode cX12_writeNumberBy 306 = .ok (.invokevirtual 331, 3) := by decide +kernel
theorem dX12_writeNumberBy_309 : decode cX12_writeNumberBy 309 = .ok (.iload 6, 2) := by decide +kernel
theorem dX12_writeNumberBy_311 : decode cX12_writeNumberBy 311 = .ok (.ifCond .ne 29, 3) := by decide +kernel
theorem dX12_writeNumberBy_314 : decode cX12_writeNumberBy 314 = .ok (.aload_n 0, 1) := by decide +kernel
theorem dX12_writeNumberBy_315 : decode cX12_writeNumberBy 315 = .ok (.getfield 293, 3) := by decide +kernel
theorem dX12_writeNumberBy_318 : decode cX12_writeNumberBy 318 = .ok (.iconst 1, 1) := by decide +kernel
theorem dX12_writeNumberBy_319 : decode cX12_writeNumberBy 319 = .ok (.isub, 1) := by decide +kernel
theorem dX12_writeNumberBy_320 : decode cX12_writeNumberBy 320 = .ok (.istore 13, 2) := by decide +kernel
theorem dX12_writeNumberBy_322 : decode cX12_writeNumberBy 322 = .ok (.iload 13, 2) := by decide +kernel
theorem dX12_writeNumberBy_324 : decode cX12_writeNumberBy 324 = .ok (.ifCond .lt 16, 3) := by decide +kernel
theorem dX12_writeNumberBy_327 : decode cX12_writeNumberBy 327 = .ok (.aload_n 0, 1) := by decide +kernel
theorem dX12_writeNumberBy_328 : decode cX12_writeNumberBy 328 = .ok (.iload 13, 2) := by decide +kernel
theorem dX12_writeNumberBy_330 : decode cX12_writeNumberBy 330 = .ok (.iconst 0, 1) := by decide +kernel
theorem dX12_writeNumberBy_331 : decode cX12_writeNumberBy 331 = .ok (.invokevirtual 296, 3) := by decide +kernel
theorem dX12_writeNumberBy_334 : decode cX12_writeNumberBy 334 = .ok (.iinc 13 (-1), 3) := by decide +kernel
theorem dX12_writeNumberBy_337 : decode cX12_writeNumberBy 337 = .ok (.goto (-15), 3) := by decide +kernel
theorem dX12_writeNumberBy_340 : decode cX12_writeNumberBy 340 = .ok (.aload_n 0, 1) := by decide +kernel
theorem dX12_writeNumberBy_341 : decode cX12_writeNumberBy 341 = .ok (.iload 5, 2) := by decide +kernel
theorem dX12_writeNumberBy_343 : decode cX12_writeNumberBy 343 = .ok (.iload 4, 2) := by decide +kernel
theorem dX12_writeNumberBy_345 : decode cX12_writeNumberBy 345 = .ok (.invokevirtual 335, 3) := by decide +kernel
theorem dX12_writeNumberBy_348 : decode cX12_writeNumberBy 348 = .ok (.iload 4, 2) := by decide +kernel
theorem dX12_writeNumberBy_350 : decode cX12_writeNumberBy 350 = .ok (.iload_n 2, 1) := by decide +kernel
theorem dX12_writeNumberBy_351 : decode cX12_writeNumberBy 351 = .ok (.if_icmp .ne 4, 3) := by decide +kernel
theorem dX12_writeNumberBy_354 : decode cX12_writeNumberBy 354 = .ok (.return_, 1) := by decide +kernel
theorem dX12_writeNumberBy_355 : decode cX12_writeNumberBy 355 = .ok (.aload_n 0, 1) := by decide +kernel
theorem dX12_writeNumberBy_356 : decode cX12_writeNumberBy 356 = .ok (.bipush 69, 2) := by decide +kernel
theorem dX12_writeNumberBy_358 : decode cX12_writeNumberBy 358 = .ok (.invokevirtual 278, 3) := by decide +kernel
theorem dX12_writeNumberBy_361 : decode cX12_writeNumberBy 361 = .ok (.iload 11, 2) := by decide +kernel
theorem dX12_writeNumberBy_363 : decode cX12_writeNumberBy 363 = .ok (.ifCond .ge 12, 3) := by decide +kernel
theorem dX12_writeNumberBy_366 : decode cX12_writeNumberBy 366 = .ok (.aload_n 0, 1) := by decide +kernel
theorem dX12_writeNumberBy_367 : decode cX12_writeNumberBy 367 = .ok (.bipush 45, 2) := by decide +kernel
theorem dX12_writeNumberBy_369 : decode cX12_writeNumberBy 369 = .ok (.invokevirtual 278, 3) := by decide +kernel
theorem dX12_writeNumberBy_372 : decode cX12_writeNumberBy 372 = .ok (.goto 20, 3) := by decide +kernel
theorem dX12_writeNumberBy_375 : decode cX12_writeNumberBy 375 = .ok (.aload_n 0, 1) := by decide +kernel
theorem dX12_writeNumberBy_376 : decode cX12_writeNumberBy 376 = .ok (.getfield 29, 3) := by decide +kernel
theorem dX12_writeNumberBy_379 : decode cX12_writeNumberBy 379 = .ok (.iload 4, 2) := by decide +kernel
theorem dX12_writeNumberBy_381 : decode cX12_writeNumberBy 381 = .ok (.iaload, 1) := by decide +kernel
theorem dX12_writeNumberBy_382 : decode cX12_writeNumberBy 382 = .ok (.iconst 1, 1) := by decide +kernel
theorem dX12_writeNumberBy_383 : decode cX12_writeNumberBy 383 = .ok (.if_icmp .ne 9, 3) := by decide +kernel
theorem dX12_writeNumberBy_386 : decode cX12_writeNumberBy 386 = .ok (.aload_n 0, 1) := by decide +kernel
theorem dX12_writeNumberBy_387 : decode cX12_writeNumberBy 387 = .ok (.bipush 43, 2) := by decide +kernel
theorem dX12_writeNumberBy_389 : decode cX12_writeNumberBy 389 = .ok (.invokevirtual 278, 3) := by decide +kernel
theorem dX12_writeNumberBy_392 : decode cX12_writeNumberBy 392 = .ok (.aload_n 0, 1) := by decide +kernel
theorem dX12_writeNumberBy_393 : decode cX12_writeNumberBy 393 = .ok (.iload 11, 2) := by decide +kernel
theorem dX12_writeNumberBy_395 : decode cX12_writeNumberBy 395 = .ok (.ifCond .ge 10, 3) := by decide +kernel
theorem dX12_writeNumberBy_398 : decode cX12_writeNumberBy 398 = .ok (.iload 11, 2) := by decide +kernel
theorem dX12_writeNumberBy_400 : decode cX12_writeNumberBy 400 = .ok (.ineg, 1) := by decide +kernel
theorem dX12_writeNumberBy_401 : decode cX12_writeNumberBy 401 = .ok (.i2l, 1) := by decide +kernel
theorem dX12_writeNumberBy_402 : decode cX12_writeNumberBy 402 = .ok (.goto 6, 3) := by decide +kernel
theorem dX12_writeNumberBy_405 : decode cX12_writeNumberBy 405 = .ok (.iload 11, 2) := by decide +kernel
theorem dX12_writeNumberBy_407 : decode cX12_writeNumberBy 407 = .ok (.i2l, 1) := by decide +kernel
theorem dX12_writeNumberBy_408 : decode cX12_writeNumberBy 408 = .ok (.invokevirtual 323, 3) := by decide +kernel
theorem dX12_writeNumberBy_411 : decode cX12_writeNumberBy 411 = .ok (.aload_n 0, 1) := by decide +kernel
theorem dX12_writeNumberBy_412 : decode cX12_writeNumberBy 412 = .ok (.iload 4, 2) := by decide +kernel
theorem dX12_writeNumberBy_414 : decode cX12_writeNumberBy 414 = .ok (.iconst 1, 1) := by decide +kernel
theorem dX12_writeNumberBy_415 : decode cX12_writeNumberBy 415 = .ok (.iadd, 1) := by decide +kernel
theorem dX12_writeNumberBy_416 : decode cX12_writeNumberBy 416 = .ok (.iload_n 2, 1) := by decide +kernel
theorem dX12_writeNumberBy_417 : decode cX12_writeNumberBy 417 = .ok (.iconst 0, 1) := by decide +kernel
theorem dX12_writeNumberBy_418 : decode cX12_writeNumberBy 418 = .ok (.invokevirtual 331, 3) := by decide +kernel
