theorem dX0_init_0 : decode cX0_init 0 = .ok (.aload_n 0, 1) := by decide +kernel
theorem dX0_init_1 : decode cX0_init 1 = .ok (.invokespecial 3, 3) := by decide +kernel
theorem dX0_init_4 : decode cX0_init 4 = .ok (.return_, 1) := by decide +kernel
theorem dX0_put_0 : decode cX0_put 0 = .ok (.aload_n 0, 1) := by decide +kernel
theorem dX0_put_1 : decode cX0_put 1 = .ok (.lload_n 1, 1) := by decide +kernel
theorem dX0_put_2 : decode cX0_put 2 = .ok (.putfield 9, 3) := by decide +kernel
theorem dX0_put_5 : decode cX0_put 5 = .ok (.aload_n 0, 1) := by decide +kernel
theorem dX0_put_6 : decode cX0_put 6 = .ok (.lload_n 3, 1) := by decide +kernel
theorem dX0_put_7 : decode cX0_put 7 = .ok (.putfield 15, 3) := by decide +kernel
theorem dX0_put_10 : decode cX0_put 10 = .ok (.aload_n 0, 1) := by decide +kernel
theorem dX0_put_11 : decode cX0_put 11 = .ok (.lload 5, 2) := by decide +kernel
theorem dX0_put_13 : decode cX0_put 13 = .ok (.putfield 18, 3) := by decide +kernel
theorem dX0_put_16 : decode cX0_put 16 = .ok (.aload_n 0, 1) := by decide +kernel
theorem dX0_put_17 : decode cX0_put 17 = .ok (.lload 7, 2) := by decide +kernel
theorem dX0_put_19 : decode cX0_put 19 = .ok (.putfield 21, 3) := by decide +kernel
theorem dX0_put_22 : decode cX0_put 22 = .ok (.aload_n 0, 1) := by decide +kernel
theorem dX0_put_23 : decode cX0_put 23 = .ok (.lload 9, 2) := by decide +kernel
theorem dX0_put_25 : decode cX0_put 25 = .ok (.putfield 24, 3) := by decide +kernel
theorem dX0_put_28 : decode cX0_put 28 = .ok (.aload_n 0, 1) := by decide +kernel
theorem dX0_put_29 : decode cX0_put 29 = .ok (.aload_n 0, 1) := by decide +kernel
theorem dX0_put_30 : decode cX0_put 30 = .ok (.getfield 9, 3) := by decide +kernel
theorem dX0_put_33 : decode cX0_put 33 = .ok (.aload_n 0, 1) := by decide +kernel
theorem dX0_put_34 : decode cX0_put 34 = .ok (.getfield 9, 3) := by decide +kernel
theorem dX0_put_37 : decode cX0_put 37 = .ok (.lmul, 1) := by decide +kernel
theorem dX0_put_38 : decode cX0_put 38 = .ok (.ldc2_w 27, 3) := by decide +kernel
theorem dX0_put_41 : decode cX0_put 41 = .ok (.aload_n 0, 1) := by decide +kernel
theorem dX0_put_42 : decode cX0_put 42 = .ok (.getfield 15, 3) := by decide +kernel
theorem dX0_put_45 : decode cX0_put 45 = .ok (.lmul, 1) := by decide +kernel
theorem dX0_put_46 : decode cX0_put 46 = .ok (.ladd, 1) := by decide +kernel
theorem dX0_put_47 : decode cX0_put 47 = .ok (.putfield 29, 3) := by decide +kernel
theorem dX0_put_50 : decode cX0_put 50 = .ok (.aload_n 0, 1) := by decide +kernel
theorem dX0_put_51 : decode cX0_put 51 = .ok (.aload_n 0, 1) := by decide +kernel
theorem dX0_put_52 : decode cX0_put 52 = .ok (.getfield 9, 3) := by decide +kernel
theorem dX0_put_55 : decode cX0_put 55 = .ok (.aload_n 0, 1) := by decide +kernel
theorem dX0_put_56 : decode cX0_put 56 = .ok (.getfield 18, 3) := by decide +kernel
theorem dX0_put_59 : decode cX0_put 59 = .ok (.lmul, 1) := by decide +kernel
theorem dX0_put_60 : decode cX0_put 60 = .ok (.ldc2_w 32, 3) := by decide +kernel
theorem dX0_put_63 : decode cX0_put 63 = .ok (.aload_n 0, 1) := by decide +kernel
theorem dX0_put_64 : decode cX0_put 64 = .ok (.getfield 21, 3) := by decide +kernel
theorem dX0_put_67 : decode cX0_put 67 = .ok (.lmul, 1) := by decide +kernel
theorem dX0_put_68 : decode cX0_put 68 = .ok (.ladd, 1) := by decide +kernel
theorem dX0_put_69 : decode cX0_put 69 = .ok (.putfield 34, 3) := by decide +kernel
theorem dX0_put_72 : decode cX0_put 72 = .ok (.aload_n 0, 1) := by decide +kernel
theorem dX0_put_73 : decode cX0_put 73 = .ok (.aload_n 0, 1) := by decide +kernel
theorem dX0_put_74 : decode cX0_put 74 = .ok (.getfield 18, 3) := by decide +kernel
theorem dX0_put_77 : decode cX0_put 77 = .ok (.aload_n 0, 1) := by decide +kernel
theorem dX0_put_78 : decode cX0_put 78 = .ok (.getfield 18, 3) := by decide +kernel
theorem dX0_put_81 : decode cX0_put 81 = .ok (.lmul, 1) := by decide +kernel
theorem dX0_put_82 : decode cX0_put 82 = .ok (.ldc2_w 27, 3) := by decide +kernel
theorem dX0_put_85 : decode cX0_put 85 = .ok (.aload_n 0, 1) := by decide +kernel
theorem dX0_put_86 : decode cX0_put 86 = .ok (.getfield 24, 3) := by decide +kernel
theorem dX0_put_89 : decode cX0_put 89 = .ok (.lmul, 1) := by decide +kernel
theorem dX0_put_90 : decode cX0_put 90 = .ok (.ladd, 1) := by decide +kernel
theorem dX0_put_91 : decode cX0_put 91 = .ok (.putfield 37, 3) := by decide +kernel
theorem dX0_put_94 : decode cX0_put 94 = .ok (.aload_n 0, 1) := by decide +kernel
theorem dX0_put_95 : decode cX0_put 95 = .ok (.aload_n 0, 1) := by decide +kernel
theorem dX0_put_96 : decode cX0_put 96 = .ok (.getfield 9, 3) := by decide +kernel
theorem dX0_put_99 : decode cX0_put 99 = .ok (.aload_n 0, 1) := by decide +kernel
theorem dX0_put_100 : decode cX0_put 100 = .ok (.getfield 9, 3) := by decide +kernel
theorem dX0_put_103 : decode cX0_put 103 = .ok (.lmul, 1) := by decide +kernel
theorem dX0_put_104 : decode cX0_put 104 = .ok (.aload_n 0, 1) := by decide +kernel
theorem dX0_put_105 : decode cX0_put 105 = .ok (.getfield 24, 3) := by decide +kernel
theorem dX0_put_108 : decode cX0_put 108 = .ok (.lmul, 1) := by decide +kernel
theorem dX0_put_109 : decode cX0_put 109 = .ok (.ldc2_w 27, 3) := by decide +kernel
theorem dX0_put_112 : decode cX0_put 112 = .ok (.aload_n 0, 1) := by decide +kernel
theorem dX0_put_113 : decode cX0_put 113 = .ok (.getfield 15, 3) := by decide +kernel
theorem dX0_put_116 : decode cX0_put 116 = .ok (.lmul, 1) := by decide +kernel
theorem dX0_put_117 : decode cX0_put 117 = .ok (.aload_n 0, 1) := by decide +kernel
theorem dX0_put_118 : decode cX0_put 118 = .ok (.getfield 24, 3) := by decide +kernel
theorem dX0_put_121 : decode cX0_put 121 = .ok (.lmul, 1) := by decide +kernel
theorem dX0_put_122 : decode cX0_put 122 = .ok (.ladd, 1) := by decide +kernel
theorem dX0_put_123 : decode cX0_put 123 = .ok (.aload_n 0, 1) := by decide +kernel
theorem dX0_put_124 : decode cX0_put 124 = .ok (.getfield 9, 3) := by decide +kernel
theorem dX0_put_127 : decode cX0_put 127 = .ok (.aload_n 0, 1) := by decide +kernel
theorem dX0_put_128 : decode cX0_put 128 = .ok (.getfield 18, 3) := by decide +kernel
theorem dX0_put_131 : decode cX0_put 131 = .ok (.lmul, 1) := by decide +kernel
theorem dX0_put_132 : decode cX0_put 132 = .ok (.aload_n 0, 1) := by decide +kernel
theorem dX0_put_133 : decode cX0_put 133 = .ok (.getfield 21, 3) := by decide +kernel
theorem dX0_put_136 : decode cX0_put 136 = .ok (.lmul, 1) := by decide +kernel
theorem dX0_put_137 : decode cX0_put 137 = .ok (.lsub, 1) := by decide +kernel
theorem dX0_put_138 : decode cX0_put 138 = .ok (.aload_n 0, 1) := by decide +kernel
theorem dX0_put_139 : decode cX0_put 139 = .ok (.getfield 15, 3) := by decide +kernel
theorem dX0_put_142 : decode cX0_put 142 = .ok (.aload_n 0, 1) := by decide +kernel
theorem dX0_put_143 : decode cX0_put 143 = .ok (.getfield 18, 3) := by decide +kernel
theorem dX0_put_146 : decode cX0_put 146 = .ok (.lmul, 1) := by decide +kernel
theorem dX0_put_147 : decode cX0_put 147 = .ok (.aload_n 0, 1) := by decide +kernel
theorem dX0_put_148 : decode cX0_put 148 = .ok (.getfield 18, 3) := by decide +kernel
theorem dX0_put_151 : decode cX0_put 151 = .ok (.lmul, 1) := by decide +kernel
theorem dX0_put_152 : decode cX0_put 152 = .ok (.ladd, 1) := by decide +kernel
theorem dX0_put_153 : decode cX0_put 153 = .ok (.aload_n 0, 1) := by decide +kernel
theorem dX0_put_154 : decode cX0_put 154 = .ok (.getfield 21, 3) := by decide +kernel
theorem dX0_put_157 : decode cX0_put 157 = .ok (.aload_n 0, 1) := by decide +kernel
theorem dX0_put_158 : decode cX0_put 158 = .ok (.getfield 21, 3) := by decide +kernel
theorem dX0_put_161 : decode cX0_put 161 = .ok (.lmul, 1) := by decide +kernel
theorem dX0_put_162 : decode cX0_put 162 = .ok (.lsub, 1) := by decide +kernel
theorem dX0_put_163 : decode cX0_put 163 = .ok (.putfield 40, 3) := by decide +kernel
theorem dX0_put_166 : decode cX0_put 166 = .ok (.aload_n 0, 1) := by decide +kernel
theorem dX0_put_167 : decode cX0_put 167 = .ok (.aload_n 0, 1) := by decide +kernel
theorem dX0_put_168 : decode cX0_put 168 = .ok (.getfield 29, 3) := by decide +kernel
theorem dX0_put_171 : decode cX0_put 171 = .ok (.aload_n 0, 1) := by decide +kernel
theorem dX0_put_172 : decode cX0_put 172 = .ok (.getfield 29, 3) := by decide +kernel
theorem dX0_put_175 : decode cX0_put 175 = .ok (.lmul, 1) := by decide +kernel
theorem dX0_put_176 : decode cX0_put 176 = .ok (.ldc2_w 43, 3) := by decide +kernel
theorem dX0_put_179 : decode cX0_put 179 = .ok (.aload_n 0, 1) := by decide +kernel
theorem dX0_put_180 : decode cX0_put 180 = .ok (.getfield 34, 3) := by decide +kernel
theorem dX0_put_183 : decode cX0_put 183 = .ok (.lmul, 1) := by decide +kernel
theorem dX0_put_184 : decode cX0_put 184 = .ok (.lsub, 1) := by decide +kernel
theorem dX0_put_185 : decode cX0_put 185 = .ok (.putfield 45, 3) := by decide +kernel
theorem dX0_put_188 : decode cX0_put 188 = .ok (.aload_n 0, 1) := by decide +kernel
theorem dX0_put_189 : decode cX0_put 189 = .ok (.aload_n 0, 1) := by decide +kernel
theorem dX0_put_190 : decode cX0_put 190 = .ok (.getfield 29, 3) := by decide +kernel
theorem dX0_put_193 : decode cX0_put 193 = .ok (.lneg, 1) := by decide +kernel
theorem dX0_put_194 : decode cX0_put 194 = .ok (.aload_n 0, 1) := by decide +kernel
theorem dX0_put_195 : decode cX0_put 195 = .ok (.getfield 29, 3) := by decide +kernel
theorem dX0_put_198 : decode cX0_put 198 = .ok (.lmul, 1) := by decide +kernel
theorem dX0_put_199 : decode cX0_put 199 = .ok (.aload_n 0, 1) := by decide +kernel
theorem dX0_put_200 : decode cX0_put 200 = .ok (.getfield 29, 3) := by decide +kernel
theorem dX0_put_203 : decode cX0_put 203 = .ok (.lmul, 1) := by decide +kernel
theorem dX0_put_204 : decode cX0_put 204 = .ok (.ldc2_w 48, 3) := by decide +kernel
theorem dX0_put_207 : decode cX0_put 207 = .ok (.aload_n 0, 1) := by decide +kernel
theorem dX0_put_208 : decode cX0_put 208 = .ok (.getfield 29, 3) := by decide +kernel
theorem dX0_put_211 : decode cX0_put 211 = .ok (.lmul, 1) := by decide +kernel
theorem dX0_put_212 : decode cX0_put 212 = .ok (.aload_n 0, 1) := by decide +kernel
theorem dX0_put_213 : decode cX0_put 213 = .ok (.getfield 34, 3) := by decide +kernel
theorem dX0_put_216 : decode cX0_put 216 = .ok (.lmul, 1) := by decide +kernel
theorem dX0_put_217 : decode cX0_put 217 = .ok (.ladd, 1) := by decide +kernel
theorem dX0_put_218 : decode cX0_put 218 = .ok (.ldc2_w 50, 3) := by decide +kernel
theorem dX0_put_221 : decode cX0_put 221 = .ok (.aload_n 0, 1) := by decide +kernel
theorem dX0_put_222 : decode cX0_put 222 = .ok (.getfield 37, 3) := by decide +kernel
theorem dX0_put_225 : decode cX0_put 225 = .ok (.lmul, 1) := by decide +kernel
theorem dX0_put_226 : decode cX0_put 226 = .ok (.lsub, 1) := by decide +kernel
theorem dX0_put_227 : decode cX0_put 227 = .ok (.putfield 52, 3) := by decide +kernel
theorem dX0_put_230 : decode cX0_put 230 = .ok (.aload_n 0, 1) := by decide +kernel
theorem dX0_put_231 : decode cX0_put 231 = .ok (.aload_n 0, 1) := by decide +kernel
theorem dX0_put_232 : decode cX0_put 232 = .ok (.getfield 29, 3) := by decide +kernel
theorem dX0_put_235 : decode cX0_put 235 = .ok (.lneg, 1) := by decide +kernel
theorem dX0_put_236 : decode cX0_put 236 = .ok (.aload_n 0, 1) := by decide +kernel
theorem dX0_put_237 : decode cX0_put 237 = .ok (.getfield 29, 3) := by decide +kernel
theorem dX0_put_240 : decode cX0_put 240 = .ok (.lmul, 1) := by decide +kernel
theorem dX0_put_241 : decode cX0_put 241 = .ok (.aload_n 0, 1) := by decide +kernel
theorem dX0_put_242 : decode cX0_put 242 = .ok (.getfield 40, 3) := by decide +kernel
theorem dX0_put_245 : decode cX0_put 245 = .ok (.lmul, 1) := by decide +kernel
theorem dX0_put_246 : decode cX0_put 246 = .ok (.ldc2_w 55, 3) := by decide +kernel
theorem dX0_put_249 : decode cX0_put 249 = .ok (.aload_n 0, 1) := by decide +kernel
theorem dX0_put_250 : decode cX0_put 250 = .ok (.getfield 34, 3) := by decide +kernel
theorem dX0_put_253 : decode cX0_put 253 = .ok (.lmul, 1) := by decide +kernel
theorem dX0_put_254 : decode cX0_put 254 = .ok (.aload_n 0, 1) := by decide +kernel
theorem dX0_put_255 : decode cX0_put 255 = .ok (.getfield 34, 3) := by decide +kernel
theorem dX0_put_258 : decode cX0_put 258 = .ok (.lmul, 1) := by decide +kernel
theorem dX0_put_259 : decode cX0_put 259 = .ok (.aload_n 0, 1) := by decide +kernel
theorem dX0_put_260 : decode cX0_put 260 = .ok (.getfield 34, 3) := by decide +kernel
theorem dX0_put_263 : decode cX0_put 263 = .ok (.lmul, 1) := by decide +kernel
theorem dX0_put_264 : decode cX0_put 264 = .ok (.lsub, 1) := by decide +kernel
theorem dX0_put_265 : decode cX0_put 265 = .ok (.ldc2_w 57, 3) := by decide +kernel
theorem dX0_put_268 : decode cX0_put 268 = .ok (.aload_n 0, 1) := by decide +kernel
theorem dX0_put_269 : decode cX0_put 269 = .ok (.getfield 37, 3) := by decide +kernel
theorem dX0_put_272 : decode cX0_put 272 = .ok (.lmul, 1) := by decide +kernel
theorem dX0_put_273 : decode cX0_put 273 = .ok (.aload_n 0, 1) := by decide +kernel
theorem dX0_put_274 : decode cX0_put 274 = .ok (.getfield 37, 3) := by decide +kernel
theorem dX0_put_277 : decode cX0_put 277 = .ok (.lmul, 1) := by decide +kernel
theorem dX0_put_278 : decode cX0_put 278 = .ok (.lsub, 1) := by decide +kernel
theorem dX0_put_279 : decode cX0_put 279 = .ok (.ldc2_w 59, 3) := by decide +kernel
theorem dX0_put_282 : decode cX0_put 282 = .ok (.aload_n 0, 1) := by decide +kernel
theorem dX0_put_283 : decode cX0_put 283 = .ok (.getfield 29, 3) := by decide +kernel
theorem dX0_put_286 : decode cX0_put 286 = .ok (.lmul, 1) := by decide +kernel
theorem dX0_put_287 : decode cX0_put 287 = .ok (.aload_n 0, 1) := by decide +kernel
theorem dX0_put_288 : decode cX0_put 288 = .ok (.getfield 34, 3) := by decide +kernel
theorem dX0_put_291 : decode cX0_put 291 = .ok (.lmul, 1) := by decide +kernel
theorem dX0_put_292 : decode cX0_put 292 = .ok (.aload_n 0, 1) := by decide +kernel
theorem dX0_put_293 : decode cX0_put 293 = .ok (.getfield 37, 3) := by decide +kernel
theorem dX0_put_296 : decode cX0_put 296 = .ok (.lmul, 1) := by decide +kernel
theorem dX0_put_297 : decode cX0_put 297 = .ok (.ladd, 1) := by decide +kernel
theorem dX0_put_298 : decode cX0_put 298 = .ok (.putfield 61, 3) := by decide +kernel
theorem dX0_put_301 : decode cX0_put 301 = .ok (.return_, 1) := by decide +kernel
theorem dX0_take_0 : decode cX0_take 0 = .ok (.aload_n 0, 1) := by decide +kernel
theorem dX0_take_1 : decode cX0_take 1 = .ok (.aload_n 1, 1) := by decide +kernel
theorem dX0_take_2 : decode cX0_take 2 = .ok (.getfield 9, 3) := by decide +kernel
theorem dX0_take_5 : decode cX0_take 5 = .ok (.aload_n 1, 1) := by decide +kernel
theorem dX0_take_6 : decode cX0_take 6 = .ok (.getfield 15, 3) := by decide +kernel
theorem dX0_take_9 : decode cX0_take 9 = .ok (.aload_n 1, 1) := by decide +kernel
theorem dX0_take_10 : decode cX0_take 10 = .ok (.getfield 18, 3) := by decide +kernel
theorem dX0_take_13 : decode cX0_take 13 = .ok (.aload_n 1, 1) := by decide +kernel
theorem dX0_take_14 : decode cX0_take 14 = .ok (.getfield 21, 3) := by decide +kernel
theorem dX0_take_17 : decode cX0_take 17 = .ok (.aload_n 1, 1) := by decide +kernel
theorem dX0_take_18 : decode cX0_take 18 = .ok (.getfield 24, 3) := by decide +kernel
theorem dX0_take_21 : decode cX0_take 21 = .ok (.invokevirtual 64, 3) := by decide +kernel
theorem dX0_take_24 : decode cX0_take 24 = .ok (.return_, 1) := by decide +kernel
theorem dX0_shift_0 : decode cX0_shift 0 = .ok (.aload_n 0, 1) := by decide +kernel
theorem dX0_shift_1 : decode cX0_shift 1 = .ok (.aload_n 0, 1) := by decide +kernel
theorem dX0_shift_2 : decode cX0_shift 2 = .ok (.getfield 9, 3) := by decide +kernel
theorem dX0_shift_5 : decode cX0_shift 5 = .ok (.ldc2_w 32, 3) := by decide +kernel
theorem dX0_shift_8 : decode cX0_shift 8 = .ok (.lload_n 3, 1) := by decide +kernel
theorem dX0_shift_9 : decode cX0_shift 9 = .ok (.lmul, 1) := by decide +kernel
theorem dX0_shift_10 : decode cX0_shift 10 = .ok (.ladd, 1) := by decide +kernel
theorem dX0_shift_11 : decode cX0_shift 11 = .ok (.aload_n 0, 1) := by decide +kernel
theorem dX0_shift_12 : decode cX0_shift 12 = .ok (.getfield 15, 3) := by decide +kernel
theorem dX0_shift_15 : decode cX0_shift 15 = .ok (.lload_n 3, 1) := by decide +kernel
theorem dX0_shift_16 : decode cX0_shift 16 = .ok (.aload_n 0, 1) := by decide +kernel
theorem dX0_shift_17 : decode cX0_shift 17 = .ok (.getfield 9, 3) := by decide +kernel
theorem dX0_shift_20 : decode cX0_shift 20 = .ok (.lmul, 1) := by decide +kernel
theorem dX0_shift_21 : decode cX0_shift 21 = .ok (.lsub, 1) := by decide +kernel
theorem dX0_shift_22 : decode cX0_shift 22 = .ok (.ldc2_w 68, 3) := by decide +kernel
theorem dX0_shift_25 : decode cX0_shift 25 = .ok (.lload_n 1, 1) := by decide +kernel
theorem dX0_shift_26 : decode cX0_shift 26 = .ok (.lmul, 1) := by decide +kernel
theorem dX0_shift_27 : decode cX0_shift 27 = .ok (.ladd, 1) := by decide +kernel
theorem dX0_shift_28 : decode cX0_shift 28 = .ok (.lload_n 3, 1) := by decide +kernel
theorem dX0_shift_29 : decode cX0_shift 29 = .ok (.lload_n 3, 1) := by decide +kernel
theorem dX0_shift_30 : decode cX0_shift 30 = .ok (.lmul, 1) := by decide +kernel
theorem dX0_shift_31 : decode cX0_shift 31 = .ok (.lsub, 1) := by decide +kernel
theorem dX0_shift_32 : decode cX0_shift 32 = .ok (.aload_n 0, 1) := by decide +kernel
theorem dX0_shift_33 : decode cX0_shift 33 = .ok (.getfield 18, 3) := by decide +kernel
theorem dX0_shift_36 : decode cX0_shift 36 = .ok (.lload_n 1, 1) := by decide +kernel
theorem dX0_shift_37 : decode cX0_shift 37 = .ok (.aload_n 0, 1) := by decide +kernel
theorem dX0_shift_38 : decode cX0_shift 38 = .ok (.getfield 9, 3) := by decide +kernel
theorem dX0_shift_41 : decode cX0_shift 41 = .ok (.lmul, 1) := by decide +kernel
theorem dX0_shift_42 : decode cX0_shift 42 = .ok (.ladd, 1) := by decide +kernel
theorem dX0_shift_43 : decode cX0_shift 43 = .ok (.ldc2_w 32, 3) := by decide +kernel
theorem dX0_shift_46 : decode cX0_shift 46 = .ok (.lload 5, 2) := by decide +kernel
theorem dX0_shift_48 : decode cX0_shift 48 = .ok (.lmul, 1) := by decide +kernel
theorem dX0_shift_49 : decode cX0_shift 49 = .ok (.ladd, 1) := by decide +kernel
theorem dX0_shift_50 : decode cX0_shift 50 = .ok (.aload_n 0, 1) := by decide +kernel
theorem dX0_shift_51 : decode cX0_shift 51 = .ok (.getfield 21, 3) := by decide +kernel
theorem dX0_shift_54 : decode cX0_shift 54 = .ok (.lload_n 3, 1) := by decide +kernel
theorem dX0_shift_55 : decode cX0_shift 55 = .ok (.aload_n 0, 1) := by decide +kernel
theorem dX0_shift_56 : decode cX0_shift 56 = .ok (.getfield 18, 3) := by decide +kernel
theorem dX0_shift_59 : decode cX0_shift 59 = .ok (.lmul, 1) := by decide +kernel
theorem dX0_shift_60 : decode cX0_shift 60 = .ok (.lsub, 1) := by decide +kernel
theorem dX0_shift_61 : decode cX0_shift 61 = .ok (.ldc2_w 32, 3) := by decide +kernel
theorem dX0_shift_64 : decode cX0_shift 64 = .ok (.lload_n 1, 1) := by decide +kernel
theorem dX0_shift_65 : decode cX0_shift 65 = .ok (.lmul, 1) := by decide +kernel
theorem dX0_shift_66 : decode cX0_shift 66 = .ok (.aload_n 0, 1) := by decide +kernel
theorem dX0_shift_67 : decode cX0_shift 67 = .ok (.getfield 15, 3) := by decide +kernel
theorem dX0_shift_70 : decode cX0_shift 70 = .ok (.lmul, 1) := by decide +kernel
theorem dX0_shift_71 : decode cX0_shift 71 = .ok (.ladd, 1) := by decide +kernel
theorem dX0_shift_72 : decode cX0_shift 72 = .ok (.lload 5, 2) := by decide +kernel
theorem dX0_shift_74 : decode cX0_shift 74 = .ok (.lload_n 1, 1) := by decide +kernel
theorem dX0_shift_75 : decode cX0_shift 75 = .ok (.lload_n 3, 1) := by decide +kernel
theorem dX0_shift_76 : decode cX0_shift 76 = .ok (.lmul, 1) := by decide +kernel
theorem dX0_shift_77 : decode cX0_shift 77 = .ok (.ladd, 1) := by decide +kernel
theorem dX0_shift_78 : decode cX0_shift 78 = .ok (.aload_n 0, 1) := by decide +kernel
theorem dX0_shift_79 : decode cX0_shift 79 = .ok (.getfield 9, 3) := by decide +kernel
theorem dX0_shift_82 : decode cX0_shift 82 = .ok (.lmul, 1) := by decide +kernel
theorem dX0_shift_83 : decode cX0_shift 83 = .ok (.lsub, 1) := by decide +kernel
theorem dX0_shift_84 : decode cX0_shift 84 = .ok (.ldc2_w 68, 3) := by decide +kernel
theorem dX0_shift_87 : decode cX0_shift 87 = .ok (.lload_n 1, 1) := by decide +kernel
theorem dX0_shift_88 : decode cX0_shift 88 = .ok (.lmul, 1) := by decide +kernel
theorem dX0_shift_89 : decode cX0_shift 89 = .ok (.lload_n 1, 1) := by decide +kernel
theorem dX0_shift_90 : decode cX0_shift 90 = .ok (.lmul, 1) := by decide +kernel
theorem dX0_shift_91 : decode cX0_shift 91 = .ok (.ladd, 1) := by decide +kernel
theorem dX0_shift_92 : decode cX0_shift 92 = .ok (.ldc2_w 32, 3) := by decide +kernel
theorem dX0_shift_95 : decode cX0_shift 95 = .ok (.lload_n 3, 1) := by decide +kernel
theorem dX0_shift_96 : decode cX0_shift 96 = .ok (.lmul, 1) := by decide +kernel
theorem dX0_shift_97 : decode cX0_shift 97 = .ok (.lload 5, 2) := by decide +kernel
theorem dX0_shift_99 : decode cX0_shift 99 = .ok (.lmul, 1) := by decide +kernel
theorem dX0_shift_100 : decode cX0_shift 100 = .ok (.lsub, 1) := by decide +kernel
theorem dX0_shift_101 : decode cX0_shift 101 = .ok (.aload_n 0, 1) := by decide +kernel
theorem dX0_shift_102 : decode cX0_shift 102 = .ok (.getfield 24, 3) := by decide +kernel
theorem dX0_shift_105 : decode cX0_shift 105 = .ok (.lload_n 1, 1) := by decide +kernel
theorem dX0_shift_106 : decode cX0_shift 106 = .ok (.aload_n 0, 1) := by decide +kernel
theorem dX0_shift_107 : decode cX0_shift 107 = .ok (.getfield 21, 3) := by decide +kernel
theorem dX0_shift_110 : decode cX0_shift 110 = .ok (.lmul, 1) := by decide +kernel
theorem dX0_shift_111 : decode cX0_shift 111 = .ok (.ladd, 1) := by decide +kernel
theorem dX0_shift_112 : decode cX0_shift 112 = .ok (.lload_n 1, 1) := by decide +kernel
theorem dX0_shift_113 : decode cX0_shift 113 = .ok (.lload_n 1, 1) := by decide +kernel
theorem dX0_shift_114 : decode cX0_shift 114 = .ok (.lmul, 1) := by decide +kernel
theorem dX0_shift_115 : decode cX0_shift 115 = .ok (.aload_n 0, 1) := by decide +kernel
theorem dX0_shift_116 : decode cX0_shift 116 = .ok (.getfield 15, 3) := by decide +kernel
theorem dX0_shift_119 : decode cX0_shift 119 = .ok (.lmul, 1) := by decide +kernel
theorem dX0_shift_120 : decode cX0_shift 120 = .ok (.ladd, 1) := by decide +kernel
theorem dX0_shift_121 : decode cX0_shift 121 = .ok (.lload_n 1, 1) := by decide +kernel
theorem dX0_shift_122 : decode cX0_shift 122 = .ok (.lload_n 1, 1) := by decide +kernel
theorem dX0_shift_123 : decode cX0_shift 123 = .ok (.lmul, 1) := by decide +kernel
theorem dX0_shift_124 : decode cX0_shift 124 = .ok (.lload_n 1, 1) := by decide +kernel
theorem dX0_shift_125 : decode cX0_shift 125 = .ok (.lmul, 1) := by decide +kernel
theorem dX0_shift_126 : decode cX0_shift 126 = .ok (.ladd, 1) := by decide +kernel
theorem dX0_shift_127 : decode cX0_shift 127 = .ok (.lload 5, 2) := by decide +kernel
theorem dX0_shift_129 : decode cX0_shift 129 = .ok (.aload_n 0, 1) := by decide +kernel
theorem dX0_shift_130 : decode cX0_shift 130 = .ok (.getfield 18, 3) := by decide +kernel
theorem dX0_shift_133 : decode cX0_shift 133 = .ok (.lmul, 1) := by decide +kernel
theorem dX0_shift_134 : decode cX0_shift 134 = .ok (.lsub, 1) := by decide +kernel
theorem dX0_shift_135 : decode cX0_shift 135 = .ok (.lload 5, 2) := by decide +kernel
theorem dX0_shift_137 : decode cX0_shift 137 = .ok (.lload 5, 2) := by decide +kernel
theorem dX0_shift_139 : decode cX0_shift 139 = .ok (.lmul, 1) := by decide +kernel
theorem dX0_shift_140 : decode cX0_shift 140 = .ok (.lsub, 1) := by decide +kernel
theorem dX0_shift_141 : decode cX0_shift 141 = .ok (.lload_n 1, 1) := by decide +kernel
theorem dX0_shift_142 : decode cX0_shift 142 = .ok (.lload 5, 2) := by decide +kernel
theorem dX0_shift_144 : decode cX0_shift 144 = .ok (.lmul, 1) := by decide +kernel
theorem dX0_shift_145 : decode cX0_shift 145 = .ok (.aload_n 0, 1) := by decide +kernel
theorem dX0_shift_146 : decode cX0_shift 146 = .ok (.getfield 9, 3) := by decide +kernel
theorem dX0_shift_149 : decode cX0_shift 149 = .ok (.lmul, 1) := by decide +kernel
theorem dX0_shift_150 : decode cX0_shift 150 = .ok (.lsub, 1) := by decide +kernel
theorem dX0_shift_151 : decode cX0_shift 151 = .ok (.invokevirtual 64, 3) := by decide +kernel
theorem dX0_shift_154 : decode cX0_shift 154 = .ok (.return_, 1) := by decide +kernel
theorem dX0_grow_0 : decode cX0_grow 0 = .ok (.lload_n 2, 1) := by decide +kernel
theorem dX0_grow_1 : decode cX0_grow 1 = .ok (.lload_n 2, 1) := by decide +kernel
theorem dX0_grow_2 : decode cX0_grow 2 = .ok (.lmul, 1) := by decide +kernel
theorem dX0_grow_3 : decode cX0_grow 3 = .ok (.lstore 4, 2) := by decide +kernel
theorem dX0_grow_5 : decode cX0_grow 5 = .ok (.aload_n 0, 1) := by decide +kernel
theorem dX0_grow_6 : decode cX0_grow 6 = .ok (.aload_n 1, 1) := by decide +kernel
theorem dX0_grow_7 : decode cX0_grow 7 = .ok (.getfield 9, 3) := by decide +kernel
theorem dX0_grow_10 : decode cX0_grow 10 = .ok (.lload_n 2, 1) := by decide +kernel
theorem dX0_grow_11 : decode cX0_grow 11 = .ok (.lmul, 1) := by decide +kernel
theorem dX0_grow_12 : decode cX0_grow 12 = .ok (.aload_n 1, 1) := by decide +kernel
theorem dX0_grow_13 : decode cX0_grow 13 = .ok (.getfield 15, 3) := by decide +kernel
theorem dX0_grow_16 : decode cX0_grow 16 = .ok (.lload 4, 2) := by decide +kernel
theorem dX0_grow_18 : decode cX0_grow 18 = .ok (.lmul, 1) := by decide +kernel
theorem dX0_grow_19 : decode cX0_grow 19 = .ok (.aload_n 1, 1) := by decide +kernel
theorem dX0_grow_20 : decode cX0_grow 20 = .ok (.getfield 18, 3) := by decide +kernel
theorem dX0_grow_23 : decode cX0_grow 23 = .ok (.lload 4, 2) := by decide +kernel
theorem dX0_grow_25 : decode cX0_grow 25 = .ok (.lmul, 1) := by decide +kernel
theorem dX0_grow_26 : decode cX0_grow 26 = .ok (.lload_n 2, 1) := by decide +kernel
theorem dX0_grow_27 : decode cX0_grow 27 = .ok (.lmul, 1) := by decide +kernel
theorem dX0_grow_28 : decode cX0_grow 28 = .ok (.aload_n 1, 1) := by decide +kernel
theorem dX0_grow_29 : decode cX0_grow 29 = .ok (.getfield 21, 3) := by decide +kernel
theorem dX0_grow_32 : decode cX0_grow 32 = .ok (.lload 4, 2) := by decide +kernel
theorem dX0_grow_34 : decode cX0_grow 34 = .ok (.lmul, 1) := by decide +kernel
theorem dX0_grow_35 : decode cX0_grow 35 = .ok (.lload 4, 2) := by decide +kernel
theorem dX0_grow_37 : decode cX0_grow 37 = .ok (.lmul, 1) := by decide +kernel
theorem dX0_grow_38 : decode cX0_grow 38 = .ok (.aload_n 1, 1) := by decide +kernel
theorem dX0_grow_39 : decode cX0_grow 39 = .ok (.getfield 24, 3) := by decide +kernel
theorem dX0_grow_42 : decode cX0_grow 42 = .ok (.lload 4, 2) := by decide +kernel
theorem dX0_grow_44 : decode cX0_grow 44 = .ok (.lmul, 1) := by decide +kernel
theorem dX0_grow_45 : decode cX0_grow 45 = .ok (.lload 4, 2) := by decide +kernel
theorem dX0_grow_47 : decode cX0_grow 47 = .ok (.lmul, 1) := by decide +kernel
theorem dX0_grow_48 : decode cX0_grow 48 = .ok (.lload 4, 2) := by decide +kernel
theorem dX0_grow_50 : decode cX0_grow 50 = .ok (.lmul, 1) := by decide +kernel
theorem dX0_grow_51 : decode cX0_grow 51 = .ok (.invokevirtual 64, 3) := by decide +kernel
theorem dX0_grow_54 : decode cX0_grow 54 = .ok (.return_, 1) := by decide +kernel
theorem dX0_canShrink_0 : decode cX0_canShrink 0 = .ok (.aload_n 0, 1) := by decide +kernel
theorem dX0_canShrink_1 : decode cX0_canShrink 1 = .ok (.getfield 9, 3) := by decide +kernel
theorem dX0_canShrink_4 : decode cX0_canShrink 4 = .ok (.lload_n 1, 1) := by decide +kernel
theorem dX0_canShrink_5 : decode cX0_canShrink 5 = .ok (.invokestatic 70, 3) := by decide +kernel
theorem dX0_canShrink_8 : decode cX0_canShrink 8 = .ok (.lconst 0, 1) := by decide +kernel
theorem dX0_canShrink_9 : decode cX0_canShrink 9 = .ok (.lcmp, 1) := by decide +kernel
theorem dX0_canShrink_10 : decode cX0_canShrink 10 = .ok (.ifCond .ne 76, 3) := by decide +kernel
theorem dX0_canShrink_13 : decode cX0_canShrink 13 = .ok (.aload_n 0, 1) := by decide +kernel
theorem dX0_canShrink_14 : decode cX0_canShrink 14 = .ok (.getfield 15, 3) := by decide +kernel
theorem dX0_canShrink_17 : decode cX0_canShrink 17 = .ok (.lload_n 1, 1) := by decide +kernel
theorem dX0_canShrink_18 : decode cX0_canShrink 18 = .ok (.iconst 2, 1) := by decide +kernel
theorem dX0_canShrink_19 : decode cX0_canShrink 19 = .ok (.invokestatic 76, 3) := by decide +kernel
theorem dX0_canShrink_22 : decode cX0_canShrink 22 = .ok (.invokestatic 70, 3) := by decide +kernel
theorem dX0_canShrink_25 : decode cX0_canShrink 25 = .ok (.lconst 0, 1) := by decide +kernel
theorem dX0_canShrink_26 : decode cX0_canShrink 26 = .ok (.lcmp, 1) := by decide +kernel
theorem dX0_canShrink_27 : decode cX0_canShrink 27 = .ok (.ifCond .ne 59, 3) := by decide +kernel
theorem dX0_canShrink_30 : decode cX0_canShrink 30 = .ok (.aload_n 0, 1) := by decide +kernel
theorem dX0_canShrink_31 : decode cX0_canShrink 31 = .ok (.getfield 18, 3) := by decide +kernel
theorem dX0_canShrink_34 : decode cX0_canShrink 34 = .ok (.lload_n 1, 1) := by decide +kernel
theorem dX0_canShrink_35 : decode cX0_canShrink 35 = .ok (.iconst 3, 1) := by decide +kernel
theorem dX0_canShrink_36 : decode cX0_canShrink 36 = .ok (.invokestatic 76, 3) := by decide +kernel
theorem dX0_canShrink_39 : decode cX0_canShrink 39 = .ok (.invokestatic 70, 3) := by decide +kernel
theorem dX0_canShrink_42 : decode cX0_canShrink 42 = .ok (.lconst 0, 1) := by decide +kernel
theorem dX0_canShrink_43 : decode cX0_canShrink 43 = .ok (.lcmp, 1) := by decide +kernel
theorem dX0_canShrink_44 : decode cX0_canShrink 44 = .ok (.ifCond .ne 42, 3) := by decide +kernel
theorem dX0_canShrink_47 : decode cX0_canShrink 47 = .ok (.aload_n 0, 1) := by decide +kernel
theorem dX0_canShrink_48 : decode cX0_canShrink 48 = .ok (.getfield 21, 3) := by decide +kernel
theorem dX0_canShrink_51 : decode cX0_canShrink 51 = .ok (.lload_n 1, 1) := by decide +kernel
theorem dX0_canShrink_52 : decode cX0_canShrink 52 = .ok (.iconst 4, 1) := by decide +kernel
theorem dX0_canShrink_53 : decode cX0_canShrink 53 = .ok (.invokestatic 76, 3) := by decide +kernel
theorem dX0_canShrink_56 : decode cX0_canShrink 56 = .ok (.invokestatic 70, 3) := by decide +kernel
theorem dX0_canShrink_59 : decode cX0_canShrink 59 = .ok (.lconst 0, 1) := by decide +kernel
theorem dX0_canShrink_60 : decode cX0_canShrink 60 = .ok (.lcmp, 1) := by decide +kernel
theorem dX0_canShrink_61 : decode cX0_canShrink 61 = .ok (.ifCond .ne 25, 3) := by decide +kernel
theorem dX0_canShrink_64 : decode cX0_canShrink 64 = .ok (.aload_n 0, 1) := by decide +kernel
theorem dX0_canShrink_65 : decode cX0_canShrink 65 = .ok (.getfield 24, 3) := by decide +kernel
theorem dX0_canShrink_68 : decode cX0_canShrink 68 = .ok (.lload_n 1, 1) := by decide +kernel
theorem dX0_canShrink_69 : decode cX0_canShrink 69 = .ok (.bipush 6, 2) := by decide +kernel
theorem dX0_canShrink_71 : decode cX0_canShrink 71 = .ok (.invokestatic 76, 3) := by decide +kernel
theorem dX0_canShrink_74 : decode cX0_canShrink 74 = .ok (.invokestatic 70, 3) := by decide +kernel
theorem dX0_canShrink_77 : decode cX0_canShrink 77 = .ok (.lconst 0, 1) := by decide +kernel
theorem dX0_canShrink_78 : decode cX0_canShrink 78 = .ok (.lcmp, 1) := by decide +kernel
theorem dX0_canShrink_79 : decode cX0_canShrink 79 = .ok (.ifCond .ne 7, 3) := by decide +kernel
theorem dX0_canShrink_82 : decode cX0_canShrink 82 = .ok (.iconst 1, 1) := by decide +kernel
theorem dX0_canShrink_83 : decode cX0_canShrink 83 = .ok (.goto 4, 3) := by decide +kernel
theorem dX0_canShrink_86 : decode cX0_canShrink 86 = .ok (.iconst 0, 1) := by decide +kernel
theorem dX0_canShrink_87 : decode cX0_canShrink 87 = .ok (.ireturn, 1) := by decide +kernel
theorem dX0_shrink_0 : decode cX0_shrink 0 = .ok (.aload_n 0, 1) := by decide +kernel
theorem dX0_shrink_1 : decode cX0_shrink 1 = .ok (.aload_n 1, 1) := by decide +kernel
theorem dX0_shrink_2 : decode cX0_shrink 2 = .ok (.getfield 9, 3) := by decide +kernel
theorem dX0_shrink_5 : decode cX0_shrink 5 = .ok (.lload_n 2, 1) := by decide +kernel
theorem dX0_shrink_6 : decode cX0_shrink 6 = .ok (.invokestatic 80, 3) := by decide +kernel
theorem dX0_shrink_9 : decode cX0_shrink 9 = .ok (.aload_n 1, 1) := by decide +kernel
theorem dX0_shrink_10 : decode cX0_shrink 10 = .ok (.getfield 15, 3) := by decide +kernel
theorem dX0_shrink_13 : decode cX0_shrink 13 = .ok (.lload_n 2, 1) := by decide +kernel
theorem dX0_shrink_14 : decode cX0_shrink 14 = .ok (.iconst 2, 1) := by decide +kernel
theorem dX0_shrink_15 : decode cX0_shrink 15 = .ok (.invokestatic 76, 3) := by decide +kernel
theorem dX0_shrink_18 : decode cX0_shrink 18 = .ok (.invokestatic 80, 3) := by decide +kernel
theorem dX0_shrink_21 : decode cX0_shrink 21 = .ok (.aload_n 1, 1) := by decide +kernel
theorem dX0_shrink_22 : decode cX0_shrink 22 = .ok (.getfield 18, 3) := by decide +kernel
theorem dX0_shrink_25 : decode cX0_shrink 25 = .ok (.lload_n 2, 1) := by decide +kernel
theorem dX0_shrink_26 : decode cX0_shrink 26 = .ok (.iconst 3, 1) := by decide +kernel
theorem dX0_shrink_27 : decode cX0_shrink 27 = .ok (.invokestatic 76, 3) := by decide +kernel
theorem dX0_shrink_30 : decode cX0_shrink 30 = .ok (.invokestatic 80, 3) := by decide +kernel
theorem dX0_shrink_33 : decode cX0_shrink 33 = .ok (.aload_n 1, 1) := by decide +kernel
theorem dX0_shrink_34 : decode cX0_shrink 34 = .ok (.getfield 21, 3) := by decide +kernel
theorem dX0_shrink_37 : decode cX0_shrink 37 = .ok (.lload_n 2, 1) := by decide +kernel
theorem dX0_shrink_38 : decode cX0_shrink 38 = .ok (.iconst 4, 1) := by decide +kernel
theorem dX0_shrink_39 : decode cX0_shrink 39 = .ok (.invokestatic 76, 3) := by decide +kernel
theorem dX0_shrink_42 : decode cX0_shrink 42 = .ok (.invokestatic 80, 3) := by decide +kernel
theorem dX0_shrink_45 : decode cX0_shrink 45 = .ok (.aload_n 1, 1) := by decide +kernel
theorem dX0_shrink_46 : decode cX0_shrink 46 = .ok (.getfield 24, 3) := by decide +kernel
theorem dX0_shrink_49 : decode cX0_shrink 49 = .ok (.lload_n 2, 1) := by decide +kernel
theorem dX0_shrink_50 : decode cX0_shrink 50 = .ok (.bipush 6, 2) := by decide +kernel
theorem dX0_shrink_52 : decode cX0_shrink 52 = .ok (.invokestatic 76, 3) := by decide +kernel
theorem dX0_shrink_55 : decode cX0_shrink 55 = .ok (.invokestatic 80, 3) := by decide +kernel
theorem dX0_shrink_58 : decode cX0_shrink 58 = .ok (.invokevirtual 64, 3) := by decide +kernel
theorem dX0_shrink_61 : decode cX0_shrink 61 = .ok (.return_, 1) := by decide +kernel
theorem dX0_isWithinBounds_0 : decode cX0_isWithinBounds 0 = .ok (.aload_n 0, 1) := by decide +kernel
theorem dX0_isWithinBounds_1 : decode cX0_isWithinBounds 1 = .ok (.getfield 9, 3) := by decide +kernel
theorem dX0_isWithinBounds_4 : decode cX0_isWithinBounds 4 = .ok (.ldc2_w 83, 3) := by decide +kernel
theorem dX0_isWithinBounds_7 : decode cX0_isWithinBounds 7 = .ok (.invokestatic 85, 3) := by decide +kernel
theorem dX0_isWithinBounds_10 : decode cX0_isWithinBounds 10 = .ok (.ifCond .eq 72, 3) := by decide +kernel
theorem dX0_isWithinBounds_13 : decode cX0_isWithinBounds 13 = .ok (.aload_n 0, 1) := by decide +kernel
theorem dX0_isWithinBounds_14 : decode cX0_isWithinBounds 14 = .ok (.getfield 15, 3) := by decide +kernel
theorem dX0_isWithinBounds_17 : decode cX0_isWithinBounds 17 = .ok (.ldc2_w 83, 3) := by decide +kernel
theorem dX0_isWithinBounds_20 : decode cX0_isWithinBounds 20 = .ok (.invokestatic 85, 3) := by decide +kernel
theorem dX0_isWithinBounds_23 : decode cX0_isWithinBounds 23 = .ok (.ifCond .eq 59, 3) := by decide +kernel
theorem dX0_isWithinBounds_26 : decode cX0_isWithinBounds 26 = .ok (.aload_n 0, 1) := by decide +kernel
theorem dX0_isWithinBounds_27 : decode cX0_isWithinBounds 27 = .ok (.getfield 18, 3) := by decide +kernel
theorem dX0_isWithinBounds_30 : decode cX0_isWithinBounds 30 = .ok (.ldc2_w 83, 3) := by decide +kernel
theorem dX0_isWithinBounds_33 : decode cX0_isWithinBounds 33 = .ok (.invokestatic 85, 3) := by decide +kernel
theorem dX0_isWithinBounds_36 : decode cX0_isWithinBounds 36 = .ok (.ifCond .eq 46, 3) := by decide +kernel
theorem dX0_isWithinBounds_39 : decode cX0_isWithinBounds 39 = .ok (.aload_n 0, 1) := by decide +kernel
theorem dX0_isWithinBounds_40 : decode cX0_isWithinBounds 40 = .ok (.getfield 21, 3) := by decide +kernel
theorem dX0_isWithinBounds_43 : decode cX0_isWithinBounds 43 = .ok (.ldc2_w 83, 3) := by decide +kernel
theorem dX0_isWithinBounds_46 : decode cX0_isWithinBounds 46 = .ok (.invokestatic 85, 3) := by decide +kernel
theorem dX0_isWithinBounds_49 : decode cX0_isWithinBounds 49 = .ok (.ifCond .eq 33, 3) := by decide +kernel
theorem dX0_isWithinBounds_52 : decode cX0_isWithinBounds 52 = .ok (.aload_n 0, 1) := by decide +kernel
theorem dX0_isWithinBounds_53 : decode cX0_isWithinBounds 53 = .ok (.getfield 24, 3) := by decide +kernel
theorem dX0_isWithinBounds_56 : decode cX0_isWithinBounds 56 = .ok (.ldc2_w 83, 3) := by decide +kernel
theorem dX0_isWithinBounds_59 : decode cX0_isWithinBounds 59 = .ok (.invokestatic 85, 3) := by decide +kernel
theorem dX0_isWithinBounds_62 : decode cX0_isWithinBounds 62 = .ok (.ifCond .eq 20, 3) := by decide +kernel
theorem dX0_isWithinBounds_65 : decode cX0_isWithinBounds 65 = .ok (.aload_n 0, 1) := by decide +kernel
theorem dX0_isWithinBounds_66 : decode cX0_isWithinBounds 66 = .ok (.getfield 61, 3) := by decide +kernel
theorem dX0_isWithinBounds_69 : decode cX0_isWithinBounds 69 = .ok (.ldc2_w 89, 3) := by decide +kernel
theorem dX0_isWithinBounds_72 : decode cX0_isWithinBounds 72 = .ok (.invokestatic 85, 3) := by decide +kernel
theorem dX0_isWithinBounds_75 : decode cX0_isWithinBounds 75 = .ok (.ifCond .eq 7, 3) := by decide +kernel
theorem dX0_isWithinBounds_78 : decode cX0_isWithinBounds 78 = .ok (.iconst 1, 1) := by decide +kernel
theorem dX0_isWithinBounds_79 : decode cX0_isWithinBounds 79 = .ok (.goto 4, 3) := by decide +kernel
theorem dX0_isWithinBounds_82 : decode cX0_isWithinBounds 82 = .ok (.iconst 0, 1) := by decide +kernel
theorem dX0_isWithinBounds_83 : decode cX0_isWithinBounds 83 = .ok (.ireturn, 1) := by decide +kernel
theorem dX0_isSameAs_0 : decode cX0_isSameAs 0 = .ok (.aload_n 0, 1) := by decide +kernel
theorem dX0_isSameAs_1 : decode cX0_isSameAs 1 = .ok (.getfield 9, 3) := by decide +kernel
theorem dX0_isSameAs_4 : decode cX0_isSameAs 4 = .ok (.aload_n 1, 1) := by decide +kernel
theorem dX0_isSameAs_5 : decode cX0_isSameAs 5 = .ok (.getfield 9, 3) := by decide +kernel
theorem dX0_isSameAs_8 : decode cX0_isSameAs 8 = .ok (.lcmp, 1) := by decide +kernel
theorem dX0_isSameAs_9 : decode cX0_isSameAs 9 = .ok (.ifCond .ne 55, 3) := by decide +kernel
theorem dX0_isSameAs_12 : decode cX0_isSameAs 12 = .ok (.aload_n 0, 1) := by decide +kernel
theorem dX0_isSameAs_13 : decode cX0_isSameAs 13 = .ok (.getfield 15, 3) := by decide +kernel
theorem dX0_isSameAs_16 : decode cX0_isSameAs 16 = .ok (.aload_n 1, 1) := by decide +kernel
theorem dX0_isSameAs_17 : decode cX0_isSameAs 17 = .ok (.getfield 15, 3) := by decide +kernel
theorem dX0_isSameAs_20 : decode cX0_isSameAs 20 = .ok (.lcmp, 1) := by decide +kernel
theorem dX0_isSameAs_21 : decode cX0_isSameAs 21 = .ok (.ifCond .ne 43, 3) := by decide +kernel
theorem dX0_isSameAs_24 : decode cX0_isSameAs 24 = .ok (.aload_n 0, 1) := by decide +kernel
theorem dX0_isSameAs_25 : decode cX0_isSameAs 25 = .ok (.getfield 18, 3) := by decide +kernel
theorem dX0_isSameAs_28 : decode cX0_isSameAs 28 = .ok (.aload_n 1, 1) := by decide +kernel
theorem dX0_isSameAs_29 : decode cX0_isSameAs 29 = .ok (.getfield 18, 3) := by decide +kernel
theorem dX0_isSameAs_32 : decode cX0_isSameAs 32 = .ok (.lcmp, 1) := by decide +kernel
theorem dX0_isSameAs_33 : decode cX0_isSameAs 33 = .ok (.ifCond .ne 31, 3) := by decide +kernel
theorem dX0_isSameAs_36 : decode cX0_isSameAs 36 = .ok (.aload_n 0, 1) := by decide +kernel
theorem dX0_isSameAs_37 : decode cX0_isSameAs 37 = .ok (.getfield 21, 3) := by decide +kernel
theorem dX0_isSameAs_40 : decode cX0_isSameAs 40 = .ok (.aload_n 1, 1) := by decide +kernel
theorem dX0_isSameAs_41 : decode cX0_isSameAs 41 = .ok (.getfield 21, 3) := by decide +kernel
theorem dX0_isSameAs_44 : decode cX0_isSameAs 44 = .ok (.lcmp, 1) := by decide +kernel
theorem dX0_isSameAs_45 : decode cX0_isSameAs 45 = .ok (.ifCond .ne 19, 3) := by decide +kernel
theorem dX0_isSameAs_48 : decode cX0_isSameAs 48 = .ok (.aload_n 0, 1) := by decide +kernel
theorem dX0_isSameAs_49 : decode cX0_isSameAs 49 = .ok (.getfield 24, 3) := by decide +kernel
theorem dX0_isSameAs_52 : decode cX0_isSameAs 52 = .ok (.aload_n 1, 1) := by decide +kernel
theorem dX0_isSameAs_53 : decode cX0_isSameAs 53 = .ok (.getfield 24, 3) := by decide +kernel
theorem dX0_isSameAs_56 : decode cX0_isSameAs 56 = .ok (.lcmp, 1) := by decide +kernel
theorem dX0_isSameAs_57 : decode cX0_isSameAs 57 = .ok (.ifCond .ne 7, 3) := by decide +kernel
theorem dX0_isSameAs_60 : decode cX0_isSameAs 60 = .ok (.iconst 1, 1) := by decide +kernel
theorem dX0_isSameAs_61 : decode cX0_isSameAs 61 = .ok (.goto 4, 3) := by decide +kernel
theorem dX0_isSameAs_64 : decode cX0_isSameAs 64 = .ok (.iconst 0, 1) := by decide +kernel
theorem dX0_isSameAs_65 : decode cX0_isSameAs 65 = .ok (.ireturn, 1) := by decide +kernel
theorem dX0_slopeAt_0 : decode cX0_slopeAt 0 = .ok (.aload_n 0, 1) := by decide +kernel
theorem dX0_slopeAt_1 : decode cX0_slopeAt 1 = .ok (.getfield 9, 3) := by decide +kernel
theorem dX0_slopeAt_4 : decode cX0_slopeAt 4 = .ok (.lload_n 1, 1) := by decide +kernel
theorem dX0_slopeAt_5 : decode cX0_slopeAt 5 = .ok (.lmul, 1) := by decide +kernel
theorem dX0_slopeAt_6 : decode cX0_slopeAt 6 = .ok (.aload_n 0, 1) := by decide +kernel
theorem dX0_slopeAt_7 : decode cX0_slopeAt 7 = .ok (.getfield 18, 3) := by decide +kernel
theorem dX0_slopeAt_10 : decode cX0_slopeAt 10 = .ok (.ladd, 1) := by decide +kernel
theorem dX0_slopeAt_11 : decode cX0_slopeAt 11 = .ok (.lreturn, 1) := by decide +kernel
theorem dX0_rightAt_0 : decode cX0_rightAt 0 = .ok (.lload_n 1, 1) := by decide +kernel
theorem dX0_rightAt_1 : decode cX0_rightAt 1 = .ok (.aload_n 0, 1) := by decide +kernel
theorem dX0_rightAt_2 : decode cX0_rightAt 2 = .ok (.getfield 15, 3) := by decide +kernel
theorem dX0_rightAt_5 : decode cX0_rightAt 5 = .ok (.ladd, 1) := by decide +kernel
theorem dX0_rightAt_6 : decode cX0_rightAt 6 = .ok (.lload_n 1, 1) := by decide +kernel
theorem dX0_rightAt_7 : decode cX0_rightAt 7 = .ok (.lmul, 1) := by decide +kernel
theorem dX0_rightAt_8 : decode cX0_rightAt 8 = .ok (.aload_n 0, 1) := by decide +kernel
theorem dX0_rightAt_9 : decode cX0_rightAt 9 = .ok (.getfield 21, 3) := by decide +kernel
theorem dX0_rightAt_12 : decode cX0_rightAt 12 = .ok (.ladd, 1) := by decide +kernel
theorem dX0_rightAt_13 : decode cX0_rightAt 13 = .ok (.lload_n 1, 1) := by decide +kernel
theorem dX0_rightAt_14 : decode cX0_rightAt 14 = .ok (.lmul, 1) := by decide +kernel
theorem dX0_rightAt_15 : decode cX0_rightAt 15 = .ok (.aload_n 0, 1) := by decide +kernel
theorem dX0_rightAt_16 : decode cX0_rightAt 16 = .ok (.getfield 24, 3) := by decide +kernel
theorem dX0_rightAt_19 : decode cX0_rightAt 19 = .ok (.ladd, 1) := by decide +kernel
theorem dX0_rightAt_20 : decode cX0_rightAt 20 = .ok (.lreturn, 1) := by decide +kernel
theorem dX0_discriminantAt_0 : decode cX0_discriminantAt 0 = .ok (.aload_n 0, 1) := by decide +kernel
theorem dX0_discriminantAt_1 : decode cX0_discriminantAt 1 = .ok (.lload_n 1, 1) := by decide +kernel
theorem dX0_discriminantAt_2 : decode cX0_discriminantAt 2 = .ok (.invokevirtual 91, 3) := by decide +kernel
theorem dX0_discriminantAt_5 : decode cX0_discriminantAt 5 = .ok (.aload_n 0, 1) := by decide +kernel
theorem dX0_discriminantAt_6 : decode cX0_discriminantAt 6 = .ok (.lload_n 1, 1) := by decide +kernel
theorem dX0_discriminantAt_7 : decode cX0_discriminantAt 7 = .ok (.invokevirtual 91, 3) := by decide +kernel
theorem dX0_discriminantAt_10 : decode cX0_discriminantAt 10 = .ok (.lmul, 1) := by decide +kernel
theorem dX0_discriminantAt_11 : decode cX0_discriminantAt 11 = .ok (.ldc2_w 27, 3) := by decide +kernel
theorem dX0_discriminantAt_14 : decode cX0_discriminantAt 14 = .ok (.aload_n 0, 1) := by decide +kernel
theorem dX0_discriminantAt_15 : decode cX0_discriminantAt 15 = .ok (.lload_n 1, 1) := by decide +kernel
theorem dX0_discriminantAt_16 : decode cX0_discriminantAt 16 = .ok (.invokevirtual 95, 3) := by decide +kernel
theorem dX0_discriminantAt_19 : decode cX0_discriminantAt 19 = .ok (.lmul, 1) := by decide +kernel
theorem dX0_discriminantAt_20 : decode cX0_discriminantAt 20 = .ok (.ladd, 1) := by decide +kernel
theorem dX0_discriminantAt_21 : decode cX0_discriminantAt 21 = .ok (.lreturn, 1) := by decide +kernel
theorem dX0_value_0 : decode cX0_value 0 = .ok (.iload_n 1, 1) := by decide +kernel
theorem dX0_value_1 : decode cX0_value 1 = .ok (.tableswitch 114 0 10 #[59, 64, 69, 74, 79, 84, 89, 94, 99, 104, 109], 59) := by decide +kernel
theorem dX0_value_60 : decode cX0_value 60 = .ok (.aload_n 0, 1) := by decide +kernel
theorem dX0_value_61 : decode cX0_value 61 = .ok (.getfield 9, 3) := by decide +kernel
theorem dX0_value_64 : decode cX0_value 64 = .ok (.lreturn, 1) := by decide +kernel
theorem dX0_value_65 : decode cX0_value 65 = .ok (.aload_n 0, 1) := by decide +kernel
theorem dX0_value_66 : decode cX0_value 66 = .ok (.getfield 15, 3) := by decide +kernel
theorem dX0_value_69 : decode cX0_value 69 = .ok (.lreturn, 1) := by decide +kernel
theorem dX0_value_70 : decode cX0_value 70 = .ok (.aload_n 0, 1) := by decide +kernel
theorem dX0_value_71 : decode cX0_value 71 = .ok (.getfield 18, 3) := by decide +kernel
theorem dX0_value_74 : decode cX0_value 74 = .ok (.lreturn, 1) := by decide +kernel
theorem dX0_value_75 : decode cX0_value 75 = .ok (.aload_n 0, 1) := by decide +kernel
theorem dX0_value_76 : decode cX0_value 76 = .ok (.getfield 21, 3) := by decide +kernel
theorem dX0_value_79 : decode cX0_value 79 = .ok (.lreturn, 1) := by decide +kernel
theorem dX0_value_80 : decode cX0_value 80 = .ok (.aload_n 0, 1) := by decide +kernel
theorem dX0_value_81 : decode cX0_value 81 = .ok (.getfield 24, 3) := by decide +kernel
theorem dX0_value_84 : decode cX0_value 84 = .ok (.lreturn, 1) := by decide +kernel
theorem dX0_value_85 : decode cX0_value 85 = .ok (.aload_n 0, 1) := by decide +kernel
theorem dX0_value_86 : decode cX0_value 86 = .ok (.getfield 29, 3) := by decide +kernel
theorem dX0_value_89 : decode cX0_value 89 = .ok (.lreturn, 1) := by decide +kernel
theorem dX0_value_90 : decode cX0_value 90 = .ok (.aload_n 0, 1) := by decide +kernel
theorem dX0_value_91 : decode cX0_value 91 = .ok (.getfield 34, 3) := by decide +kernel
theorem dX0_value_94 : decode cX0_value 94 = .ok (.lreturn, 1) := by decide +kernel
theorem dX0_value_95 : decode cX0_value 95 = .ok (.aload_n 0, 1) := by decide +kernel
theorem dX0_value_96 : decode cX0_value 96 = .ok (.getfield 37, 3) := by decide +kernel
theorem dX0_value_99 : decode cX0_value 99 = .ok (.lreturn, 1) := by decide +kernel
theorem dX0_value_100 : decode cX0_value 100 = .ok (.aload_n 0, 1) := by decide +kernel
theorem dX0_value_101 : decode cX0_value 101 = .ok (.getfield 40, 3) := by decide +kernel
theorem dX0_value_104 : decode cX0_value 104 = .ok (.lreturn, 1) := by decide +kernel
theorem dX0_value_105 : decode cX0_value 105 = .ok (.aload_n 0, 1) := by decide +kernel
theorem dX0_value_106 : decode cX0_value 106 = .ok (.getfield 45, 3) := by decide +kernel
theorem dX0_value_109 : decode cX0_value 109 = .ok (.lreturn, 1) := by decide +kernel
theorem dX0_value_110 : decode cX0_value 110 = .ok (.aload_n 0, 1) := by decide +kernel
theorem dX0_value_111 : decode cX0_value 111 = .ok (.getfield 52, 3) := by decide +kernel
theorem dX0_value_114 : decode cX0_value 114 = .ok (.lreturn, 1) := by decide +kernel
theorem dX0_value_115 : decode cX0_value 115 = .ok (.aload_n 0, 1) := by decide +kernel
theorem dX0_value_116 : decode cX0_value 116 = .ok (.getfield 61, 3) := by decide +kernel
theorem dX0_value_119 : decode cX0_value 119 = .ok (.lreturn, 1) := by decide +kernel
theorem dX1_init_0 : decode cX1_init 0 = .ok (.aload_n 0, 1) := by decide +kernel
theorem dX1_init_1 : decode cX1_init 1 = .ok (.invokespecial 3, 3) := by decide +kernel
theorem dX1_init_4 : decode cX1_init 4 = .ok (.aload_n 0, 1) := by decide +kernel
theorem dX1_init_5 : decode cX1_init 5 = .ok (.iconst 0, 1) := by decide +kernel
theorem dX1_init_6 : decode cX1_init 6 = .ok (.putfield 9, 3) := by decide +kernel
theorem dX1_init_9 : decode cX1_init 9 = .ok (.aload_n 0, 1) := by decide +kernel
theorem dX1_init_10 : decode cX1_init 10 = .ok (.iconst 0, 1) := by decide +kernel
theorem dX1_init_11 : decode cX1_init 11 = .ok (.putfield 15, 3) := by decide +kernel
theorem dX1_init_14 : decode cX1_init 14 = .ok (.aload_n 0, 1) := by decide +kernel
theorem dX1_init_15 : decode cX1_init 15 = .ok (.iconst 0, 1) := by decide +kernel
theorem dX1_init_16 : decode cX1_init 16 = .ok (.putfield 18, 3) := by decide +kernel
theorem dX1_init_19 : decode cX1_init 19 = .ok (.aload_n 0, 1) := by decide +kernel
theorem dX1_init_20 : decode cX1_init 20 = .ok (.iconst 1, 1) := by decide +kernel
theorem dX1_init_21 : decode cX1_init 21 = .ok (.putfield 21, 3) := by decide +kernel
theorem dX1_init_24 : decode cX1_init 24 = .ok (.aload_n 0, 1) := by decide +kernel
theorem dX1_init_25 : decode cX1_init 25 = .ok (.iconst 1, 1) := by decide +kernel
theorem dX1_init_26 : decode cX1_init 26 = .ok (.putfield 24, 3) := by decide +kernel
theorem dX1_init_29 : decode cX1_init 29 = .ok (.aload_n 0, 1) := by decide +kernel
theorem dX1_init_30 : decode cX1_init 30 = .ok (.iconst 0, 1) := by decide +kernel
theorem dX1_init_31 : decode cX1_init 31 = .ok (.putfield 27, 3) := by decide +kernel
theorem dX1_init_34 : decode cX1_init 34 = .ok (.aload_n 0, 1) := by decide +kernel
theorem dX1_init_35 : decode cX1_init 35 = .ok (.iconst 0, 1) := by decide +kernel
theorem dX1_init_36 : decode cX1_init 36 = .ok (.putfield 30, 3) := by decide +kernel
theorem dX1_init_39 : decode cX1_init 39 = .ok (.aload_n 0, 1) := by decide +kernel
theorem dX1_init_40 : decode cX1_init 40 = .ok (.new 34, 3) := by decide +kernel
theorem dX1_init_43 : decode cX1_init 43 = .ok (.dup, 1) := by decide +kernel
theorem dX1_init_44 : decode cX1_init 44 = .ok (.invokespecial 36, 3) := by decide +kernel
theorem dX1_init_47 : decode cX1_init 47 = .ok (.putfield 37, 3) := by decide +kernel
theorem dX1_init_50 : decode cX1_init 50 = .ok (.aload_n 0, 1) := by decide +kernel
theorem dX1_init_51 : decode cX1_init 51 = .ok (.iconst 2, 1) := by decide +kernel
theorem dX1_init_52 : decode cX1_init 52 = .ok (.putfield 41, 3) := by decide +kernel
theorem dX1_init_55 : decode cX1_init 55 = .ok (.return_, 1) := by decide +kernel
theorem dX1_value_0 : decode cX1_value 0 = .ok (.iload_n 1, 1) := by decide +kernel
theorem dX1_value_1 : decode cX1_value 1 = .ok (.tableswitch 69 0 5 #[39, 44, 49, 54, 59, 64], 39) := by decide +kernel
theorem dX1_value_40 : decode cX1_value 40 = .ok (.aload_n 0, 1) := by decide +kernel
theorem dX1_value_41 : decode cX1_value 41 = .ok (.getfield 9, 3) := by decide +kernel
theorem dX1_value_44 : decode cX1_value 44 = .ok (.ireturn, 1) := by decide +kernel
theorem dX1_value_45 : decode cX1_value 45 = .ok (.aload_n 0, 1) := by decide +kernel
theorem dX1_value_46 : decode cX1_value 46 = .ok (.getfield 15, 3) := by decide +kernel
theorem dX1_value_49 : decode cX1_value 49 = .ok (.ireturn, 1) := by decide +kernel
theorem dX1_value_50 : decode cX1_value 50 = .ok (.aload_n 0, 1) := by decide +kernel
theorem dX1_value_51 : decode cX1_value 51 = .ok (.getfield 18, 3) := by decide +kernel
theorem dX1_value_54 : decode cX1_value 54 = .ok (.ireturn, 1) := by decide +kernel
theorem dX1_value_55 : decode cX1_value 55 = .ok (.aload_n 0, 1) := by decide +kernel
theorem dX1_value_56 : decode cX1_value 56 = .ok (.getfield 21, 3) := by decide +kernel
theorem dX1_value_59 : decode cX1_value 59 = .ok (.ireturn, 1) := by decide +kernel
theorem dX1_value_60 : decode cX1_value 60 = .ok (.aload_n 0, 1) := by decide +kernel
theorem dX1_value_61 : decode cX1_value 61 = .ok (.getfield 24, 3) := by decide +kernel
theorem dX1_value_64 : decode cX1_value 64 = .ok (.ireturn, 1) := by decide +kernel
theorem dX1_value_65 : decode cX1_value 65 = .ok (.aload_n 0, 1) := by decide +kernel
theorem dX1_value_66 : decode cX1_value 66 = .ok (.getfield 27, 3) := by decide +kernel
theorem dX1_value_69 : decode cX1_value 69 = .ok (.ireturn, 1) := by decide +kernel
theorem dX1_value_70 : decode cX1_value 70 = .ok (.aload_n 0, 1) := by decide +kernel
theorem dX1_value_71 : decode cX1_value 71 = .ok (.getfield 30, 3) := by decide +kernel
theorem dX1_value_74 : decode cX1_value 74 = .ok (.ifCond .eq 7, 3) := by decide +kernel
theorem dX1_value_77 : decode cX1_value 77 = .ok (.iconst 1, 1) := by decide +kernel
theorem dX1_value_78 : decode cX1_value 78 = .ok (.goto 4, 3) := by decide +kernel
theorem dX1_value_81 : decode cX1_value 81 = .ok (.iconst 0, 1) := by decide +kernel
theorem dX1_value_82 : decode cX1_value 82 = .ok (.ireturn, 1) := by decide +kernel
theorem dX1_reckon_0 : decode cX1_reckon 0 = .ok (.aload_n 0, 1) := by decide +kernel
theorem dX1_reckon_1 : decode cX1_reckon 1 = .ok (.iload_n 2, 1) := by decide +kernel
theorem dX1_reckon_2 : decode cX1_reckon 2 = .ok (.putfield 41, 3) := by decide +kernel
theorem dX1_reckon_5 : decode cX1_reckon 5 = .ok (.aload_n 0, 1) := by decide +kernel
theorem dX1_reckon_6 : decode cX1_reckon 6 = .ok (.aload_n 1, 1) := by decide +kernel
theorem dX1_reckon_7 : decode cX1_reckon 7 = .ok (.getfield 44, 3) := by decide +kernel
theorem dX1_reckon_10 : decode cX1_reckon 10 = .ok (.aload_n 0, 1) := by decide +kernel
theorem dX1_reckon_11 : decode cX1_reckon 11 = .ok (.getfield 41, 3) := by decide +kernel
theorem dX1_reckon_14 : decode cX1_reckon 14 = .ok (.i2l, 1) := by decide +kernel
theorem dX1_reckon_15 : decode cX1_reckon 15 = .ok (.invokestatic 48, 3) := by decide +kernel
theorem dX1_reckon_18 : decode cX1_reckon 18 = .ok (.putfield 27, 3) := by decide +kernel
theorem dX1_reckon_21 : decode cX1_reckon 21 = .ok (.aload_n 0, 1) := by decide +kernel
theorem dX1_reckon_22 : decode cX1_reckon 22 = .ok (.iconst 0, 1) := by decide +kernel
theorem dX1_reckon_23 : decode cX1_reckon 23 = .ok (.putfield 30, 3) := by decide +kernel
theorem dX1_reckon_26 : decode cX1_reckon 26 = .ok (.aload_n 0, 1) := by decide +kernel
theorem dX1_reckon_27 : decode cX1_reckon 27 = .ok (.getfield 27, 3) := by decide +kernel
theorem dX1_reckon_30 : decode cX1_reckon 30 = .ok (.ifCond .ne 12, 3) := by decide +kernel
theorem dX1_reckon_33 : decode cX1_reckon 33 = .ok (.aload_n 0, 1) := by decide +kernel
theorem dX1_reckon_34 : decode cX1_reckon 34 = .ok (.iconst 0, 1) := by decide +kernel
theorem dX1_reckon_35 : decode cX1_reckon 35 = .ok (.iconst 0, 1) := by decide +kernel
theorem dX1_reckon_36 : decode cX1_reckon 36 = .ok (.iconst 1, 1) := by decide +kernel
theorem dX1_reckon_37 : decode cX1_reckon 37 = .ok (.iconst 1, 1) := by decide +kernel
theorem dX1_reckon_38 : decode cX1_reckon 38 = .ok (.invokevirtual 53, 3) := by decide +kernel
theorem dX1_reckon_41 : decode cX1_reckon 41 = .ok (.return_, 1) := by decide +kernel
theorem dX1_reckon_42 : decode cX1_reckon 42 = .ok (.aload_n 1, 1) := by decide +kernel
theorem dX1_reckon_43 : decode cX1_reckon 43 = .ok (.getfield 57, 3) := by decide +kernel
theorem dX1_reckon_46 : decode cX1_reckon 46 = .ok (.aload_n 0, 1) := by decide +kernel
theorem dX1_reckon_47 : decode cX1_reckon 47 = .ok (.getfield 41, 3) := by decide +kernel
theorem dX1_reckon_50 : decode cX1_reckon 50 = .ok (.i2l, 1) := by decide +kernel
theorem dX1_reckon_51 : decode cX1_reckon 51 = .ok (.invokestatic 60, 3) := by decide +kernel
theorem dX1_reckon_54 : decode cX1_reckon 54 = .ok (.lconst 0, 1) := by decide +kernel
theorem dX1_reckon_55 : decode cX1_reckon 55 = .ok (.lcmp, 1) := by decide +kernel
theorem dX1_reckon_56 : decode cX1_reckon 56 = .ok (.ifCond .eq 9, 3) := by decide +kernel
theorem dX1_reckon_59 : decode cX1_reckon 59 = .ok (.aload_n 0, 1) := by decide +kernel
theorem dX1_reckon_60 : decode cX1_reckon 60 = .ok (.aload_n 1, 1) := by decide +kernel
theorem dX1_reckon_61 : decode cX1_reckon 61 = .ok (.invokevirtual 64, 3) := by decide +kernel
theorem dX1_reckon_64 : decode cX1_reckon 64 = .ok (.return_, 1) := by decide +kernel
theorem dX1_reckon_65 : decode cX1_reckon 65 = .ok (.aload_n 0, 1) := by decide +kernel
theorem dX1_reckon_66 : decode cX1_reckon 66 = .ok (.getfield 37, 3) := by decide +kernel
theorem dX1_reckon_69 : decode cX1_reckon 69 = .ok (.aload_n 1, 1) := by decide +kernel
theorem dX1_reckon_70 : decode cX1_reckon 70 = .ok (.invokevirtual 68, 3) := by decide +kernel
theorem dX1_reckon_73 : decode cX1_reckon 73 = .ok (.aload_n 0, 1) := by decide +kernel
theorem dX1_reckon_74 : decode cX1_reckon 74 = .ok (.invokevirtual 71, 3) := by decide +kernel
theorem dX1_reckon_77 : decode cX1_reckon 77 = .ok (.aload_n 0, 1) := by decide +kernel
theorem dX1_reckon_78 : decode cX1_reckon 78 = .ok (.invokevirtual 74, 3) := by decide +kernel
theorem dX1_reckon_81 : decode cX1_reckon 81 = .ok (.ifCond .eq 4, 3) := by decide +kernel
theorem dX1_reckon_84 : decode cX1_reckon 84 = .ok (.return_, 1) := by decide +kernel
theorem dX1_reckon_85 : decode cX1_reckon 85 = .ok (.aload_n 0, 1) := by decide +kernel
theorem dX1_reckon_86 : decode cX1_reckon 86 = .ok (.invokevirtual 78, 3) := by decide +kernel
theorem dX1_reckon_89 : decode cX1_reckon 89 = .ok (.aload_n 0, 1) := by decide +kernel
theorem dX1_reckon_90 : decode cX1_reckon 90 = .ok (.aload_n 0, 1) := by decide +kernel
theorem dX1_reckon_91 : decode cX1_reckon 91 = .ok (.getfield 37, 3) := by decide +kernel
theorem dX1_reckon_94 : decode cX1_reckon 94 = .ok (.getfield 81, 3) := by decide +kernel
theorem dX1_reckon_97 : decode cX1_reckon 97 = .ok (.iconst 1, 1) := by decide +kernel
theorem dX1_reckon_98 : decode cX1_reckon 98 = .ok (.invokevirtual 84, 3) := by decide +kernel
theorem dX1_reckon_101 : decode cX1_reckon 101 = .ok (.aload_n 0, 1) := by decide +kernel
theorem dX1_reckon_102 : decode cX1_reckon 102 = .ok (.getfield 41, 3) := by decide +kernel
theorem dX1_reckon_105 : decode cX1_reckon 105 = .ok (.i2l, 1) := by decide +kernel
theorem dX1_reckon_106 : decode cX1_reckon 106 = .ok (.invokestatic 60, 3) := by decide +kernel
theorem dX1_reckon_109 : decode cX1_reckon 109 = .ok (.lstore_n 3, 1) := by decide +kernel
theorem dX1_reckon_110 : decode cX1_reckon 110 = .ok (.aload_n 0, 1) := by decide +kernel
theorem dX1_reckon_111 : decode cX1_reckon 111 = .ok (.aload_n 0, 1) := by decide +kernel
theorem dX1_reckon_112 : decode cX1_reckon 112 = .ok (.getfield 37, 3) := by decide +kernel
theorem dX1_reckon_115 : decode cX1_reckon 115 = .ok (.getfield 88, 3) := by decide +kernel
theorem dX1_reckon_118 : decode cX1_reckon 118 = .ok (.iconst 2, 1) := by decide +kernel
theorem dX1_reckon_119 : decode cX1_reckon 119 = .ok (.invokevirtual 84, 3) := by decide +kernel
theorem dX1_reckon_122 : decode cX1_reckon 122 = .ok (.aload_n 0, 1) := by decide +kernel
theorem dX1_reckon_123 : decode cX1_reckon 123 = .ok (.getfield 41, 3) := by decide +kernel
theorem dX1_reckon_126 : decode cX1_reckon 126 = .ok (.i2l, 1) := by decide +kernel
theorem dX1_reckon_127 : decode cX1_reckon 127 = .ok (.invokestatic 60, 3) := by decide +kernel
theorem dX1_reckon_130 : decode cX1_reckon 130 = .ok (.lstore 5, 2) := by decide +kernel
theorem dX1_reckon_132 : decode cX1_reckon 132 = .ok (.aload_n 0, 1) := by decide +kernel
theorem dX1_reckon_133 : decode cX1_reckon 133 = .ok (.aload_n 0, 1) := by decide +kernel
theorem dX1_reckon_134 : decode cX1_reckon 134 = .ok (.getfield 37, 3) := by decide +kernel
theorem dX1_reckon_137 : decode cX1_reckon 137 = .ok (.getfield 91, 3) := by decide +kernel
theorem dX1_reckon_140 : decode cX1_reckon 140 = .ok (.iconst 3, 1) := by decide +kernel
theorem dX1_reckon_141 : decode cX1_reckon 141 = .ok (.invokevirtual 84, 3) := by decide +kernel
theorem dX1_reckon_144 : decode cX1_reckon 144 = .ok (.aload_n 0, 1) := by decide +kernel
theorem dX1_reckon_145 : decode cX1_reckon 145 = .ok (.getfield 41, 3) := by decide +kernel
theorem dX1_reckon_148 : decode cX1_reckon 148 = .ok (.i2l, 1) := by decide +kernel
theorem dX1_reckon_149 : decode cX1_reckon 149 = .ok (.invokestatic 60, 3) := by decide +kernel
theorem dX1_reckon_152 : decode cX1_reckon 152 = .ok (.lstore 7, 2) := by decide +kernel
theorem dX1_reckon_154 : decode cX1_reckon 154 = .ok (.ldc2_w 94, 3) := by decide +kernel
theorem dX1_reckon_157 : decode cX1_reckon 157 = .ok (.lload_n 3, 1) := by decide +kernel
theorem dX1_reckon_158 : decode cX1_reckon 158 = .ok (.lmul, 1) := by decide +kernel
theorem dX1_reckon_159 : decode cX1_reckon 159 = .ok (.lload 5, 2) := by decide +kernel
theorem dX1_reckon_161 : decode cX1_reckon 161 = .ok (.lmul, 1) := by decide +kernel
theorem dX1_reckon_162 : decode cX1_reckon 162 = .ok (.lload 7, 2) := by decide +kernel
theorem dX1_reckon_164 : decode cX1_reckon 164 = .ok (.lmul, 1) := by decide +kernel
theorem dX1_reckon_165 : decode cX1_reckon 165 = .ok (.lload_n 3, 1) := by decide +kernel
theorem dX1_reckon_166 : decode cX1_reckon 166 = .ok (.lload_n 3, 1) := by decide +kernel
theorem dX1_reckon_167 : decode cX1_reckon 167 = .ok (.lmul, 1) := by decide +kernel
theorem dX1_reckon_168 : decode cX1_reckon 168 = .ok (.lload 5, 2) := by decide +kernel
theorem dX1_reckon_170 : decode cX1_reckon 170 = .ok (.lmul, 1) := by decide +kernel
theorem dX1_reckon_171 : decode cX1_reckon 171 = .ok (.lload 5, 2) := by decide +kernel
theorem dX1_reckon_173 : decode cX1_reckon 173 = .ok (.lmul, 1) := by decide +kernel
theorem dX1_reckon_174 : decode cX1_reckon 174 = .ok (.ladd, 1) := by decide +kernel
theorem dX1_reckon_175 : decode cX1_reckon 175 = .ok (.ldc2_w 96, 3) := by decide +kernel
theorem dX1_reckon_178 : decode cX1_reckon 178 = .ok (.lload_n 3, 1) := by decide +kernel
theorem dX1_reckon_179 : decode cX1_reckon 179 = .ok (.lmul, 1) := by decide +kernel
theorem dX1_reckon_180 : decode cX1_reckon 180 = .ok (.lload_n 3, 1) := by decide +kernel
theorem dX1_reckon_181 : decode cX1_reckon 181 = .ok (.lmul, 1) := by decide +kernel
theorem dX1_reckon_182 : decode cX1_reckon 182 = .ok (.lload_n 3, 1) := by decide +kernel
theorem dX1_reckon_183 : decode cX1_reckon 183 = .ok (.lmul, 1) := by decide +kernel
theorem dX1_reckon_184 : decode cX1_reckon 184 = .ok (.lload 7, 2) := by decide +kernel
theorem dX1_reckon_186 : decode cX1_reckon 186 = .ok (.lmul, 1) := by decide +kernel
theorem dX1_reckon_187 : decode cX1_reckon 187 = .ok (.lsub, 1) := by decide +kernel
theorem dX1_reckon_188 : decode cX1_reckon 188 = .ok (.ldc2_w 96, 3) := by decide +kernel
theorem dX1_reckon_191 : decode cX1_reckon 191 = .ok (.lload 5, 2) := by decide +kernel
theorem dX1_reckon_193 : decode cX1_reckon 193 = .ok (.lmul, 1) := by decide +kernel
theorem dX1_reckon_194 : decode cX1_reckon 194 = .ok (.lload 5, 2) := by decide +kernel
theorem dX1_reckon_196 : decode cX1_reckon 196 = .ok (.lmul, 1) := by decide +kernel
theorem dX1_reckon_197 : decode cX1_reckon 197 = .ok (.lload 5, 2) := by decide +kernel
theorem dX1_reckon_199 : decode cX1_reckon 199 = .ok (.lmul, 1) := by decide +kernel
theorem dX1_reckon_200 : decode cX1_reckon 200 = .ok (.lsub, 1) := by decide +kernel
theorem dX1_reckon_201 : decode cX1_reckon 201 = .ok (.ldc2_w 98, 3) := by decide +kernel
theorem dX1_reckon_204 : decode cX1_reckon 204 = .ok (.lload 7, 2) := by decide +kernel
theorem dX1_reckon_206 : decode cX1_reckon 206 = .ok (.lmul, 1) := by decide +kernel
theorem dX1_reckon_207 : decode cX1_reckon 207 = .ok (.lload 7, 2) := by decide +kernel
theorem dX1_reckon_209 : decode cX1_reckon 209 = .ok (.lmul, 1) := by decide +kernel
theorem dX1_reckon_210 : decode cX1_reckon 210 = .ok (.lsub, 1) := by decide +kernel
theorem dX1_reckon_211 : decode cX1_reckon 211 = .ok (.aload_n 0, 1) := by decide +kernel
theorem dX1_reckon_212 : decode cX1_reckon 212 = .ok (.getfield 41, 3) := by decide +kernel
theorem dX1_reckon_215 : decode cX1_reckon 215 = .ok (.i2l, 1) := by decide +kernel
theorem dX1_reckon_216 : decode cX1_reckon 216 = .ok (.invokestatic 60, 3) := by decide +kernel
theorem dX1_reckon_219 : decode cX1_reckon 219 = .ok (.lconst 0, 1) := by decide +kernel
theorem dX1_reckon_220 : decode cX1_reckon 220 = .ok (.lcmp, 1) := by decide +kernel
theorem dX1_reckon_221 : decode cX1_reckon 221 = .ok (.ifCond .eq 27, 3) := by decide +kernel
theorem dX1_reckon_224 : decode cX1_reckon 224 = .ok (.aload_n 0, 1) := by decide +kernel
theorem dX1_reckon_225 : decode cX1_reckon 225 = .ok (.iconst 5, 1) := by decide +kernel
theorem dX1_reckon_226 : decode cX1_reckon 226 = .ok (.aload_n 0, 1) := by decide +kernel
theorem dX1_reckon_227 : decode cX1_reckon 227 = .ok (.getfield 27, 3) := by decide +kernel
theorem dX1_reckon_230 : decode cX1_reckon 230 = .ok (.iconst 4, 1) := by decide +kernel
theorem dX1_reckon_231 : decode cX1_reckon 231 = .ok (.isub, 1) := by decide +kernel
theorem dX1_reckon_232 : decode cX1_reckon 232 = .ok (.iconst 5, 1) := by decide +kernel
theorem dX1_reckon_233 : decode cX1_reckon 233 = .ok (.iconst 1, 1) := by decide +kernel
theorem dX1_reckon_234 : decode cX1_reckon 234 = .ok (.aload_n 0, 1) := by decide +kernel
theorem dX1_reckon_235 : decode cX1_reckon 235 = .ok (.lload_n 3, 1) := by decide +kernel
theorem dX1_reckon_236 : decode cX1_reckon 236 = .ok (.lload 5, 2) := by decide +kernel
theorem dX1_reckon_238 : decode cX1_reckon 238 = .ok (.lload 7, 2) := by decide +kernel
theorem dX1_reckon_240 : decode cX1_reckon 240 = .ok (.invokevirtual 100, 3) := by decide +kernel
theorem dX1_reckon_243 : decode cX1_reckon 243 = .ok (.iadd, 1) := by decide +kernel
theorem dX1_reckon_244 : decode cX1_reckon 244 = .ok (.invokevirtual 53, 3) := by decide +kernel
theorem dX1_reckon_247 : decode cX1_reckon 247 = .ok (.return_, 1) := by decide +kernel
theorem dX1_reckon_248 : decode cX1_reckon 248 = .ok (.aload_n 0, 1) := by decide +kernel
theorem dX1_reckon_249 : decode cX1_reckon 249 = .ok (.getfield 37, 3) := by decide +kernel
theorem dX1_reckon_252 : decode cX1_reckon 252 = .ok (.aload_n 0, 1) := by decide +kernel
theorem dX1_reckon_253 : decode cX1_reckon 253 = .ok (.getfield 41, 3) := by decide +kernel
theorem dX1_reckon_256 : decode cX1_reckon 256 = .ok (.i2l, 1) := by decide +kernel
theorem dX1_reckon_257 : decode cX1_reckon 257 = .ok (.aload_n 0, 1) := by decide +kernel
theorem dX1_reckon_258 : decode cX1_reckon 258 = .ok (.lload_n 3, 1) := by decide +kernel
theorem dX1_reckon_259 : decode cX1_reckon 259 = .ok (.lload 5, 2) := by decide +kernel
theorem dX1_reckon_261 : decode cX1_reckon 261 = .ok (.lload 7, 2) := by decide +kernel
theorem dX1_reckon_263 : decode cX1_reckon 263 = .ok (.invokevirtual 104, 3) := by decide +kernel
theorem dX1_reckon_266 : decode cX1_reckon 266 = .ok (.lmul, 1) := by decide +kernel
theorem dX1_reckon_267 : decode cX1_reckon 267 = .ok (.lconst 0, 1) := by decide +kernel
theorem dX1_reckon_268 : decode cX1_reckon 268 = .ok (.lconst 0, 1) := by decide +kernel
theorem dX1_reckon_269 : decode cX1_reckon 269 = .ok (.invokevirtual 108, 3) := by decide +kernel
theorem dX1_reckon_272 : decode cX1_reckon 272 = .ok (.lload_n 3, 1) := by decide +kernel
theorem dX1_reckon_273 : decode cX1_reckon 273 = .ok (.lload_n 3, 1) := by decide +kernel
theorem dX1_reckon_274 : decode cX1_reckon 274 = .ok (.lmul, 1) := by decide +kernel
theorem dX1_reckon_275 : decode cX1_reckon 275 = .ok (.ldc2_w 112, 3) := by decide +kernel
theorem dX1_reckon_278 : decode cX1_reckon 278 = .ok (.lload 5, 2) := by decide +kernel
theorem dX1_reckon_280 : decode cX1_reckon 280 = .ok (.lmul, 1) := by decide +kernel
theorem dX1_reckon_281 : decode cX1_reckon 281 = .ok (.lsub, 1) := by decide +kernel
theorem dX1_reckon_282 : decode cX1_reckon 282 = .ok (.aload_n 0, 1) := by decide +kernel
theorem dX1_reckon_283 : decode cX1_reckon 283 = .ok (.getfield 41, 3) := by decide +kernel
theorem dX1_reckon_286 : decode cX1_reckon 286 = .ok (.i2l, 1) := by decide +kernel
theorem dX1_reckon_287 : decode cX1_reckon 287 = .ok (.invokestatic 60, 3) := by decide +kernel
theorem dX1_reckon_290 : decode cX1_reckon 290 = .ok (.lconst 0, 1) := by decide +kernel
theorem dX1_reckon_291 : decode cX1_reckon 291 = .ok (.lcmp, 1) := by decide +kernel
theorem dX1_reckon_292 : decode cX1_reckon 292 = .ok (.ifCond .eq 10, 3) := by decide +kernel
theorem dX1_reckon_295 : decode cX1_reckon 295 = .ok (.aload_n 0, 1) := by decide +kernel
theorem dX1_reckon_296 : decode cX1_reckon 296 = .ok (.invokevirtual 114, 3) := by decide +kernel
theorem dX1_reckon_299 : decode cX1_reckon 299 = .ok (.goto 7, 3) := by decide +kernel
theorem dX1_reckon_302 : decode cX1_reckon 302 = .ok (.aload_n 0, 1) := by decide +kernel
theorem dX1_reckon_303 : decode cX1_reckon 303 = .ok (.invokevirtual 117, 3) := by decide +kernel
theorem dX1_reckon_306 : decode cX1_reckon 306 = .ok (.return_, 1) := by decide +kernel
theorem dX1_tell_0 : decode cX1_tell 0 = .ok (.aload_n 0, 1) := by decide +kernel
theorem dX1_tell_1 : decode cX1_tell 1 = .ok (.iload_n 1, 1) := by decide +kernel
theorem dX1_tell_2 : decode cX1_tell 2 = .ok (.putfield 9, 3) := by decide +kernel
theorem dX1_tell_5 : decode cX1_tell 5 = .ok (.aload_n 0, 1) := by decide +kernel
theorem dX1_tell_6 : decode cX1_tell 6 = .ok (.iconst 0, 1) := by decide +kernel
theorem dX1_tell_7 : decode cX1_tell 7 = .ok (.putfield 15, 3) := by decide +kernel
theorem dX1_tell_10 : decode cX1_tell 10 = .ok (.aload_n 0, 1) := by decide +kernel
theorem dX1_tell_11 : decode cX1_tell 11 = .ok (.iload_n 2, 1) := by decide +kernel
theorem dX1_tell_12 : decode cX1_tell 12 = .ok (.putfield 18, 3) := by decide +kernel
theorem dX1_tell_15 : decode cX1_tell 15 = .ok (.aload_n 0, 1) := by decide +kernel
theorem dX1_tell_16 : decode cX1_tell 16 = .ok (.iload_n 3, 1) := by decide +kernel
theorem dX1_tell_17 : decode cX1_tell 17 = .ok (.putfield 21, 3) := by decide +kernel
theorem dX1_tell_20 : decode cX1_tell 20 = .ok (.aload_n 0, 1) := by decide +kernel
theorem dX1_tell_21 : decode cX1_tell 21 = .ok (.iload 4, 2) := by decide +kernel
theorem dX1_tell_23 : decode cX1_tell 23 = .ok (.putfield 24, 3) := by decide +kernel
theorem dX1_tell_26 : decode cX1_tell 26 = .ok (.return_, 1) := by decide +kernel
theorem dX1_tellNode_0 : decode cX1_tellNode 0 = .ok (.aload_n 0, 1) := by decide +kernel
theorem dX1_tellNode_1 : decode cX1_tellNode 1 = .ok (.aload_n 0, 1) := by decide +kernel
theorem dX1_tellNode_2 : decode cX1_tellNode 2 = .ok (.getfield 41, 3) := by decide +kernel
theorem dX1_tellNode_5 : decode cX1_tellNode 5 = .ok (.iconst 2, 1) := by decide +kernel
theorem dX1_tellNode_6 : decode cX1_tellNode 6 = .ok (.if_icmp .ne 31, 3) := by decide +kernel
theorem dX1_tellNode_9 : decode cX1_tellNode 9 = .ok (.aload_n 1, 1) := by decide +kernel
theorem dX1_tellNode_10 : decode cX1_tellNode 10 = .ok (.getfield 81, 3) := by decide +kernel
theorem dX1_tellNode_13 : decode cX1_tellNode 13 = .ok (.aload_n 1, 1) := by decide +kernel
theorem dX1_tellNode_14 : decode cX1_tellNode 14 = .ok (.getfield 120, 3) := by decide +kernel
theorem dX1_tellNode_17 : decode cX1_tellNode 17 = .ok (.ladd, 1) := by decide +kernel
theorem dX1_tellNode_18 : decode cX1_tellNode 18 = .ok (.ldc2_w 123, 3) := by decide +kernel
theorem dX1_tellNode_21 : decode cX1_tellNode 21 = .ok (.invokestatic 60, 3) := by decide +kernel
theorem dX1_tellNode_24 : decode cX1_tellNode 24 = .ok (.lconst 0, 1) := by decide +kernel
theorem dX1_tellNode_25 : decode cX1_tellNode 25 = .ok (.lcmp, 1) := by decide +kernel
theorem dX1_tellNode_26 : decode cX1_tellNode 26 = .ok (.ifCond .ne 7, 3) := by decide +kernel
theorem dX1_tellNode_29 : decode cX1_tellNode 29 = .ok (.iconst 1, 1) := by decide +kernel
theorem dX1_tellNode_30 : decode cX1_tellNode 30 = .ok (.goto 20, 3) := by decide +kernel
theorem dX1_tellNode_33 : decode cX1_tellNode 33 = .ok (.iconst 0, 1) := by decide +kernel
theorem dX1_tellNode_34 : decode cX1_tellNode 34 = .ok (.goto 16, 3) := by decide +kernel
theorem dX1_tellNode_37 : decode cX1_tellNode 37 = .ok (.aload_n 1, 1) := by decide +kernel
theorem dX1_tellNode_38 : decode cX1_tellNode 38 = .ok (.getfield 125, 3) := by decide +kernel
theorem dX1_tellNode_41 : decode cX1_tellNode 41 = .ok (.lneg, 1) := by decide +kernel
theorem dX1_tellNode_42 : decode cX1_tellNode 42 = .ok (.aload_n 0, 1) := by decide +kernel
theorem dX1_tellNode_43 : decode cX1_tellNode 43 = .ok (.getfield 41, 3) := by decide +kernel
theorem dX1_tellNode_46 : decode cX1_tellNode 46 = .ok (.i2l, 1) := by decide +kernel
theorem dX1_tellNode_47 : decode cX1_tellNode 47 = .ok (.invokestatic 128, 3) := by decide +kernel
theorem dX1_tellNode_50 : decode cX1_tellNode 50 = .ok (.putfield 30, 3) := by decide +kernel
theorem dX1_tellNode_53 : decode cX1_tellNode 53 = .ok (.aload_n 0, 1) := by decide +kernel
theorem dX1_tellNode_54 : decode cX1_tellNode 54 = .ok (.getfield 27, 3) := by decide +kernel
theorem dX1_tellNode_57 : decode cX1_tellNode 57 = .ok (.iconst 1, 1) := by decide +kernel
theorem dX1_tellNode_58 : decode cX1_tellNode 58 = .ok (.iand, 1) := by decide +kernel
theorem dX1_tellNode_59 : decode cX1_tellNode 59 = .ok (.ifCond .ne 7, 3) := by decide +kernel
theorem dX1_tellNode_62 : decode cX1_tellNode 62 = .ok (.iconst 2, 1) := by decide +kernel
theorem dX1_tellNode_63 : decode cX1_tellNode 63 = .ok (.goto 4, 3) := by decide +kernel
theorem dX1_tellNode_66 : decode cX1_tellNode 66 = .ok (.iconst 1, 1) := by decide +kernel
theorem dX1_tellNode_67 : decode cX1_tellNode 67 = .ok (.istore_n 2, 1) := by decide +kernel
theorem dX1_tellNode_68 : decode cX1_tellNode 68 = .ok (.aload_n 0, 1) := by decide +kernel
theorem dX1_tellNode_69 : decode cX1_tellNode 69 = .ok (.iconst 1, 1) := by decide +kernel
theorem dX1_tellNode_70 : decode cX1_tellNode 70 = .ok (.iconst 1, 1) := by decide +kernel
theorem dX1_tellNode_71 : decode cX1_tellNode 71 = .ok (.aload_n 0, 1) := by decide +kernel
theorem dX1_tellNode_72 : decode cX1_tellNode 72 = .ok (.getfield 27, 3) := by decide +kernel
theorem dX1_tellNode_75 : decode cX1_tellNode 75 = .ok (.aload_n 0, 1) := by decide +kernel
theorem dX1_tellNode_76 : decode cX1_tellNode 76 = .ok (.getfield 30, 3) := by decide +kernel
theorem dX1_tellNode_79 : decode cX1_tellNode 79 = .ok (.ifCond .eq 10, 3) := by decide +kernel
theorem dX1_tellNode_82 : decode cX1_tellNode 82 = .ok (.aload_n 0, 1) := by decide +kernel
theorem dX1_tellNode_83 : decode cX1_tellNode 83 = .ok (.getfield 27, 3) := by decide +kernel
theorem dX1_tellNode_86 : decode cX1_tellNode 86 = .ok (.goto 4, 3) := by decide +kernel
theorem dX1_tellNode_89 : decode cX1_tellNode 89 = .ok (.iload_n 2, 1) := by decide +kernel
theorem dX1_tellNode_90 : decode cX1_tellNode 90 = .ok (.invokevirtual 53, 3) := by decide +kernel
theorem dX1_tellNode_93 : decode cX1_tellNode 93 = .ok (.aload_n 0, 1) := by decide +kernel
theorem dX1_tellNode_94 : decode cX1_tellNode 94 = .ok (.aload_n 0, 1) := by decide +kernel
theorem dX1_tellNode_95 : decode cX1_tellNode 95 = .ok (.getfield 27, 3) := by decide +kernel
theorem dX1_tellNode_98 : decode cX1_tellNode 98 = .ok (.putfield 15, 3) := by decide +kernel
theorem dX1_tellNode_101 : decode cX1_tellNode 101 = .ok (.return_, 1) := by decide +kernel
theorem dX1_moveSingularPoint_0 : decode cX1_moveSingularPoint 0 = .ok (.aload_n 0, 1) := by decide +kernel
theorem dX1_moveSingularPoint_1 : decode cX1_moveSingularPoint 1 = .ok (.getfield 41, 3) := by decide +kernel
theorem dX1_moveSingularPoint_4 : decode cX1_moveSingularPoint 4 = .ok (.iconst 2, 1) := by decide +kernel
theorem dX1_moveSingularPoint_5 : decode cX1_moveSingularPoint 5 = .ok (.if_icmp .ne 35, 3) := by decide +kernel
theorem dX1_moveSingularPoint_8 : decode cX1_moveSingularPoint 8 = .ok (.aload_n 0, 1) := by decide +kernel
theorem dX1_moveSingularPoint_9 : decode cX1_moveSingularPoint 9 = .ok (.getfield 37, 3) := by decide +kernel
theorem dX1_moveSingularPoint_12 : decode cX1_moveSingularPoint 12 = .ok (.getfield 88, 3) := by decide +kernel
theorem dX1_moveSingularPoint_15 : decode cX1_moveSingularPoint 15 = .ok (.ldc2_w 123, 3) := by decide +kernel
theorem dX1_moveSingularPoint_18 : decode cX1_moveSingularPoint 18 = .ok (.invokestatic 60, 3) := by decide +kernel
theorem dX1_moveSingularPoint_21 : decode cX1_moveSingularPoint 21 = .ok (.lstore_n 1, 1) := by decide +kernel
theorem dX1_moveSingularPoint_22 : decode cX1_moveSingularPoint 22 = .ok (.aload_n 0, 1) := by decide +kernel
theorem dX1_moveSingularPoint_23 : decode cX1_moveSingularPoint 23 = .ok (.getfield 37, 3) := by decide +kernel
theorem dX1_moveSingularPoint_26 : decode cX1_moveSingularPoint 26 = .ok (.lload_n 1, 1) := by decide +kernel
theorem dX1_moveSingularPoint_27 : decode cX1_moveSingularPoint 27 = .ok (.invokevirtual 132, 3) := by decide +kernel
theorem dX1_moveSingularPoint_30 : decode cX1_moveSingularPoint 30 = .ok (.ldc2_w 123, 3) := by decide +kernel
theorem dX1_moveSingularPoint_33 : decode cX1_moveSingularPoint 33 = .ok (.invokestatic 60, 3) := by decide +kernel
theorem dX1_moveSingularPoint_36 : decode cX1_moveSingularPoint 36 = .ok (.lstore_n 3, 1) := by decide +kernel
theorem dX1_moveSingularPoint_37 : decode cX1_moveSingularPoint 37 = .ok (.goto 86, 3) := by decide +kernel
theorem dX1_moveSingularPoint_40 : decode cX1_moveSingularPoint 40 = .ok (.aload_n 0, 1) := by decide +kernel
theorem dX1_moveSingularPoint_41 : decode cX1_moveSingularPoint 41 = .ok (.getfield 41, 3) := by decide +kernel
theorem dX1_moveSingularPoint_44 : decode cX1_moveSingularPoint 44 = .ok (.iconst 3, 1) := by decide +kernel
theorem dX1_moveSingularPoint_45 : decode cX1_moveSingularPoint 45 = .ok (.if_icmp .ne 20, 3) := by decide +kernel
theorem dX1_moveSingularPoint_48 : decode cX1_moveSingularPoint 48 = .ok (.aload_n 0, 1) := by decide +kernel
theorem dX1_moveSingularPoint_49 : decode cX1_moveSingularPoint 49 = .ok (.getfield 37, 3) := by decide +kernel
theorem dX1_moveSingularPoint_52 : decode cX1_moveSingularPoint 52 = .ok (.getfield 136, 3) := by decide +kernel
theorem dX1_moveSingularPoint_55 : decode cX1_moveSingularPoint 55 = .ok (.lneg, 1) := by decide +kernel
theorem dX1_moveSingularPoint_56 : decode cX1_moveSingularPoint 56 = .ok (.ldc2_w 112, 3) := by decide +kernel
theorem dX1_moveSingularPoint_59 : decode cX1_moveSingularPoint 59 = .ok (.invokestatic 60, 3) := by decide +kernel
theorem dX1_moveSingularPoint_62 : decode cX1_moveSingularPoint 62 = .ok (.goto 46, 3) := by decide +kernel
theorem dX1_moveSingularPoint_65 : decode cX1_moveSingularPoint 65 = .ok (.aload_n 0, 1) := by decide +kernel
theorem dX1_moveSingularPoint_66 : decode cX1_moveSingularPoint 66 = .ok (.getfield 37, 3) := by decide +kernel
theorem dX1_moveSingularPoint_69 : decode cX1_moveSingularPoint 69 = .ok (.getfield 139, 3) := by decide +kernel
theorem dX1_moveSingularPoint_72 : decode cX1_moveSingularPoint 72 = .ok (.aload_n 0, 1) := by decide +kernel
theorem dX1_moveSingularPoint_73 : decode cX1_moveSingularPoint 73 = .ok (.getfield 41, 3) := by decide +kernel
theorem dX1_moveSingularPoint_76 : decode cX1_moveSingularPoint 76 = .ok (.i2l, 1) := by decide +kernel
theorem dX1_moveSingularPoint_77 : decode cX1_moveSingularPoint 77 = .ok (.invokestatic 60, 3) := by decide +kernel
theorem dX1_moveSingularPoint_80 : decode cX1_moveSingularPoint 80 = .ok (.lneg, 1) := by decide +kernel
theorem dX1_moveSingularPoint_81 : decode cX1_moveSingularPoint 81 = .ok (.ldc2_w 142, 3) := by decide +kernel
theorem dX1_moveSingularPoint_84 : decode cX1_moveSingularPoint 84 = .ok (.aload_n 0, 1) := by decide +kernel
theorem dX1_moveSingularPoint_85 : decode cX1_moveSingularPoint 85 = .ok (.getfield 41, 3) := by decide +kernel
theorem dX1_moveSingularPoint_88 : decode cX1_moveSingularPoint 88 = .ok (.iconst 2, 1) := by decide +kernel
theorem dX1_moveSingularPoint_89 : decode cX1_moveSingularPoint 89 = .ok (.isub, 1) := by decide +kernel
theorem dX1_moveSingularPoint_90 : decode cX1_moveSingularPoint 90 = .ok (.i2l, 1) := by decide +kernel
theorem dX1_moveSingularPoint_91 : decode cX1_moveSingularPoint 91 = .ok (.aload_n 0, 1) := by decide +kernel
theorem dX1_moveSingularPoint_92 : decode cX1_moveSingularPoint 92 = .ok (.getfield 41, 3) := by decide +kernel
theorem dX1_moveSingularPoint_95 : decode cX1_moveSingularPoint 95 = .ok (.i2l, 1) := by decide +kernel
theorem dX1_moveSingularPoint_96 : decode cX1_moveSingularPoint 96 = .ok (.invokestatic 144, 3) := by decide +kernel
theorem dX1_moveSingularPoint_99 : decode cX1_moveSingularPoint 99 = .ok (.lmul, 1) := by decide +kernel
theorem dX1_moveSingularPoint_100 : decode cX1_moveSingularPoint 100 = .ok (.aload_n 0, 1) := by decide +kernel
theorem dX1_moveSingularPoint_101 : decode cX1_moveSingularPoint 101 = .ok (.getfield 41, 3) := by decide +kernel
theorem dX1_moveSingularPoint_104 : decode cX1_moveSingularPoint 104 = .ok (.i2l, 1) := by decide +kernel
theorem dX1_moveSingularPoint_105 : decode cX1_moveSingularPoint 105 = .ok (.invokestatic 60, 3) := by decide +kernel
theorem dX1_moveSingularPoint_108 : decode cX1_moveSingularPoint 108 = .ok (.lstore_n 1, 1) := by decide +kernel
theorem dX1_moveSingularPoint_109 : decode cX1_moveSingularPoint 109 = .ok (.aload_n 0, 1) := by decide +kernel
theorem dX1_moveSingularPoint_110 : decode cX1_moveSingularPoint 110 = .ok (.aload_n 0, 1) := by decide +kernel
theorem dX1_moveSingularPoint_111 : decode cX1_moveSingularPoint 111 = .ok (.getfield 37, 3) := by decide +kernel
theorem dX1_moveSingularPoint_114 : decode cX1_moveSingularPoint 114 = .ok (.lload_n 1, 1) := by decide +kernel
theorem dX1_moveSingularPoint_115 : decode cX1_moveSingularPoint 115 = .ok (.invokevirtual 147, 3) := by decide +kernel
theorem dX1_moveSingularPoint_118 : decode cX1_moveSingularPoint 118 = .ok (.lneg, 1) := by decide +kernel
theorem dX1_moveSingularPoint_119 : decode cX1_moveSingularPoint 119 = .ok (.invokevirtual 150, 3) := by decide +kernel
theorem dX1_moveSingularPoint_122 : decode cX1_moveSingularPoint 122 = .ok (.lstore_n 3, 1) := by decide +kernel
theorem dX1_moveSingularPoint_123 : decode cX1_moveSingularPoint 123 = .ok (.aload_n 0, 1) := by decide +kernel
theorem dX1_moveSingularPoint_124 : decode cX1_moveSingularPoint 124 = .ok (.getfield 37, 3) := by decide +kernel
theorem dX1_moveSingularPoint_127 : decode cX1_moveSingularPoint 127 = .ok (.lload_n 1, 1) := by decide +kernel
theorem dX1_moveSingularPoint_128 : decode cX1_moveSingularPoint 128 = .ok (.lconst 0, 1) := by decide +kernel
theorem dX1_moveSingularPoint_129 : decode cX1_moveSingularPoint 129 = .ok (.lload_n 3, 1) := by decide +kernel
theorem dX1_moveSingularPoint_130 : decode cX1_moveSingularPoint 130 = .ok (.invokevirtual 108, 3) := by decide +kernel
theorem dX1_moveSingularPoint_133 : decode cX1_moveSingularPoint 133 = .ok (.return_, 1) := by decide +kernel
theorem dX1_half_0 : decode cX1_half 0 = .ok (.lload_n 1, 1) := by decide +kernel
theorem dX1_half_1 : decode cX1_half 1 = .ok (.aload_n 0, 1) := by decide +kernel
theorem dX1_half_2 : decode cX1_half 2 = .ok (.getfield 41, 3) := by decide +kernel
theorem dX1_half_5 : decode cX1_half 5 = .ok (.i2l, 1) := by decide +kernel
theorem dX1_half_6 : decode cX1_half 6 = .ok (.invokestatic 60, 3) := by decide +kernel
theorem dX1_half_9 : decode cX1_half 9 = .ok (.aload_n 0, 1) := by decide +kernel
theorem dX1_half_10 : decode cX1_half 10 = .ok (.getfield 41, 3) := by decide +kernel
theorem dX1_half_13 : decode cX1_half 13 = .ok (.i2l, 1) := by decide +kernel
theorem dX1_half_14 : decode cX1_half 14 = .ok (.lconst 1, 1) := by decide +kernel
theorem dX1_half_15 : decode cX1_half 15 = .ok (.ladd, 1) := by decide +kernel
theorem dX1_half_16 : decode cX1_half 16 = .ok (.iconst 1, 1) := by decide +kernel
theorem dX1_half_17 : decode cX1_half 17 = .ok (.lshr, 1) := by decide +kernel
theorem dX1_half_18 : decode cX1_half 18 = .ok (.lmul, 1) := by decide +kernel
theorem dX1_half_19 : decode cX1_half 19 = .ok (.aload_n 0, 1) := by decide +kernel
theorem dX1_half_20 : decode cX1_half 20 = .ok (.getfield 41, 3) := by decide +kernel
theorem dX1_half_23 : decode cX1_half 23 = .ok (.i2l, 1) := by decide +kernel
theorem dX1_half_24 : decode cX1_half 24 = .ok (.invokestatic 60, 3) := by decide +kernel
theorem dX1_half_27 : decode cX1_half 27 = .ok (.lreturn, 1) := by decide +kernel
theorem dX1_part_0 : decode cX1_part 0 = .ok (.lload_n 1, 1) := by decide +kernel
theorem dX1_part_1 : decode cX1_part 1 = .ok (.aload_n 0, 1) := by decide +kernel
theorem dX1_part_2 : decode cX1_part 2 = .ok (.getfield 41, 3) := by decide +kernel
theorem dX1_part_5 : decode cX1_part 5 = .ok (.i2l, 1) := by decide +kernel
theorem dX1_part_6 : decode cX1_part 6 = .ok (.iload_n 3, 1) := by decide +kernel
theorem dX1_part_7 : decode cX1_part 7 = .ok (.invokestatic 153, 3) := by decide +kernel
theorem dX1_part_10 : decode cX1_part 10 = .ok (.invokestatic 156, 3) := by decide +kernel
theorem dX1_part_13 : decode cX1_part 13 = .ok (.lreturn, 1) := by decide +kernel
theorem dX1_goesIn_0 : decode cX1_goesIn 0 = .ok (.lload_n 1, 1) := by decide +kernel
theorem dX1_goesIn_1 : decode cX1_goesIn 1 = .ok (.aload_n 0, 1) := by decide +kernel
theorem dX1_goesIn_2 : decode cX1_goesIn 2 = .ok (.getfield 41, 3) := by decide +kernel
theorem dX1_goesIn_5 : decode cX1_goesIn 5 = .ok (.i2l, 1) := by decide +kernel
theorem dX1_goesIn_6 : decode cX1_goesIn 6 = .ok (.iload_n 3, 1) := by decide +kernel
theorem dX1_goesIn_7 : decode cX1_goesIn 7 = .ok (.invokestatic 153, 3) := by decide +kernel
theorem dX1_goesIn_10 : decode cX1_goesIn 10 = .ok (.invokestatic 60, 3) := by decide +kernel
theorem dX1_goesIn_13 : decode cX1_goesIn 13 = .ok (.lconst 0, 1) := by decide +kernel
theorem dX1_goesIn_14 : decode cX1_goesIn 14 = .ok (.lcmp, 1) := by decide +kernel
theorem dX1_goesIn_15 : decode cX1_goesIn 15 = .ok (.ifCond .ne 7, 3) := by decide +kernel
theorem dX1_goesIn_18 : decode cX1_goesIn 18 = .ok (.iconst 1, 1) := by decide +kernel
theorem dX1_goesIn_19 : decode cX1_goesIn 19 = .ok (.goto 4, 3) := by decide +kernel
theorem dX1_goesIn_22 : decode cX1_goesIn 22 = .ok (.iconst 0, 1) := by decide +kernel
theorem dX1_goesIn_23 : decode cX1_goesIn 23 = .ok (.ireturn, 1) := by decide +kernel
theorem dX1_tellEarlyKind_0 : decode cX1_tellEarlyKind 0 = .ok (.aload_n 0, 1) := by decide +kernel
theorem dX1_tellEarlyKind_1 : decode cX1_tellEarlyKind 1 = .ok (.aload_n 0, 1) := by decide +kernel
theorem dX1_tellEarlyKind_2 : decode cX1_tellEarlyKind 2 = .ok (.getfield 37, 3) := by decide +kernel
theorem dX1_tellEarlyKind_5 : decode cX1_tellEarlyKind 5 = .ok (.getfield 91, 3) := by decide +kernel
theorem dX1_tellEarlyKind_8 : decode cX1_tellEarlyKind 8 = .ok (.iconst 2, 1) := by decide +kernel
theorem dX1_tellEarlyKind_9 : decode cX1_tellEarlyKind 9 = .ok (.invokevirtual 159, 3) := by decide +kernel
theorem dX1_tellEarlyKind_12 : decode cX1_tellEarlyKind 12 = .ok (.ifCond .ne 16, 3) := by decide +kernel
theorem dX1_tellEarlyKind_15 : decode cX1_tellEarlyKind 15 = .ok (.aload_n 0, 1) := by decide +kernel
theorem dX1_tellEarlyKind_16 : decode cX1_tellEarlyKind 16 = .ok (.iconst 2, 1) := by decide +kernel
theorem dX1_tellEarlyKind_17 : decode cX1_tellEarlyKind 17 = .ok (.aload_n 0, 1) := by decide +kernel
theorem dX1_tellEarlyKind_18 : decode cX1_tellEarlyKind 18 = .ok (.getfield 27, 3) := by decide +kernel
theorem dX1_tellEarlyKind_21 : decode cX1_tellEarlyKind 21 = .ok (.iconst 1, 1) := by decide +kernel
theorem dX1_tellEarlyKind_22 : decode cX1_tellEarlyKind 22 = .ok (.iconst 1, 1) := by decide +kernel
theorem dX1_tellEarlyKind_23 : decode cX1_tellEarlyKind 23 = .ok (.invokevirtual 53, 3) := by decide +kernel
theorem dX1_tellEarlyKind_26 : decode cX1_tellEarlyKind 26 = .ok (.iconst 1, 1) := by decide +kernel
theorem dX1_tellEarlyKind_27 : decode cX1_tellEarlyKind 27 = .ok (.ireturn, 1) := by decide +kernel
theorem dX1_tellEarlyKind_28 : decode cX1_tellEarlyKind 28 = .ok (.aload_n 0, 1) := by decide +kernel
theorem dX1_tellEarlyKind_29 : decode cX1_tellEarlyKind 29 = .ok (.aload_n 0, 1) := by decide +kernel
theorem dX1_tellEarlyKind_30 : decode cX1_tellEarlyKind 30 = .ok (.getfield 37, 3) := by decide +kernel
theorem dX1_tellEarlyKind_33 : decode cX1_tellEarlyKind 33 = .ok (.getfield 163, 3) := by decide +kernel
theorem dX1_tellEarlyKind_36 : decode cX1_tellEarlyKind 36 = .ok (.iconst 3, 1) := by decide +kernel
theorem dX1_tellEarlyKind_37 : decode cX1_tellEarlyKind 37 = .ok (.invokevirtual 159, 3) := by decide +kernel
theorem dX1_tellEarlyKind_40 : decode cX1_tellEarlyKind 40 = .ok (.ifCond .ne 18, 3) := by decide +kernel
theorem dX1_tellEarlyKind_43 : decode cX1_tellEarlyKind 43 = .ok (.aload_n 0, 1) := by decide +kernel
theorem dX1_tellEarlyKind_44 : decode cX1_tellEarlyKind 44 = .ok (.iconst 3, 1) := by decide +kernel
theorem dX1_tellEarlyKind_45 : decode cX1_tellEarlyKind 45 = .ok (.aload_n 0, 1) := by decide +kernel
theorem dX1_tellEarlyKind_46 : decode cX1_tellEarlyKind 46 = .ok (.getfield 27, 3) := by decide +kernel
theorem dX1_tellEarlyKind_49 : decode cX1_tellEarlyKind 49 = .ok (.iconst 1, 1) := by decide +kernel
theorem dX1_tellEarlyKind_50 : decode cX1_tellEarlyKind 50 = .ok (.isub, 1) := by decide +kernel
theorem dX1_tellEarlyKind_51 : decode cX1_tellEarlyKind 51 = .ok (.iconst 2, 1) := by decide +kernel
theorem dX1_tellEarlyKind_52 : decode cX1_tellEarlyKind 52 = .ok (.iconst 2, 1) := by decide +kernel
theorem dX1_tellEarlyKind_53 : decode cX1_tellEarlyKind 53 = .ok (.invokevirtual 53, 3) := by decide +kernel
theorem dX1_tellEarlyKind_56 : decode cX1_tellEarlyKind 56 = .ok (.iconst 1, 1) := by decide +kernel
theorem dX1_tellEarlyKind_57 : decode cX1_tellEarlyKind 57 = .ok (.ireturn, 1) := by decide +kernel
theorem dX1_tellEarlyKind_58 : decode cX1_tellEarlyKind 58 = .ok (.aload_n 0, 1) := by decide +kernel
theorem dX1_tellEarlyKind_59 : decode cX1_tellEarlyKind 59 = .ok (.aload_n 0, 1) := by decide +kernel
theorem dX1_tellEarlyKind_60 : decode cX1_tellEarlyKind 60 = .ok (.getfield 37, 3) := by decide +kernel
theorem dX1_tellEarlyKind_63 : decode cX1_tellEarlyKind 63 = .ok (.getfield 136, 3) := by decide +kernel
theorem dX1_tellEarlyKind_66 : decode cX1_tellEarlyKind 66 = .ok (.iconst 3, 1) := by decide +kernel
theorem dX1_tellEarlyKind_67 : decode cX1_tellEarlyKind 67 = .ok (.invokevirtual 159, 3) := by decide +kernel
theorem dX1_tellEarlyKind_70 : decode cX1_tellEarlyKind 70 = .ok (.ifCond .ne 66, 3) := by decide +kernel
theorem dX1_tellEarlyKind_73 : decode cX1_tellEarlyKind 73 = .ok (.aload_n 0, 1) := by decide +kernel
theorem dX1_tellEarlyKind_74 : decode cX1_tellEarlyKind 74 = .ok (.lconst 1, 1) := by decide +kernel
theorem dX1_tellEarlyKind_75 : decode cX1_tellEarlyKind 75 = .ok (.aload_n 0, 1) := by decide +kernel
theorem dX1_tellEarlyKind_76 : decode cX1_tellEarlyKind 76 = .ok (.aload_n 0, 1) := by decide +kernel
theorem dX1_tellEarlyKind_77 : decode cX1_tellEarlyKind 77 = .ok (.getfield 37, 3) := by decide +kernel
theorem dX1_tellEarlyKind_80 : decode cX1_tellEarlyKind 80 = .ok (.getfield 120, 3) := by decide +kernel
theorem dX1_tellEarlyKind_83 : decode cX1_tellEarlyKind 83 = .ok (.iconst 1, 1) := by decide +kernel
theorem dX1_tellEarlyKind_84 : decode cX1_tellEarlyKind 84 = .ok (.invokevirtual 84, 3) := by decide +kernel
theorem dX1_tellEarlyKind_87 : decode cX1_tellEarlyKind 87 = .ok (.aload_n 0, 1) := by decide +kernel
theorem dX1_tellEarlyKind_88 : decode cX1_tellEarlyKind 88 = .ok (.aload_n 0, 1) := by decide +kernel
theorem dX1_tellEarlyKind_89 : decode cX1_tellEarlyKind 89 = .ok (.getfield 37, 3) := by decide +kernel
theorem dX1_tellEarlyKind_92 : decode cX1_tellEarlyKind 92 = .ok (.getfield 91, 3) := by decide +kernel
theorem dX1_tellEarlyKind_95 : decode cX1_tellEarlyKind 95 = .ok (.iconst 2, 1) := by decide +kernel
theorem dX1_tellEarlyKind_96 : decode cX1_tellEarlyKind 96 = .ok (.invokevirtual 84, 3) := by decide +kernel
theorem dX1_tellEarlyKind_99 : decode cX1_tellEarlyKind 99 = .ok (.lneg, 1) := by decide +kernel
theorem dX1_tellEarlyKind_100 : decode cX1_tellEarlyKind 100 = .ok (.invokevirtual 166, 3) := by decide +kernel
theorem dX1_tellEarlyKind_103 : decode cX1_tellEarlyKind 103 = .ok (.iconst (-1), 1) := by decide +kernel
theorem dX1_tellEarlyKind_104 : decode cX1_tellEarlyKind 104 = .ok (.if_icmp .eq 7, 3) := by decide +kernel
theorem dX1_tellEarlyKind_107 : decode cX1_tellEarlyKind 107 = .ok (.iconst 1, 1) := by decide +kernel
theorem dX1_tellEarlyKind_108 : decode cX1_tellEarlyKind 108 = .ok (.goto 4, 3) := by decide +kernel
theorem dX1_tellEarlyKind_111 : decode cX1_tellEarlyKind 111 = .ok (.iconst 0, 1) := by decide +kernel
theorem dX1_tellEarlyKind_112 : decode cX1_tellEarlyKind 112 = .ok (.istore_n 1, 1) := by decide +kernel
theorem dX1_tellEarlyKind_113 : decode cX1_tellEarlyKind 113 = .ok (.aload_n 0, 1) := by decide +kernel
theorem dX1_tellEarlyKind_114 : decode cX1_tellEarlyKind 114 = .ok (.iconst 4, 1) := by decide +kernel
theorem dX1_tellEarlyKind_115 : decode cX1_tellEarlyKind 115 = .ok (.aload_n 0, 1) := by decide +kernel
theorem dX1_tellEarlyKind_116 : decode cX1_tellEarlyKind 116 = .ok (.getfield 27, 3) := by decide +kernel
theorem dX1_tellEarlyKind_119 : decode cX1_tellEarlyKind 119 = .ok (.iconst 2, 1) := by decide +kernel
theorem dX1_tellEarlyKind_120 : decode cX1_tellEarlyKind 120 = .ok (.isub, 1) := by decide +kernel
theorem dX1_tellEarlyKind_121 : decode cX1_tellEarlyKind 121 = .ok (.iconst 3, 1) := by decide +kernel
theorem dX1_tellEarlyKind_122 : decode cX1_tellEarlyKind 122 = .ok (.iload_n 1, 1) := by decide +kernel
theorem dX1_tellEarlyKind_123 : decode cX1_tellEarlyKind 123 = .ok (.ifCond .eq 7, 3) := by decide +kernel
theorem dX1_tellEarlyKind_126 : decode cX1_tellEarlyKind 126 = .ok (.iconst 3, 1) := by decide +kernel
theorem dX1_tellEarlyKind_127 : decode cX1_tellEarlyKind 127 = .ok (.goto 4, 3) := by decide +kernel
theorem dX1_tellEarlyKind_130 : decode cX1_tellEarlyKind 130 = .ok (.iconst 1, 1) := by decide +kernel
theorem dX1_tellEarlyKind_131 : decode cX1_tellEarlyKind 131 = .ok (.invokevirtual 53, 3) := by decide +kernel
theorem dX1_tellEarlyKind_134 : decode cX1_tellEarlyKind 134 = .ok (.iconst 1, 1) := by decide +kernel
theorem dX1_tellEarlyKind_135 : decode cX1_tellEarlyKind 135 = .ok (.ireturn, 1) := by decide +kernel
theorem dX1_tellEarlyKind_136 : decode cX1_tellEarlyKind 136 = .ok (.iconst 0, 1) := by decide +kernel
theorem dX1_tellEarlyKind_137 : decode cX1_tellEarlyKind 137 = .ok (.ireturn, 1) := by decide +kernel
theorem dX1_moveForCubic_0 : decode cX1_moveForCubic 0 = .ok (.aload_n 0, 1) := by decide +kernel
theorem dX1_moveForCubic_1 : decode cX1_moveForCubic 1 = .ok (.getfield 41, 3) := by decide +kernel
theorem dX1_moveForCubic_4 : decode cX1_moveForCubic 4 = .ok (.iconst 2, 1) := by decide +kernel
theorem dX1_moveForCubic_5 : decode cX1_moveForCubic 5 = .ok (.if_icmp .ne 49, 3) := by decide +kernel
theorem dX1_moveForCubic_8 : decode cX1_moveForCubic 8 = .ok (.aload_n 0, 1) := by decide +kernel
theorem dX1_moveForCubic_9 : decode cX1_moveForCubic 9 = .ok (.getfield 37, 3) := by decide +kernel
theorem dX1_moveForCubic_12 : decode cX1_moveForCubic 12 = .ok (.lconst 0, 1) := by decide +kernel
theorem dX1_moveForCubic_13 : decode cX1_moveForCubic 13 = .ok (.aload_n 0, 1) := by decide +kernel
theorem dX1_moveForCubic_14 : decode cX1_moveForCubic 14 = .ok (.getfield 37, 3) := by decide +kernel
theorem dX1_moveForCubic_17 : decode cX1_moveForCubic 17 = .ok (.getfield 81, 3) := by decide +kernel
theorem dX1_moveForCubic_20 : decode cX1_moveForCubic 20 = .ok (.ldc2_w 123, 3) := by decide +kernel
theorem dX1_moveForCubic_23 : decode cX1_moveForCubic 23 = .ok (.invokestatic 60, 3) := by decide +kernel
theorem dX1_moveForCubic_26 : decode cX1_moveForCubic 26 = .ok (.ldc2_w 123, 3) := by decide +kernel
theorem dX1_moveForCubic_29 : decode cX1_moveForCubic 29 = .ok (.aload_n 0, 1) := by decide +kernel
theorem dX1_moveForCubic_30 : decode cX1_moveForCubic 30 = .ok (.aload_n 0, 1) := by decide +kernel
theorem dX1_moveForCubic_31 : decode cX1_moveForCubic 31 = .ok (.getfield 37, 3) := by decide +kernel
theorem dX1_moveForCubic_34 : decode cX1_moveForCubic 34 = .ok (.getfield 91, 3) := by decide +kernel
theorem dX1_moveForCubic_37 : decode cX1_moveForCubic 37 = .ok (.iconst 2, 1) := by decide +kernel
theorem dX1_moveForCubic_38 : decode cX1_moveForCubic 38 = .ok (.invokevirtual 84, 3) := by decide +kernel
theorem dX1_moveForCubic_41 : decode cX1_moveForCubic 41 = .ok (.ldc2_w 123, 3) := by decide +kernel
theorem dX1_moveForCubic_44 : decode cX1_moveForCubic 44 = .ok (.invokestatic 60, 3) := by decide +kernel
theorem dX1_moveForCubic_47 : decode cX1_moveForCubic 47 = .ok (.lmul, 1) := by decide +kernel
theorem dX1_moveForCubic_48 : decode cX1_moveForCubic 48 = .ok (.invokevirtual 108, 3) := by decide +kernel
theorem dX1_moveForCubic_51 : decode cX1_moveForCubic 51 = .ok (.goto 46, 3) := by decide +kernel
theorem dX1_moveForCubic_54 : decode cX1_moveForCubic 54 = .ok (.aload_n 0, 1) := by decide +kernel
theorem dX1_moveForCubic_55 : decode cX1_moveForCubic 55 = .ok (.getfield 37, 3) := by decide +kernel
theorem dX1_moveForCubic_58 : decode cX1_moveForCubic 58 = .ok (.lconst 0, 1) := by decide +kernel
theorem dX1_moveForCubic_59 : decode cX1_moveForCubic 59 = .ok (.aload_n 0, 1) := by decide +kernel
theorem dX1_moveForCubic_60 : decode cX1_moveForCubic 60 = .ok (.aload_n 0, 1) := by decide +kernel
theorem dX1_moveForCubic_61 : decode cX1_moveForCubic 61 = .ok (.getfield 37, 3) := by decide +kernel
theorem dX1_moveForCubic_64 : decode cX1_moveForCubic 64 = .ok (.getfield 169, 3) := by decide +kernel
theorem dX1_moveForCubic_67 : decode cX1_moveForCubic 67 = .ok (.lneg, 1) := by decide +kernel
theorem dX1_moveForCubic_68 : decode cX1_moveForCubic 68 = .ok (.invokevirtual 150, 3) := by decide +kernel
theorem dX1_moveForCubic_71 : decode cX1_moveForCubic 71 = .ok (.aload_n 0, 1) := by decide +kernel
theorem dX1_moveForCubic_72 : decode cX1_moveForCubic 72 = .ok (.getfield 41, 3) := by decide +kernel
theorem dX1_moveForCubic_75 : decode cX1_moveForCubic 75 = .ok (.i2l, 1) := by decide +kernel
theorem dX1_moveForCubic_76 : decode cX1_moveForCubic 76 = .ok (.aload_n 0, 1) := by decide +kernel
theorem dX1_moveForCubic_77 : decode cX1_moveForCubic 77 = .ok (.aload_n 0, 1) := by decide +kernel
theorem dX1_moveForCubic_78 : decode cX1_moveForCubic 78 = .ok (.aload_n 0, 1) := by decide +kernel
theorem dX1_moveForCubic_79 : decode cX1_moveForCubic 79 = .ok (.getfield 37, 3) := by decide +kernel
theorem dX1_moveForCubic_82 : decode cX1_moveForCubic 82 = .ok (.getfield 120, 3) := by decide +kernel
theorem dX1_moveForCubic_85 : decode cX1_moveForCubic 85 = .ok (.iconst 1, 1) := by decide +kernel
theorem dX1_moveForCubic_86 : decode cX1_moveForCubic 86 = .ok (.invokevirtual 84, 3) := by decide +kernel
theorem dX1_moveForCubic_89 : decode cX1_moveForCubic 89 = .ok (.lneg, 1) := by decide +kernel
theorem dX1_moveForCubic_90 : decode cX1_moveForCubic 90 = .ok (.invokevirtual 150, 3) := by decide +kernel
theorem dX1_moveForCubic_93 : decode cX1_moveForCubic 93 = .ok (.lmul, 1) := by decide +kernel
theorem dX1_moveForCubic_94 : decode cX1_moveForCubic 94 = .ok (.invokevirtual 108, 3) := by decide +kernel
theorem dX1_moveForCubic_97 : decode cX1_moveForCubic 97 = .ok (.return_, 1) := by decide +kernel
theorem dX1_cubicAt_0 : decode cX1_cubicAt 0 = .ok (.lload_n 1, 1) := by decide +kernel
theorem dX1_cubicAt_1 : decode cX1_cubicAt 1 = .ok (.lload_n 3, 1) := by decide +kernel
theorem dX1_cubicAt_2 : decode cX1_cubicAt 2 = .ok (.ladd, 1) := by decide +kernel
theorem dX1_cubicAt_3 : decode cX1_cubicAt 3 = .ok (.lload_n 1, 1) := by decide +kernel
theorem dX1_cubicAt_4 : decode cX1_cubicAt 4 = .ok (.lmul, 1) := by decide +kernel
theorem dX1_cubicAt_5 : decode cX1_cubicAt 5 = .ok (.lload 5, 2) := by decide +kernel
theorem dX1_cubicAt_7 : decode cX1_cubicAt 7 = .ok (.ladd, 1) := by decide +kernel
theorem dX1_cubicAt_8 : decode cX1_cubicAt 8 = .ok (.lload_n 1, 1) := by decide +kernel
theorem dX1_cubicAt_9 : decode cX1_cubicAt 9 = .ok (.lmul, 1) := by decide +kernel
theorem dX1_cubicAt_10 : decode cX1_cubicAt 10 = .ok (.lload 7, 2) := by decide +kernel
theorem dX1_cubicAt_12 : decode cX1_cubicAt 12 = .ok (.ladd, 1) := by decide +kernel
theorem dX1_cubicAt_13 : decode cX1_cubicAt 13 = .ok (.lreturn, 1) := by decide +kernel
theorem dX1_cubicRoots_0 : decode cX1_cubicRoots 0 = .ok (.iconst 0, 1) := by decide +kernel
theorem dX1_cubicRoots_1 : decode cX1_cubicRoots 1 = .ok (.istore 7, 2) := by decide +kernel
theorem dX1_cubicRoots_3 : decode cX1_cubicRoots 3 = .ok (.iconst 0, 1) := by decide +kernel
theorem dX1_cubicRoots_4 : decode cX1_cubicRoots 4 = .ok (.istore 8, 2) := by decide +kernel
theorem dX1_cubicRoots_6 : decode cX1_cubicRoots 6 = .ok (.iload 8, 2) := by decide +kernel
theorem dX1_cubicRoots_8 : decode cX1_cubicRoots 8 = .ok (.aload_n 0, 1) := by decide +kernel
theorem dX1_cubicRoots_9 : decode cX1_cubicRoots 9 = .ok (.getfield 41, 3) := by decide +kernel
theorem dX1_cubicRoots_12 : decode cX1_cubicRoots 12 = .ok (.if_icmp .ge 31, 3) := by decide +kernel
theorem dX1_cubicRoots_15 : decode cX1_cubicRoots 15 = .ok (.aload_n 0, 1) := by decide +kernel
theorem dX1_cubicRoots_16 : decode cX1_cubicRoots 16 = .ok (.aload_n 0, 1) := by decide +kernel
theorem dX1_cubicRoots_17 : decode cX1_cubicRoots 17 = .ok (.iload 8, 2) := by decide +kernel
theorem dX1_cubicRoots_19 : decode cX1_cubicRoots 19 = .ok (.i2l, 1) := by decide +kernel
theorem dX1_cubicRoots_20 : decode cX1_cubicRoots 20 = .ok (.lload_n 1, 1) := by decide +kernel
theorem dX1_cubicRoots_21 : decode cX1_cubicRoots 21 = .ok (.lload_n 3, 1) := by decide +kernel
theorem dX1_cubicRoots_22 : decode cX1_cubicRoots 22 = .ok (.lload 5, 2) := by decide +kernel
theorem dX1_cubicRoots_24 : decode cX1_cubicRoots 24 = .ok (.invokevirtual 172, 3) := by decide +kernel
theorem dX1_cubicRoots_27 : decode cX1_cubicRoots 27 = .ok (.iconst 1, 1) := by decide +kernel
theorem dX1_cubicRoots_28 : decode cX1_cubicRoots 28 = .ok (.invokevirtual 159, 3) := by decide +kernel
theorem dX1_cubicRoots_31 : decode cX1_cubicRoots 31 = .ok (.ifCond .eq 6, 3) := by decide +kernel
theorem dX1_cubicRoots_34 : decode cX1_cubicRoots 34 = .ok (.iinc 7 1, 3) := by decide +kernel
theorem dX1_cubicRoots_37 : decode cX1_cubicRoots 37 = .ok (.iinc 8 1, 3) := by decide +kernel
theorem dX1_cubicRoots_40 : decode cX1_cubicRoots 40 = .ok (.goto (-34), 3) := by decide +kernel
theorem dX1_cubicRoots_43 : decode cX1_cubicRoots 43 = .ok (.iload 7, 2) := by decide +kernel
theorem dX1_cubicRoots_45 : decode cX1_cubicRoots 45 = .ok (.ireturn, 1) := by decide +kernel
theorem dX1_multipleRoot_0 : decode cX1_multipleRoot 0 = .ok (.iconst 0, 1) := by decide +kernel
theorem dX1_multipleRoot_1 : decode cX1_multipleRoot 1 = .ok (.istore 7, 2) := by decide +kernel
theorem dX1_multipleRoot_3 : decode cX1_multipleRoot 3 = .ok (.iload 7, 2) := by decide +kernel
theorem dX1_multipleRoot_5 : decode cX1_multipleRoot 5 = .ok (.aload_n 0, 1) := by decide +kernel
theorem dX1_multipleRoot_6 : decode cX1_multipleRoot 6 = .ok (.getfield 41, 3) := by decide +kernel
theorem dX1_multipleRoot_9 : decode cX1_multipleRoot 9 = .ok (.if_icmp .ge 59, 3) := by decide +kernel
theorem dX1_multipleRoot_12 : decode cX1_multipleRoot 12 = .ok (.aload_n 0, 1) := by decide +kernel
theorem dX1_multipleRoot_13 : decode cX1_multipleRoot 13 = .ok (.aload_n 0, 1) := by decide +kernel
theorem dX1_multipleRoot_14 : decode cX1_multipleRoot 14 = .ok (.iload 7, 2) := by decide +kernel
theorem dX1_multipleRoot_16 : decode cX1_multipleRoot 16 = .ok (.i2l, 1) := by decide +kernel
theorem dX1_multipleRoot_17 : decode cX1_multipleRoot 17 = .ok (.lload_n 1, 1) := by decide +kernel
theorem dX1_multipleRoot_18 : decode cX1_multipleRoot 18 = .ok (.lload_n 3, 1) := by decide +kernel
theorem dX1_multipleRoot_19 : decode cX1_multipleRoot 19 = .ok (.lload 5, 2) := by decide +kernel
theorem dX1_multipleRoot_21 : decode cX1_multipleRoot 21 = .ok (.invokevirtual 172, 3) := by decide +kernel
theorem dX1_multipleRoot_24 : decode cX1_multipleRoot 24 = .ok (.iconst 1, 1) := by decide +kernel
theorem dX1_multipleRoot_25 : decode cX1_multipleRoot 25 = .ok (.invokevirtual 159, 3) := by decide +kernel
theorem dX1_multipleRoot_28 : decode cX1_multipleRoot 28 = .ok (.ifCond .eq 34, 3) := by decide +kernel
theorem dX1_multipleRoot_31 : decode cX1_multipleRoot 31 = .ok (.aload_n 0, 1) := by decide +kernel
theorem dX1_multipleRoot_32 : decode cX1_multipleRoot 32 = .ok (.ldc2_w 112, 3) := by decide +kernel
theorem dX1_multipleRoot_35 : decode cX1_multipleRoot 35 = .ok (.iload 7, 2) := by decide +kernel
theorem dX1_multipleRoot_37 : decode cX1_multipleRoot 37 = .ok (.i2l, 1) := by decide +kernel
theorem dX1_multipleRoot_38 : decode cX1_multipleRoot 38 = .ok (.lmul, 1) := by decide +kernel
theorem dX1_multipleRoot_39 : decode cX1_multipleRoot 39 = .ok (.ldc2_w 123, 3) := by decide +kernel
theorem dX1_multipleRoot_42 : decode cX1_multipleRoot 42 = .ok (.lload_n 1, 1) := by decide +kernel
theorem dX1_multipleRoot_43 : decode cX1_multipleRoot 43 = .ok (.lmul, 1) := by decide +kernel
theorem dX1_multipleRoot_44 : decode cX1_multipleRoot 44 = .ok (.ladd, 1) := by decide +kernel
theorem dX1_multipleRoot_45 : decode cX1_multipleRoot 45 = .ok (.iload 7, 2) := by decide +kernel
theorem dX1_multipleRoot_47 : decode cX1_multipleRoot 47 = .ok (.i2l, 1) := by decide +kernel
theorem dX1_multipleRoot_48 : decode cX1_multipleRoot 48 = .ok (.lmul, 1) := by decide +kernel
theorem dX1_multipleRoot_49 : decode cX1_multipleRoot 49 = .ok (.lload_n 3, 1) := by decide +kernel
theorem dX1_multipleRoot_50 : decode cX1_multipleRoot 50 = .ok (.ladd, 1) := by decide +kernel
theorem dX1_multipleRoot_51 : decode cX1_multipleRoot 51 = .ok (.iconst 1, 1) := by decide +kernel
theorem dX1_multipleRoot_52 : decode cX1_multipleRoot 52 = .ok (.invokevirtual 159, 3) := by decide +kernel
theorem dX1_multipleRoot_55 : decode cX1_multipleRoot 55 = .ok (.ifCond .eq 7, 3) := by decide +kernel
theorem dX1_multipleRoot_58 : decode cX1_multipleRoot 58 = .ok (.iload 7, 2) := by decide +kernel
theorem dX1_multipleRoot_60 : decode cX1_multipleRoot 60 = .ok (.i2l, 1) := by decide +kernel
theorem dX1_multipleRoot_61 : decode cX1_multipleRoot 61 = .ok (.lreturn, 1) := by decide +kernel
theorem dX1_multipleRoot_62 : decode cX1_multipleRoot 62 = .ok (.iinc 7 1, 3) := by decide +kernel
theorem dX1_multipleRoot_65 : decode cX1_multipleRoot 65 = .ok (.goto (-62), 3) := by decide +kernel
theorem dX1_multipleRoot_68 : decode cX1_multipleRoot 68 = .ok (.lconst 0, 1) := by decide +kernel
theorem dX1_multipleRoot_69 : decode cX1_multipleRoot 69 = .ok (.lreturn, 1) := by decide +kernel
theorem dX1_rootOf_0 : decode cX1_rootOf 0 = .ok (.iconst 0, 1) := by decide +kernel
theorem dX1_rootOf_1 : decode cX1_rootOf 1 = .ok (.istore 7, 2) := by decide +kernel
theorem dX1_rootOf_3 : decode cX1_rootOf 3 = .ok (.iload 7, 2) := by decide +kernel
theorem dX1_rootOf_5 : decode cX1_rootOf 5 = .ok (.aload_n 0, 1) := by decide +kernel
theorem dX1_rootOf_6 : decode cX1_rootOf 6 = .ok (.getfield 41, 3) := by decide +kernel
theorem dX1_rootOf_9 : decode cX1_rootOf 9 = .ok (.if_icmp .ge 39, 3) := by decide +kernel
theorem dX1_rootOf_12 : decode cX1_rootOf 12 = .ok (.lload_n 1, 1) := by decide +kernel
theorem dX1_rootOf_13 : decode cX1_rootOf 13 = .ok (.iload 7, 2) := by decide +kernel
theorem dX1_rootOf_15 : decode cX1_rootOf 15 = .ok (.i2l, 1) := by decide +kernel
theorem dX1_rootOf_16 : decode cX1_rootOf 16 = .ok (.lmul, 1) := by decide +kernel
theorem dX1_rootOf_17 : decode cX1_rootOf 17 = .ok (.lload_n 3, 1) := by decide +kernel
theorem dX1_rootOf_18 : decode cX1_rootOf 18 = .ok (.ladd, 1) := by decide +kernel
theorem dX1_rootOf_19 : decode cX1_rootOf 19 = .ok (.iload 7, 2) := by decide +kernel
theorem dX1_rootOf_21 : decode cX1_rootOf 21 = .ok (.i2l, 1) := by decide +kernel
theorem dX1_rootOf_22 : decode cX1_rootOf 22 = .ok (.lmul, 1) := by decide +kernel
theorem dX1_rootOf_23 : decode cX1_rootOf 23 = .ok (.lload 5, 2) := by decide +kernel
theorem dX1_rootOf_25 : decode cX1_rootOf 25 = .ok (.ladd, 1) := by decide +kernel
theorem dX1_rootOf_26 : decode cX1_rootOf 26 = .ok (.aload_n 0, 1) := by decide +kernel
theorem dX1_rootOf_27 : decode cX1_rootOf 27 = .ok (.getfield 41, 3) := by decide +kernel
theorem dX1_rootOf_30 : decode cX1_rootOf 30 = .ok (.i2l, 1) := by decide +kernel
theorem dX1_rootOf_31 : decode cX1_rootOf 31 = .ok (.invokestatic 60, 3) := by decide +kernel
theorem dX1_rootOf_34 : decode cX1_rootOf 34 = .ok (.lconst 0, 1) := by decide +kernel
theorem dX1_rootOf_35 : decode cX1_rootOf 35 = .ok (.lcmp, 1) := by decide +kernel
theorem dX1_rootOf_36 : decode cX1_rootOf 36 = .ok (.ifCond .ne 6, 3) := by decide +kernel
theorem dX1_rootOf_39 : decode cX1_rootOf 39 = .ok (.iload 7, 2) := by decide +kernel
theorem dX1_rootOf_41 : decode cX1_rootOf 41 = .ok (.ireturn, 1) := by decide +kernel
theorem dX1_rootOf_42 : decode cX1_rootOf 42 = .ok (.iinc 7 1, 3) := by decide +kernel
theorem dX1_rootOf_45 : decode cX1_rootOf 45 = .ok (.goto (-42), 3) := by decide +kernel
theorem dX1_rootOf_48 : decode cX1_rootOf 48 = .ok (.iconst (-1), 1) := by decide +kernel
theorem dX1_rootOf_49 : decode cX1_rootOf 49 = .ok (.ireturn, 1) := by decide +kernel
theorem dX1_hasUnlikeRoots_0 : decode cX1_hasUnlikeRoots 0 = .ok (.lload_n 3, 1) := by decide +kernel
theorem dX1_hasUnlikeRoots_1 : decode cX1_hasUnlikeRoots 1 = .ok (.lload_n 3, 1) := by decide +kernel
theorem dX1_hasUnlikeRoots_2 : decode cX1_hasUnlikeRoots 2 = .ok (.lmul, 1) := by decide +kernel
theorem dX1_hasUnlikeRoots_3 : decode cX1_hasUnlikeRoots 3 = .ok (.ldc2_w 96, 3) := by decide +kernel
theorem dX1_hasUnlikeRoots_6 : decode cX1_hasUnlikeRoots 6 = .ok (.lload_n 1, 1) := by decide +kernel
theorem dX1_hasUnlikeRoots_7 : decode cX1_hasUnlikeRoots 7 = .ok (.lmul, 1) := by decide +kernel
theorem dX1_hasUnlikeRoots_8 : decode cX1_hasUnlikeRoots 8 = .ok (.lload 5, 2) := by decide +kernel
theorem dX1_hasUnlikeRoots_10 : decode cX1_hasUnlikeRoots 10 = .ok (.lmul, 1) := by decide +kernel
theorem dX1_hasUnlikeRoots_11 : decode cX1_hasUnlikeRoots 11 = .ok (.lsub, 1) := by decide +kernel
theorem dX1_hasUnlikeRoots_12 : decode cX1_hasUnlikeRoots 12 = .ok (.aload_n 0, 1) := by decide +kernel
theorem dX1_hasUnlikeRoots_13 : decode cX1_hasUnlikeRoots 13 = .ok (.getfield 41, 3) := by decide +kernel
theorem dX1_hasUnlikeRoots_16 : decode cX1_hasUnlikeRoots 16 = .ok (.i2l, 1) := by decide +kernel
theorem dX1_hasUnlikeRoots_17 : decode cX1_hasUnlikeRoots 17 = .ok (.invokestatic 60, 3) := by decide +kernel
theorem dX1_hasUnlikeRoots_20 : decode cX1_hasUnlikeRoots 20 = .ok (.lconst 0, 1) := by decide +kernel
theorem dX1_hasUnlikeRoots_21 : decode cX1_hasUnlikeRoots 21 = .ok (.lcmp, 1) := by decide +kernel
theorem dX1_hasUnlikeRoots_22 : decode cX1_hasUnlikeRoots 22 = .ok (.ifCond .eq 7, 3) := by decide +kernel
theorem dX1_hasUnlikeRoots_25 : decode cX1_hasUnlikeRoots 25 = .ok (.iconst 1, 1) := by decide +kernel
theorem dX1_hasUnlikeRoots_26 : decode cX1_hasUnlikeRoots 26 = .ok (.goto 4, 3) := by decide +kernel
theorem dX1_hasUnlikeRoots_29 : decode cX1_hasUnlikeRoots 29 = .ok (.iconst 0, 1) := by decide +kernel
theorem dX1_hasUnlikeRoots_30 : decode cX1_hasUnlikeRoots 30 = .ok (.ireturn, 1) := by decide +kernel
theorem dX1_tellByTurns_0 : decode cX1_tellByTurns 0 = .ok (.iconst 1, 1) := by decide +kernel
theorem dX1_tellByTurns_1 : decode cX1_tellByTurns 1 = .ok (.istore_n 1, 1) := by decide +kernel
theorem dX1_tellByTurns_2 : decode cX1_tellByTurns 2 = .ok (.iload_n 1, 1) := by decide +kernel
theorem dX1_tellByTurns_3 : decode cX1_tellByTurns 3 = .ok (.aload_n 0, 1) := by decide +kernel
theorem dX1_tellByTurns_4 : decode cX1_tellByTurns 4 = .ok (.getfield 27, 3) := by decide +kernel
theorem dX1_tellByTurns_7 : decode cX1_tellByTurns 7 = .ok (.if_icmp .gt 264, 3) := by decide +kernel
theorem dX1_tellByTurns_10 : decode cX1_tellByTurns 10 = .ok (.iload_n 1, 1) := by decide +kernel
theorem dX1_tellByTurns_11 : decode cX1_tellByTurns 11 = .ok (.iconst 1, 1) := by decide +kernel
theorem dX1_tellByTurns_12 : decode cX1_tellByTurns 12 = .ok (.iand, 1) := by decide +kernel
theorem dX1_tellByTurns_13 : decode cX1_tellByTurns 13 = .ok (.iconst 1, 1) := by decide +kernel
theorem dX1_tellByTurns_14 : decode cX1_tellByTurns 14 = .ok (.if_icmp .ne 7, 3) := by decide +kernel
theorem dX1_tellByTurns_17 : decode cX1_tellByTurns 17 = .ok (.iconst 1, 1) := by decide +kernel
theorem dX1_tellByTurns_18 : decode cX1_tellByTurns 18 = .ok (.goto 4, 3) := by decide +kernel
theorem dX1_tellByTurns_21 : decode cX1_tellByTurns 21 = .ok (.iconst 0, 1) := by decide +kernel
theorem dX1_tellByTurns_22 : decode cX1_tellByTurns 22 = .ok (.istore_n 2, 1) := by decide +kernel
theorem dX1_tellByTurns_23 : decode cX1_tellByTurns 23 = .ok (.iload_n 2, 1) := by decide +kernel
theorem dX1_tellByTurns_24 : decode cX1_tellByTurns 24 = .ok (.ifCond .eq 9, 3) := by decide +kernel
theorem dX1_tellByTurns_27 : decode cX1_tellByTurns 27 = .ok (.iload_n 1, 1) := by decide +kernel
theorem dX1_tellByTurns_28 : decode cX1_tellByTurns 28 = .ok (.iconst 3, 1) := by decide +kernel
theorem dX1_tellByTurns_29 : decode cX1_tellByTurns 29 = .ok (.iadd, 1) := by decide +kernel
theorem dX1_tellByTurns_30 : decode cX1_tellByTurns 30 = .ok (.goto 6, 3) := by decide +kernel
theorem dX1_tellByTurns_33 : decode cX1_tellByTurns 33 = .ok (.iload_n 1, 1) := by decide +kernel
theorem dX1_tellByTurns_34 : decode cX1_tellByTurns 34 = .ok (.iconst 4, 1) := by decide +kernel
theorem dX1_tellByTurns_35 : decode cX1_tellByTurns 35 = .ok (.iadd, 1) := by decide +kernel
theorem dX1_tellByTurns_36 : decode cX1_tellByTurns 36 = .ok (.iconst 1, 1) := by decide +kernel
theorem dX1_tellByTurns_37 : decode cX1_tellByTurns 37 = .ok (.ishr, 1) := by decide +kernel
theorem dX1_tellByTurns_38 : decode cX1_tellByTurns 38 = .ok (.istore_n 3, 1) := by decide +kernel
theorem dX1_tellByTurns_39 : decode cX1_tellByTurns 39 = .ok (.iload_n 2, 1) := by decide +kernel
theorem dX1_tellByTurns_40 : decode cX1_tellByTurns 40 = .ok (.ifCond .eq 7, 3) := by decide +kernel
theorem dX1_tellByTurns_43 : decode cX1_tellByTurns 43 = .ok (.lconst 1, 1) := by decide +kernel
theorem dX1_tellByTurns_44 : decode cX1_tellByTurns 44 = .ok (.goto 23, 3) := by decide +kernel
theorem dX1_tellByTurns_47 : decode cX1_tellByTurns 47 = .ok (.aload_n 0, 1) := by decide +kernel
theorem dX1_tellByTurns_48 : decode cX1_tellByTurns 48 = .ok (.aload_n 0, 1) := by decide +kernel
theorem dX1_tellByTurns_49 : decode cX1_tellByTurns 49 = .ok (.getfield 37, 3) := by decide +kernel
theorem dX1_tellByTurns_52 : decode cX1_tellByTurns 52 = .ok (.getfield 81, 3) := by decide +kernel
theorem dX1_tellByTurns_55 : decode cX1_tellByTurns 55 = .ok (.iconst 1, 1) := by decide +kernel
theorem dX1_tellByTurns_56 : decode cX1_tellByTurns 56 = .ok (.invokevirtual 84, 3) := by decide +kernel
theorem dX1_tellByTurns_59 : decode cX1_tellByTurns 59 = .ok (.aload_n 0, 1) := by decide +kernel
theorem dX1_tellByTurns_60 : decode cX1_tellByTurns 60 = .ok (.getfield 41, 3) := by decide +kernel
theorem dX1_tellByTurns_63 : decode cX1_tellByTurns 63 = .ok (.i2l, 1) := by decide +kernel
theorem dX1_tellByTurns_64 : decode cX1_tellByTurns 64 = .ok (.invokestatic 60, 3) := by decide +kernel
theorem dX1_tellByTurns_67 : decode cX1_tellByTurns 67 = .ok (.lstore 4, 2) := by decide +kernel
theorem dX1_tellByTurns_69 : decode cX1_tellByTurns 69 = .ok (.aload_n 0, 1) := by decide +kernel
theorem dX1_tellByTurns_70 : decode cX1_tellByTurns 70 = .ok (.iload_n 2, 1) := by decide +kernel
theorem dX1_tellByTurns_71 : decode cX1_tellByTurns 71 = .ok (.ifCond .eq 13, 3) := by decide +kernel
theorem dX1_tellByTurns_74 : decode cX1_tellByTurns 74 = .ok (.aload_n 0, 1) := by decide +kernel
theorem dX1_tellByTurns_75 : decode cX1_tellByTurns 75 = .ok (.getfield 37, 3) := by decide +kernel
theorem dX1_tellByTurns_78 : decode cX1_tellByTurns 78 = .ok (.getfield 120, 3) := by decide +kernel
theorem dX1_tellByTurns_81 : decode cX1_tellByTurns 81 = .ok (.goto 10, 3) := by decide +kernel
theorem dX1_tellByTurns_84 : decode cX1_tellByTurns 84 = .ok (.aload_n 0, 1) := by decide +kernel
theorem dX1_tellByTurns_85 : decode cX1_tellByTurns 85 = .ok (.getfield 37, 3) := by decide +kernel
theorem dX1_tellByTurns_88 : decode cX1_tellByTurns 88 = .ok (.getfield 88, 3) := by decide +kernel
theorem dX1_tellByTurns_91 : decode cX1_tellByTurns 91 = .ok (.iload_n 3, 1) := by decide +kernel
theorem dX1_tellByTurns_92 : decode cX1_tellByTurns 92 = .ok (.invokevirtual 84, 3) := by decide +kernel
theorem dX1_tellByTurns_95 : decode cX1_tellByTurns 95 = .ok (.aload_n 0, 1) := by decide +kernel
theorem dX1_tellByTurns_96 : decode cX1_tellByTurns 96 = .ok (.getfield 41, 3) := by decide +kernel
theorem dX1_tellByTurns_99 : decode cX1_tellByTurns 99 = .ok (.i2l, 1) := by decide +kernel
theorem dX1_tellByTurns_100 : decode cX1_tellByTurns 100 = .ok (.invokestatic 60, 3) := by decide +kernel
theorem dX1_tellByTurns_103 : decode cX1_tellByTurns 103 = .ok (.lstore 6, 2) := by decide +kernel
theorem dX1_tellByTurns_105 : decode cX1_tellByTurns 105 = .ok (.iload_n 2, 1) := by decide +kernel
theorem dX1_tellByTurns_106 : decode cX1_tellByTurns 106 = .ok (.ifCond .eq 21, 3) := by decide +kernel
theorem dX1_tellByTurns_109 : decode cX1_tellByTurns 109 = .ok (.aload_n 0, 1) := by decide +kernel
theorem dX1_tellByTurns_110 : decode cX1_tellByTurns 110 = .ok (.aload_n 0, 1) := by decide +kernel
theorem dX1_tellByTurns_111 : decode cX1_tellByTurns 111 = .ok (.getfield 37, 3) := by decide +kernel
theorem dX1_tellByTurns_114 : decode cX1_tellByTurns 114 = .ok (.getfield 91, 3) := by decide +kernel
theorem dX1_tellByTurns_117 : decode cX1_tellByTurns 117 = .ok (.iconst 2, 1) := by decide +kernel
theorem dX1_tellByTurns_118 : decode cX1_tellByTurns 118 = .ok (.iload_n 3, 1) := by decide +kernel
theorem dX1_tellByTurns_119 : decode cX1_tellByTurns 119 = .ok (.imul, 1) := by decide +kernel
theorem dX1_tellByTurns_120 : decode cX1_tellByTurns 120 = .ok (.invokevirtual 84, 3) := by decide +kernel
theorem dX1_tellByTurns_123 : decode cX1_tellByTurns 123 = .ok (.lneg, 1) := by decide +kernel
theorem dX1_tellByTurns_124 : decode cX1_tellByTurns 124 = .ok (.goto 19, 3) := by decide +kernel
theorem dX1_tellByTurns_127 : decode cX1_tellByTurns 127 = .ok (.aload_n 0, 1) := by decide +kernel
theorem dX1_tellByTurns_128 : decode cX1_tellByTurns 128 = .ok (.aload_n 0, 1) := by decide +kernel
theorem dX1_tellByTurns_129 : decode cX1_tellByTurns 129 = .ok (.getfield 37, 3) := by decide +kernel
theorem dX1_tellByTurns_132 : decode cX1_tellByTurns 132 = .ok (.getfield 91, 3) := by decide +kernel
theorem dX1_tellByTurns_135 : decode cX1_tellByTurns 135 = .ok (.iconst 2, 1) := by decide +kernel
theorem dX1_tellByTurns_136 : decode cX1_tellByTurns 136 = .ok (.iload_n 3, 1) := by decide +kernel
theorem dX1_tellByTurns_137 : decode cX1_tellByTurns 137 = .ok (.imul, 1) := by decide +kernel
theorem dX1_tellByTurns_138 : decode cX1_tellByTurns 138 = .ok (.iconst 1, 1) := by decide +kernel
theorem dX1_tellByTurns_139 : decode cX1_tellByTurns 139 = .ok (.isub, 1) := by decide +kernel
theorem dX1_tellByTurns_140 : decode cX1_tellByTurns 140 = .ok (.invokevirtual 84, 3) := by decide +kernel
theorem dX1_tellByTurns_143 : decode cX1_tellByTurns 143 = .ok (.aload_n 0, 1) := by decide +kernel
theorem dX1_tellByTurns_144 : decode cX1_tellByTurns 144 = .ok (.getfield 41, 3) := by decide +kernel
theorem dX1_tellByTurns_147 : decode cX1_tellByTurns 147 = .ok (.i2l, 1) := by decide +kernel
theorem dX1_tellByTurns_148 : decode cX1_tellByTurns 148 = .ok (.invokestatic 60, 3) := by decide +kernel
theorem dX1_tellByTurns_151 : decode cX1_tellByTurns 151 = .ok (.lstore 8, 2) := by decide +kernel
theorem dX1_tellByTurns_153 : decode cX1_tellByTurns 153 = .ok (.aload_n 0, 1) := by decide +kernel
theorem dX1_tellByTurns_154 : decode cX1_tellByTurns 154 = .ok (.lload 4, 2) := by decide +kernel
theorem dX1_tellByTurns_156 : decode cX1_tellByTurns 156 = .ok (.lload 6, 2) := by decide +kernel
theorem dX1_tellByTurns_158 : decode cX1_tellByTurns 158 = .ok (.lload 8, 2) := by decide +kernel
theorem dX1_tellByTurns_160 : decode cX1_tellByTurns 160 = .ok (.invokevirtual 166, 3) := by decide +kernel
theorem dX1_tellByTurns_163 : decode cX1_tellByTurns 163 = .ok (.istore 10, 2) := by decide +kernel
theorem dX1_tellByTurns_165 : decode cX1_tellByTurns 165 = .ok (.aload_n 0, 1) := by decide +kernel
theorem dX1_tellByTurns_166 : decode cX1_tellByTurns 166 = .ok (.lload 4, 2) := by decide +kernel
theorem dX1_tellByTurns_168 : decode cX1_tellByTurns 168 = .ok (.lload 6, 2) := by decide +kernel
theorem dX1_tellByTurns_170 : decode cX1_tellByTurns 170 = .ok (.lload 8, 2) := by decide +kernel
theorem dX1_tellByTurns_172 : decode cX1_tellByTurns 172 = .ok (.invokevirtual 176, 3) := by decide +kernel
theorem dX1_tellByTurns_175 : decode cX1_tellByTurns 175 = .ok (.ifCond .eq 37, 3) := by decide +kernel
theorem dX1_tellByTurns_178 : decode cX1_tellByTurns 178 = .ok (.aload_n 0, 1) := by decide +kernel
theorem dX1_tellByTurns_179 : decode cX1_tellByTurns 179 = .ok (.bipush 6, 2) := by decide +kernel
theorem dX1_tellByTurns_181 : decode cX1_tellByTurns 181 = .ok (.aload_n 0, 1) := by decide +kernel
theorem dX1_tellByTurns_182 : decode cX1_tellByTurns 182 = .ok (.getfield 27, 3) := by decide +kernel
theorem dX1_tellByTurns_185 : decode cX1_tellByTurns 185 = .ok (.iconst 4, 1) := by decide +kernel
theorem dX1_tellByTurns_186 : decode cX1_tellByTurns 186 = .ok (.isub, 1) := by decide +kernel
theorem dX1_tellByTurns_187 : decode cX1_tellByTurns 187 = .ok (.iload_n 1, 1) := by decide +kernel
theorem dX1_tellByTurns_188 : decode cX1_tellByTurns 188 = .ok (.isub, 1) := by decide +kernel
theorem dX1_tellByTurns_189 : decode cX1_tellByTurns 189 = .ok (.iconst 5, 1) := by decide +kernel
theorem dX1_tellByTurns_190 : decode cX1_tellByTurns 190 = .ok (.iload_n 1, 1) := by decide +kernel
theorem dX1_tellByTurns_191 : decode cX1_tellByTurns 191 = .ok (.iadd, 1) := by decide +kernel
theorem dX1_tellByTurns_192 : decode cX1_tellByTurns 192 = .ok (.iload 10, 2) := by decide +kernel
theorem dX1_tellByTurns_194 : decode cX1_tellByTurns 194 = .ok (.iconst (-1), 1) := by decide +kernel
theorem dX1_tellByTurns_195 : decode cX1_tellByTurns 195 = .ok (.if_icmp .ne 7, 3) := by decide +kernel
theorem dX1_tellByTurns_198 : decode cX1_tellByTurns 198 = .ok (.iconst 2, 1) := by decide +kernel
theorem dX1_tellByTurns_199 : decode cX1_tellByTurns 199 = .ok (.goto 4, 3) := by decide +kernel
theorem dX1_tellByTurns_202 : decode cX1_tellByTurns 202 = .ok (.iconst 4, 1) := by decide +kernel
theorem dX1_tellByTurns_203 : decode cX1_tellByTurns 203 = .ok (.invokevirtual 53, 3) := by decide +kernel
theorem dX1_tellByTurns_206 : decode cX1_tellByTurns 206 = .ok (.aload_n 0, 1) := by decide +kernel
theorem dX1_tellByTurns_207 : decode cX1_tellByTurns 207 = .ok (.iload_n 1, 1) := by decide +kernel
theorem dX1_tellByTurns_208 : decode cX1_tellByTurns 208 = .ok (.putfield 15, 3) := by decide +kernel
theorem dX1_tellByTurns_211 : decode cX1_tellByTurns 211 = .ok (.return_, 1) := by decide +kernel
theorem dX1_tellByTurns_212 : decode cX1_tellByTurns 212 = .ok (.iload_n 2, 1) := by decide +kernel
theorem dX1_tellByTurns_213 : decode cX1_tellByTurns 213 = .ok (.ifCond .eq 28, 3) := by decide +kernel
theorem dX1_tellByTurns_216 : decode cX1_tellByTurns 216 = .ok (.aload_n 0, 1) := by decide +kernel
theorem dX1_tellByTurns_217 : decode cX1_tellByTurns 217 = .ok (.getfield 37, 3) := by decide +kernel
theorem dX1_tellByTurns_220 : decode cX1_tellByTurns 220 = .ok (.lconst 0, 1) := by decide +kernel
theorem dX1_tellByTurns_221 : decode cX1_tellByTurns 221 = .ok (.lconst 0, 1) := by decide +kernel
theorem dX1_tellByTurns_222 : decode cX1_tellByTurns 222 = .ok (.iload 10, 2) := by decide +kernel
theorem dX1_tellByTurns_224 : decode cX1_tellByTurns 224 = .ok (.i2l, 1) := by decide +kernel
theorem dX1_tellByTurns_225 : decode cX1_tellByTurns 225 = .ok (.aload_n 0, 1) := by decide +kernel
theorem dX1_tellByTurns_226 : decode cX1_tellByTurns 226 = .ok (.getfield 41, 3) := by decide +kernel
theorem dX1_tellByTurns_229 : decode cX1_tellByTurns 229 = .ok (.i2l, 1) := by decide +kernel
theorem dX1_tellByTurns_230 : decode cX1_tellByTurns 230 = .ok (.iload_n 3, 1) := by decide +kernel
theorem dX1_tellByTurns_231 : decode cX1_tellByTurns 231 = .ok (.invokestatic 153, 3) := by decide +kernel
theorem dX1_tellByTurns_234 : decode cX1_tellByTurns 234 = .ok (.lmul, 1) := by decide +kernel
theorem dX1_tellByTurns_235 : decode cX1_tellByTurns 235 = .ok (.invokevirtual 108, 3) := by decide +kernel
theorem dX1_tellByTurns_238 : decode cX1_tellByTurns 238 = .ok (.goto 27, 3) := by decide +kernel
theorem dX1_tellByTurns_241 : decode cX1_tellByTurns 241 = .ok (.aload_n 0, 1) := by decide +kernel
theorem dX1_tellByTurns_242 : decode cX1_tellByTurns 242 = .ok (.getfield 37, 3) := by decide +kernel
theorem dX1_tellByTurns_245 : decode cX1_tellByTurns 245 = .ok (.iload 10, 2) := by decide +kernel
theorem dX1_tellByTurns_247 : decode cX1_tellByTurns 247 = .ok (.i2l, 1) := by decide +kernel
theorem dX1_tellByTurns_248 : decode cX1_tellByTurns 248 = .ok (.aload_n 0, 1) := by decide +kernel
theorem dX1_tellByTurns_249 : decode cX1_tellByTurns 249 = .ok (.getfield 41, 3) := by decide +kernel
theorem dX1_tellByTurns_252 : decode cX1_tellByTurns 252 = .ok (.i2l, 1) := by decide +kernel
theorem dX1_tellByTurns_253 : decode cX1_tellByTurns 253 = .ok (.iload_n 3, 1) := by decide +kernel
theorem dX1_tellByTurns_254 : decode cX1_tellByTurns 254 = .ok (.iconst 1, 1) := by decide +kernel
theorem dX1_tellByTurns_255 : decode cX1_tellByTurns 255 = .ok (.isub, 1) := by decide +kernel
theorem dX1_tellByTurns_256 : decode cX1_tellByTurns 256 = .ok (.invokestatic 153, 3) := by decide +kernel
theorem dX1_tellByTurns_259 : decode cX1_tellByTurns 259 = .ok (.lmul, 1) := by decide +kernel
theorem dX1_tellByTurns_260 : decode cX1_tellByTurns 260 = .ok (.lconst 0, 1) := by decide +kernel
theorem dX1_tellByTurns_261 : decode cX1_tellByTurns 261 = .ok (.lconst 0, 1) := by decide +kernel
theorem dX1_tellByTurns_262 : decode cX1_tellByTurns 262 = .ok (.invokevirtual 108, 3) := by decide +kernel
theorem dX1_tellByTurns_265 : decode cX1_tellByTurns 265 = .ok (.iinc 1 1, 3) := by decide +kernel
theorem dX1_tellByTurns_268 : decode cX1_tellByTurns 268 = .ok (.goto (-266), 3) := by decide +kernel
theorem dX1_tellByTurns_271 : decode cX1_tellByTurns 271 = .ok (.return_, 1) := by decide +kernel
theorem dX1_tellLateKind_0 : decode cX1_tellLateKind 0 = .ok (.aload_n 0, 1) := by decide +kernel
theorem dX1_tellLateKind_1 : decode cX1_tellLateKind 1 = .ok (.aload_n 0, 1) := by decide +kernel
theorem dX1_tellLateKind_2 : decode cX1_tellLateKind 2 = .ok (.getfield 37, 3) := by decide +kernel
theorem dX1_tellLateKind_5 : decode cX1_tellLateKind 5 = .ok (.getfield 120, 3) := by decide +kernel
theorem dX1_tellLateKind_8 : decode cX1_tellLateKind 8 = .ok (.iconst 2, 1) := by decide +kernel
theorem dX1_tellLateKind_9 : decode cX1_tellLateKind 9 = .ok (.invokevirtual 84, 3) := by decide +kernel
theorem dX1_tellLateKind_12 : decode cX1_tellLateKind 12 = .ok (.aload_n 0, 1) := by decide +kernel
theorem dX1_tellLateKind_13 : decode cX1_tellLateKind 13 = .ok (.getfield 41, 3) := by decide +kernel
theorem dX1_tellLateKind_16 : decode cX1_tellLateKind 16 = .ok (.i2l, 1) := by decide +kernel
theorem dX1_tellLateKind_17 : decode cX1_tellLateKind 17 = .ok (.invokestatic 60, 3) := by decide +kernel
theorem dX1_tellLateKind_20 : decode cX1_tellLateKind 20 = .ok (.lstore_n 1, 1) := by decide +kernel
theorem dX1_tellLateKind_21 : decode cX1_tellLateKind 21 = .ok (.aload_n 0, 1) := by decide +kernel
theorem dX1_tellLateKind_22 : decode cX1_tellLateKind 22 = .ok (.aload_n 0, 1) := by decide +kernel
theorem dX1_tellLateKind_23 : decode cX1_tellLateKind 23 = .ok (.getfield 37, 3) := by decide +kernel
theorem dX1_tellLateKind_26 : decode cX1_tellLateKind 26 = .ok (.getfield 91, 3) := by decide +kernel
theorem dX1_tellLateKind_29 : decode cX1_tellLateKind 29 = .ok (.iconst 4, 1) := by decide +kernel
theorem dX1_tellLateKind_30 : decode cX1_tellLateKind 30 = .ok (.invokevirtual 84, 3) := by decide +kernel
theorem dX1_tellLateKind_33 : decode cX1_tellLateKind 33 = .ok (.lneg, 1) := by decide +kernel
theorem dX1_tellLateKind_34 : decode cX1_tellLateKind 34 = .ok (.aload_n 0, 1) := by decide +kernel
theorem dX1_tellLateKind_35 : decode cX1_tellLateKind 35 = .ok (.getfield 41, 3) := by decide +kernel
theorem dX1_tellLateKind_38 : decode cX1_tellLateKind 38 = .ok (.i2l, 1) := by decide +kernel
theorem dX1_tellLateKind_39 : decode cX1_tellLateKind 39 = .ok (.invokestatic 60, 3) := by decide +kernel
theorem dX1_tellLateKind_42 : decode cX1_tellLateKind 42 = .ok (.lstore_n 3, 1) := by decide +kernel
theorem dX1_tellLateKind_43 : decode cX1_tellLateKind 43 = .ok (.aload_n 0, 1) := by decide +kernel
theorem dX1_tellLateKind_44 : decode cX1_tellLateKind 44 = .ok (.lconst 1, 1) := by decide +kernel
theorem dX1_tellLateKind_45 : decode cX1_tellLateKind 45 = .ok (.lload_n 1, 1) := by decide +kernel
theorem dX1_tellLateKind_46 : decode cX1_tellLateKind 46 = .ok (.lload_n 3, 1) := by decide +kernel
