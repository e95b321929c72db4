theorem dX8_falls_213 : decode cX8_falls 213 = .ok (.invokevirtual 164, 3) := by decide +kernel
theorem dX8_falls_216 : decode cX8_falls 216 = .ok (.goto 10, 3) := by decide +kernel
theorem dX8_falls_219 : decode cX8_falls 219 = .ok (.aload_n 0, 1) := by decide +kernel
theorem dX8_falls_220 : decode cX8_falls 220 = .ok (.lload_n 1, 1) := by decide +kernel
theorem dX8_falls_221 : decode cX8_falls 221 = .ok (.iload_n 3, 1) := by decide +kernel
theorem dX8_falls_222 : decode cX8_falls 222 = .ok (.invokevirtual 220, 3) := by decide +kernel
theorem dX8_falls_225 : decode cX8_falls 225 = .ok (.ireturn, 1) := by decide +kernel
theorem dX8_falls_226 : decode cX8_falls 226 = .ok (.iconst 1, 1) := by decide +kernel
theorem dX8_falls_227 : decode cX8_falls 227 = .ok (.ireturn, 1) := by decide +kernel
theorem dX8_fallsOn_0 : decode cX8_fallsOn 0 = .ok (.aload_n 0, 1) := by decide +kernel
theorem dX8_fallsOn_1 : decode cX8_fallsOn 1 = .ok (.lload_n 1, 1) := by decide +kernel
theorem dX8_fallsOn_2 : decode cX8_fallsOn 2 = .ok (.invokevirtual 224, 3) := by decide +kernel
theorem dX8_fallsOn_5 : decode cX8_fallsOn 5 = .ok (.aload_n 0, 1) := by decide +kernel
theorem dX8_fallsOn_6 : decode cX8_fallsOn 6 = .ok (.lload_n 1, 1) := by decide +kernel
theorem dX8_fallsOn_7 : decode cX8_fallsOn 7 = .ok (.invokevirtual 227, 3) := by decide +kernel
theorem dX8_fallsOn_10 : decode cX8_fallsOn 10 = .ok (.istore 4, 2) := by decide +kernel
theorem dX8_fallsOn_12 : decode cX8_fallsOn 12 = .ok (.iload 4, 2) := by decide +kernel
theorem dX8_fallsOn_14 : decode cX8_fallsOn 14 = .ok (.iconst 3, 1) := by decide +kernel
theorem dX8_fallsOn_15 : decode cX8_fallsOn 15 = .ok (.if_icmp .ne 23, 3) := by decide +kernel
theorem dX8_fallsOn_18 : decode cX8_fallsOn 18 = .ok (.aload_n 0, 1) := by decide +kernel
theorem dX8_fallsOn_19 : decode cX8_fallsOn 19 = .ok (.iconst 5, 1) := by decide +kernel
theorem dX8_fallsOn_20 : decode cX8_fallsOn 20 = .ok (.iconst 0, 1) := by decide +kernel
theorem dX8_fallsOn_21 : decode cX8_fallsOn 21 = .ok (.iload_n 3, 1) := by decide +kernel
theorem dX8_fallsOn_22 : decode cX8_fallsOn 22 = .ok (.iconst 4, 1) := by decide +kernel
theorem dX8_fallsOn_23 : decode cX8_fallsOn 23 = .ok (.isub, 1) := by decide +kernel
theorem dX8_fallsOn_24 : decode cX8_fallsOn 24 = .ok (.iconst 5, 1) := by decide +kernel
theorem dX8_fallsOn_25 : decode cX8_fallsOn 25 = .ok (.iconst 1, 1) := by decide +kernel
theorem dX8_fallsOn_26 : decode cX8_fallsOn 26 = .ok (.aload_n 0, 1) := by decide +kernel
theorem dX8_fallsOn_27 : decode cX8_fallsOn 27 = .ok (.lload_n 1, 1) := by decide +kernel
theorem dX8_fallsOn_28 : decode cX8_fallsOn 28 = .ok (.invokevirtual 231, 3) := by decide +kernel
theorem dX8_fallsOn_31 : decode cX8_fallsOn 31 = .ok (.iadd, 1) := by decide +kernel
theorem dX8_fallsOn_32 : decode cX8_fallsOn 32 = .ok (.iload_n 3, 1) := by decide +kernel
theorem dX8_fallsOn_33 : decode cX8_fallsOn 33 = .ok (.invokevirtual 164, 3) := by decide +kernel
theorem dX8_fallsOn_36 : decode cX8_fallsOn 36 = .ok (.iconst 1, 1) := by decide +kernel
theorem dX8_fallsOn_37 : decode cX8_fallsOn 37 = .ok (.ireturn, 1) := by decide +kernel
theorem dX8_fallsOn_38 : decode cX8_fallsOn 38 = .ok (.aload_n 0, 1) := by decide +kernel
theorem dX8_fallsOn_39 : decode cX8_fallsOn 39 = .ok (.lload_n 1, 1) := by decide +kernel
theorem dX8_fallsOn_40 : decode cX8_fallsOn 40 = .ok (.iload 4, 2) := by decide +kernel
theorem dX8_fallsOn_42 : decode cX8_fallsOn 42 = .ok (.iconst 1, 1) := by decide +kernel
theorem dX8_fallsOn_43 : decode cX8_fallsOn 43 = .ok (.if_icmp .ne 7, 3) := by decide +kernel
theorem dX8_fallsOn_46 : decode cX8_fallsOn 46 = .ok (.iconst 1, 1) := by decide +kernel
theorem dX8_fallsOn_47 : decode cX8_fallsOn 47 = .ok (.goto 4, 3) := by decide +kernel
theorem dX8_fallsOn_50 : decode cX8_fallsOn 50 = .ok (.iconst 0, 1) := by decide +kernel
theorem dX8_fallsOn_51 : decode cX8_fallsOn 51 = .ok (.invokevirtual 234, 3) := by decide +kernel
theorem dX8_fallsOn_54 : decode cX8_fallsOn 54 = .ok (.iload 4, 2) := by decide +kernel
theorem dX8_fallsOn_56 : decode cX8_fallsOn 56 = .ok (.iconst 2, 1) := by decide +kernel
theorem dX8_fallsOn_57 : decode cX8_fallsOn 57 = .ok (.if_icmp .ne 11, 3) := by decide +kernel
theorem dX8_fallsOn_60 : decode cX8_fallsOn 60 = .ok (.aload_n 0, 1) := by decide +kernel
theorem dX8_fallsOn_61 : decode cX8_fallsOn 61 = .ok (.lload_n 1, 1) := by decide +kernel
theorem dX8_fallsOn_62 : decode cX8_fallsOn 62 = .ok (.iload_n 3, 1) := by decide +kernel
theorem dX8_fallsOn_63 : decode cX8_fallsOn 63 = .ok (.invokevirtual 238, 3) := by decide +kernel
theorem dX8_fallsOn_66 : decode cX8_fallsOn 66 = .ok (.iconst 1, 1) := by decide +kernel
theorem dX8_fallsOn_67 : decode cX8_fallsOn 67 = .ok (.ireturn, 1) := by decide +kernel
theorem dX8_fallsOn_68 : decode cX8_fallsOn 68 = .ok (.aload_n 0, 1) := by decide +kernel
theorem dX8_fallsOn_69 : decode cX8_fallsOn 69 = .ok (.getfield 13, 3) := by decide +kernel
theorem dX8_fallsOn_72 : decode cX8_fallsOn 72 = .ok (.iconst 2, 1) := by decide +kernel
theorem dX8_fallsOn_73 : decode cX8_fallsOn 73 = .ok (.laload, 1) := by decide +kernel
theorem dX8_fallsOn_74 : decode cX8_fallsOn 74 = .ok (.lload_n 1, 1) := by decide +kernel
theorem dX8_fallsOn_75 : decode cX8_fallsOn 75 = .ok (.lload_n 1, 1) := by decide +kernel
theorem dX8_fallsOn_76 : decode cX8_fallsOn 76 = .ok (.lmul, 1) := by decide +kernel
theorem dX8_fallsOn_77 : decode cX8_fallsOn 77 = .ok (.ldiv, 1) := by decide +kernel
theorem dX8_fallsOn_78 : decode cX8_fallsOn 78 = .ok (.lload_n 1, 1) := by decide +kernel
theorem dX8_fallsOn_79 : decode cX8_fallsOn 79 = .ok (.invokestatic 138, 3) := by decide +kernel
theorem dX8_fallsOn_82 : decode cX8_fallsOn 82 = .ok (.lstore 5, 2) := by decide +kernel
theorem dX8_fallsOn_84 : decode cX8_fallsOn 84 = .ok (.aload_n 0, 1) := by decide +kernel
theorem dX8_fallsOn_85 : decode cX8_fallsOn 85 = .ok (.getfield 13, 3) := by decide +kernel
theorem dX8_fallsOn_88 : decode cX8_fallsOn 88 = .ok (.iconst 4, 1) := by decide +kernel
theorem dX8_fallsOn_89 : decode cX8_fallsOn 89 = .ok (.laload, 1) := by decide +kernel
theorem dX8_fallsOn_90 : decode cX8_fallsOn 90 = .ok (.lload_n 1, 1) := by decide +kernel
theorem dX8_fallsOn_91 : decode cX8_fallsOn 91 = .ok (.iconst 4, 1) := by decide +kernel
theorem dX8_fallsOn_92 : decode cX8_fallsOn 92 = .ok (.invokestatic 83, 3) := by decide +kernel
theorem dX8_fallsOn_95 : decode cX8_fallsOn 95 = .ok (.ldiv, 1) := by decide +kernel
theorem dX8_fallsOn_96 : decode cX8_fallsOn 96 = .ok (.lneg, 1) := by decide +kernel
theorem dX8_fallsOn_97 : decode cX8_fallsOn 97 = .ok (.lload_n 1, 1) := by decide +kernel
theorem dX8_fallsOn_98 : decode cX8_fallsOn 98 = .ok (.invokestatic 138, 3) := by decide +kernel
theorem dX8_fallsOn_101 : decode cX8_fallsOn 101 = .ok (.lstore 7, 2) := by decide +kernel
theorem dX8_fallsOn_103 : decode cX8_fallsOn 103 = .ok (.aload_n 0, 1) := by decide +kernel
theorem dX8_fallsOn_104 : decode cX8_fallsOn 104 = .ok (.lload_n 1, 1) := by decide +kernel
theorem dX8_fallsOn_105 : decode cX8_fallsOn 105 = .ok (.lconst 1, 1) := by decide +kernel
theorem dX8_fallsOn_106 : decode cX8_fallsOn 106 = .ok (.lload 5, 2) := by decide +kernel
theorem dX8_fallsOn_108 : decode cX8_fallsOn 108 = .ok (.lload 7, 2) := by decide +kernel
theorem dX8_fallsOn_110 : decode cX8_fallsOn 110 = .ok (.invokevirtual 209, 3) := by decide +kernel
theorem dX8_fallsOn_113 : decode cX8_fallsOn 113 = .ok (.istore 9, 2) := by decide +kernel
theorem dX8_fallsOn_115 : decode cX8_fallsOn 115 = .ok (.lload_n 1, 1) := by decide +kernel
theorem dX8_fallsOn_116 : decode cX8_fallsOn 116 = .ok (.lconst 1, 1) := by decide +kernel
theorem dX8_fallsOn_117 : decode cX8_fallsOn 117 = .ok (.lload 5, 2) := by decide +kernel
theorem dX8_fallsOn_119 : decode cX8_fallsOn 119 = .ok (.lload 7, 2) := by decide +kernel
theorem dX8_fallsOn_121 : decode cX8_fallsOn 121 = .ok (.invokestatic 205, 3) := by decide +kernel
theorem dX8_fallsOn_124 : decode cX8_fallsOn 124 = .ok (.ifCond .eq 29, 3) := by decide +kernel
theorem dX8_fallsOn_127 : decode cX8_fallsOn 127 = .ok (.aload_n 0, 1) := by decide +kernel
theorem dX8_fallsOn_128 : decode cX8_fallsOn 128 = .ok (.bipush 7, 2) := by decide +kernel
theorem dX8_fallsOn_130 : decode cX8_fallsOn 130 = .ok (.iconst 0, 1) := by decide +kernel
theorem dX8_fallsOn_131 : decode cX8_fallsOn 131 = .ok (.iload_n 3, 1) := by decide +kernel
theorem dX8_fallsOn_132 : decode cX8_fallsOn 132 = .ok (.bipush 6, 2) := by decide +kernel
theorem dX8_fallsOn_134 : decode cX8_fallsOn 134 = .ok (.isub, 1) := by decide +kernel
theorem dX8_fallsOn_135 : decode cX8_fallsOn 135 = .ok (.bipush 7, 2) := by decide +kernel
theorem dX8_fallsOn_137 : decode cX8_fallsOn 137 = .ok (.iload 9, 2) := by decide +kernel
theorem dX8_fallsOn_139 : decode cX8_fallsOn 139 = .ok (.ifCond .le 7, 3) := by decide +kernel
theorem dX8_fallsOn_142 : decode cX8_fallsOn 142 = .ok (.iconst 3, 1) := by decide +kernel
theorem dX8_fallsOn_143 : decode cX8_fallsOn 143 = .ok (.goto 4, 3) := by decide +kernel
theorem dX8_fallsOn_146 : decode cX8_fallsOn 146 = .ok (.iconst 1, 1) := by decide +kernel
theorem dX8_fallsOn_147 : decode cX8_fallsOn 147 = .ok (.iload_n 3, 1) := by decide +kernel
theorem dX8_fallsOn_148 : decode cX8_fallsOn 148 = .ok (.invokevirtual 164, 3) := by decide +kernel
theorem dX8_fallsOn_151 : decode cX8_fallsOn 151 = .ok (.iconst 1, 1) := by decide +kernel
theorem dX8_fallsOn_152 : decode cX8_fallsOn 152 = .ok (.ireturn, 1) := by decide +kernel
theorem dX8_fallsOn_153 : decode cX8_fallsOn 153 = .ok (.aload_n 0, 1) := by decide +kernel
theorem dX8_fallsOn_154 : decode cX8_fallsOn 154 = .ok (.lconst 0, 1) := by decide +kernel
theorem dX8_fallsOn_155 : decode cX8_fallsOn 155 = .ok (.lconst 0, 1) := by decide +kernel
theorem dX8_fallsOn_156 : decode cX8_fallsOn 156 = .ok (.aload_n 0, 1) := by decide +kernel
theorem dX8_fallsOn_157 : decode cX8_fallsOn 157 = .ok (.getfield 183, 3) := by decide +kernel
theorem dX8_fallsOn_160 : decode cX8_fallsOn 160 = .ok (.lload_n 1, 1) := by decide +kernel
theorem dX8_fallsOn_161 : decode cX8_fallsOn 161 = .ok (.lmul, 1) := by decide +kernel
theorem dX8_fallsOn_162 : decode cX8_fallsOn 162 = .ok (.lload_n 1, 1) := by decide +kernel
theorem dX8_fallsOn_163 : decode cX8_fallsOn 163 = .ok (.lmul, 1) := by decide +kernel
theorem dX8_fallsOn_164 : decode cX8_fallsOn 164 = .ok (.invokevirtual 124, 3) := by decide +kernel
theorem dX8_fallsOn_167 : decode cX8_fallsOn 167 = .ok (.aload_n 0, 1) := by decide +kernel
theorem dX8_fallsOn_168 : decode cX8_fallsOn 168 = .ok (.lload_n 1, 1) := by decide +kernel
theorem dX8_fallsOn_169 : decode cX8_fallsOn 169 = .ok (.iconst 3, 1) := by decide +kernel
theorem dX8_fallsOn_170 : decode cX8_fallsOn 170 = .ok (.iconst 4, 1) := by decide +kernel
theorem dX8_fallsOn_171 : decode cX8_fallsOn 171 = .ok (.invokevirtual 187, 3) := by decide +kernel
theorem dX8_fallsOn_174 : decode cX8_fallsOn 174 = .ok (.ifCond .ne 21, 3) := by decide +kernel
theorem dX8_fallsOn_177 : decode cX8_fallsOn 177 = .ok (.aload_n 0, 1) := by decide +kernel
theorem dX8_fallsOn_178 : decode cX8_fallsOn 178 = .ok (.bipush 8, 2) := by decide +kernel
theorem dX8_fallsOn_180 : decode cX8_fallsOn 180 = .ok (.iconst 0, 1) := by decide +kernel
theorem dX8_fallsOn_181 : decode cX8_fallsOn 181 = .ok (.iload_n 3, 1) := by decide +kernel
theorem dX8_fallsOn_182 : decode cX8_fallsOn 182 = .ok (.bipush 7, 2) := by decide +kernel
theorem dX8_fallsOn_184 : decode cX8_fallsOn 184 = .ok (.isub, 1) := by decide +kernel
theorem dX8_fallsOn_185 : decode cX8_fallsOn 185 = .ok (.bipush 8, 2) := by decide +kernel
theorem dX8_fallsOn_187 : decode cX8_fallsOn 187 = .ok (.iconst 2, 1) := by decide +kernel
theorem dX8_fallsOn_188 : decode cX8_fallsOn 188 = .ok (.iload_n 3, 1) := by decide +kernel
theorem dX8_fallsOn_189 : decode cX8_fallsOn 189 = .ok (.invokevirtual 164, 3) := by decide +kernel
theorem dX8_fallsOn_192 : decode cX8_fallsOn 192 = .ok (.goto 34, 3) := by decide +kernel
theorem dX8_fallsOn_195 : decode cX8_fallsOn 195 = .ok (.aload_n 0, 1) := by decide +kernel
theorem dX8_fallsOn_196 : decode cX8_fallsOn 196 = .ok (.lload_n 1, 1) := by decide +kernel
theorem dX8_fallsOn_197 : decode cX8_fallsOn 197 = .ok (.iconst 4, 1) := by decide +kernel
theorem dX8_fallsOn_198 : decode cX8_fallsOn 198 = .ok (.bipush 6, 2) := by decide +kernel
theorem dX8_fallsOn_200 : decode cX8_fallsOn 200 = .ok (.invokevirtual 187, 3) := by decide +kernel
theorem dX8_fallsOn_203 : decode cX8_fallsOn 203 = .ok (.ifCond .ne 21, 3) := by decide +kernel
theorem dX8_fallsOn_206 : decode cX8_fallsOn 206 = .ok (.aload_n 0, 1) := by decide +kernel
theorem dX8_fallsOn_207 : decode cX8_fallsOn 207 = .ok (.bipush 9, 2) := by decide +kernel
theorem dX8_fallsOn_209 : decode cX8_fallsOn 209 = .ok (.iconst 0, 1) := by decide +kernel
theorem dX8_fallsOn_210 : decode cX8_fallsOn 210 = .ok (.iload_n 3, 1) := by decide +kernel
theorem dX8_fallsOn_211 : decode cX8_fallsOn 211 = .ok (.bipush 8, 2) := by decide +kernel
theorem dX8_fallsOn_213 : decode cX8_fallsOn 213 = .ok (.isub, 1) := by decide +kernel
theorem dX8_fallsOn_214 : decode cX8_fallsOn 214 = .ok (.bipush 9, 2) := by decide +kernel
theorem dX8_fallsOn_216 : decode cX8_fallsOn 216 = .ok (.iconst 1, 1) := by decide +kernel
theorem dX8_fallsOn_217 : decode cX8_fallsOn 217 = .ok (.iload_n 3, 1) := by decide +kernel
theorem dX8_fallsOn_218 : decode cX8_fallsOn 218 = .ok (.invokevirtual 164, 3) := by decide +kernel
theorem dX8_fallsOn_221 : decode cX8_fallsOn 221 = .ok (.goto 5, 3) := by decide +kernel
theorem dX8_fallsOn_224 : decode cX8_fallsOn 224 = .ok (.iconst 0, 1) := by decide +kernel
theorem dX8_fallsOn_225 : decode cX8_fallsOn 225 = .ok (.ireturn, 1) := by decide +kernel
theorem dX8_fallsOn_226 : decode cX8_fallsOn 226 = .ok (.iconst 1, 1) := by decide +kernel
theorem dX8_fallsOn_227 : decode cX8_fallsOn 227 = .ok (.ireturn, 1) := by decide +kernel
theorem dX8_laysAt_0 : decode cX8_laysAt 0 = .ok (.aload_n 0, 1) := by decide +kernel
theorem dX8_laysAt_1 : decode cX8_laysAt 1 = .ok (.getfield 22, 3) := by decide +kernel
theorem dX8_laysAt_4 : decode cX8_laysAt 4 = .ok (.bipush 7, 2) := by decide +kernel
theorem dX8_laysAt_6 : decode cX8_laysAt 6 = .ok (.iconst 0, 1) := by decide +kernel
theorem dX8_laysAt_7 : decode cX8_laysAt 7 = .ok (.iastore, 1) := by decide +kernel
theorem dX8_laysAt_8 : decode cX8_laysAt 8 = .ok (.lload_n 1, 1) := by decide +kernel
theorem dX8_laysAt_9 : decode cX8_laysAt 9 = .ok (.ldc2_w 77, 3) := by decide +kernel
theorem dX8_laysAt_12 : decode cX8_laysAt 12 = .ok (.lcmp, 1) := by decide +kernel
theorem dX8_laysAt_13 : decode cX8_laysAt 13 = .ok (.ifCond .le 9, 3) := by decide +kernel
theorem dX8_laysAt_16 : decode cX8_laysAt 16 = .ok (.aload_n 0, 1) := by decide +kernel
theorem dX8_laysAt_17 : decode cX8_laysAt 17 = .ok (.lload_n 1, 1) := by decide +kernel
theorem dX8_laysAt_18 : decode cX8_laysAt 18 = .ok (.invokevirtual 242, 3) := by decide +kernel
theorem dX8_laysAt_21 : decode cX8_laysAt 21 = .ok (.return_, 1) := by decide +kernel
theorem dX8_laysAt_22 : decode cX8_laysAt 22 = .ok (.aload_n 0, 1) := by decide +kernel
theorem dX8_laysAt_23 : decode cX8_laysAt 23 = .ok (.lload_n 1, 1) := by decide +kernel
theorem dX8_laysAt_24 : decode cX8_laysAt 24 = .ok (.invokevirtual 245, 3) := by decide +kernel
theorem dX8_laysAt_27 : decode cX8_laysAt 27 = .ok (.ifCond .ne 23, 3) := by decide +kernel
theorem dX8_laysAt_30 : decode cX8_laysAt 30 = .ok (.aload_n 0, 1) := by decide +kernel
theorem dX8_laysAt_31 : decode cX8_laysAt 31 = .ok (.lload_n 1, 1) := by decide +kernel
theorem dX8_laysAt_32 : decode cX8_laysAt 32 = .ok (.invokevirtual 130, 3) := by decide +kernel
theorem dX8_laysAt_35 : decode cX8_laysAt 35 = .ok (.istore_n 3, 1) := by decide +kernel
theorem dX8_laysAt_36 : decode cX8_laysAt 36 = .ok (.aload_n 0, 1) := by decide +kernel
theorem dX8_laysAt_37 : decode cX8_laysAt 37 = .ok (.getfield 22, 3) := by decide +kernel
theorem dX8_laysAt_40 : decode cX8_laysAt 40 = .ok (.bipush 7, 2) := by decide +kernel
theorem dX8_laysAt_42 : decode cX8_laysAt 42 = .ok (.dup2, 1) := by decide +kernel
theorem dX8_laysAt_43 : decode cX8_laysAt 43 = .ok (.iaload, 1) := by decide +kernel
theorem dX8_laysAt_44 : decode cX8_laysAt 44 = .ok (.iconst 1, 1) := by decide +kernel
theorem dX8_laysAt_45 : decode cX8_laysAt 45 = .ok (.iadd, 1) := by decide +kernel
theorem dX8_laysAt_46 : decode cX8_laysAt 46 = .ok (.iastore, 1) := by decide +kernel
theorem dX8_laysAt_47 : decode cX8_laysAt 47 = .ok (.goto (-25), 3) := by decide +kernel
theorem dX8_laysAt_50 : decode cX8_laysAt 50 = .ok (.return_, 1) := by decide +kernel
theorem dX8_leads_0 : decode cX8_leads 0 = .ok (.lload_n 3, 1) := by decide +kernel
theorem dX8_leads_1 : decode cX8_leads 1 = .ok (.lneg, 1) := by decide +kernel
theorem dX8_leads_2 : decode cX8_leads 2 = .ok (.ldc2_w 248, 3) := by decide +kernel
theorem dX8_leads_5 : decode cX8_leads 5 = .ok (.invokestatic 138, 3) := by decide +kernel
theorem dX8_leads_8 : decode cX8_leads 8 = .ok (.lstore 5, 2) := by decide +kernel
theorem dX8_leads_10 : decode cX8_leads 10 = .ok (.lload 5, 2) := by decide +kernel
theorem dX8_leads_12 : decode cX8_leads 12 = .ok (.ldc2_w 250, 3) := by decide +kernel
theorem dX8_leads_15 : decode cX8_leads 15 = .ok (.lcmp, 1) := by decide +kernel
theorem dX8_leads_16 : decode cX8_leads 16 = .ok (.ifCond .le 12, 3) := by decide +kernel
theorem dX8_leads_19 : decode cX8_leads 19 = .ok (.lload 5, 2) := by decide +kernel
theorem dX8_leads_21 : decode cX8_leads 21 = .ok (.ldc2_w 248, 3) := by decide +kernel
theorem dX8_leads_24 : decode cX8_leads 24 = .ok (.lsub, 1) := by decide +kernel
theorem dX8_leads_25 : decode cX8_leads 25 = .ok (.goto 5, 3) := by decide +kernel
theorem dX8_leads_28 : decode cX8_leads 28 = .ok (.lload 5, 2) := by decide +kernel
theorem dX8_leads_30 : decode cX8_leads 30 = .ok (.lstore 5, 2) := by decide +kernel
theorem dX8_leads_32 : decode cX8_leads 32 = .ok (.lload 5, 2) := by decide +kernel
theorem dX8_leads_34 : decode cX8_leads 34 = .ok (.lload 5, 2) := by decide +kernel
theorem dX8_leads_36 : decode cX8_leads 36 = .ok (.lmul, 1) := by decide +kernel
theorem dX8_leads_37 : decode cX8_leads 37 = .ok (.lload_n 1, 1) := by decide +kernel
theorem dX8_leads_38 : decode cX8_leads 38 = .ok (.lsub, 1) := by decide +kernel
theorem dX8_leads_39 : decode cX8_leads 39 = .ok (.ldc2_w 56, 3) := by decide +kernel
theorem dX8_leads_42 : decode cX8_leads 42 = .ok (.ldiv, 1) := by decide +kernel
theorem dX8_leads_43 : decode cX8_leads 43 = .ok (.lstore 7, 2) := by decide +kernel
theorem dX8_leads_45 : decode cX8_leads 45 = .ok (.ldc2_w 61, 3) := by decide +kernel
theorem dX8_leads_48 : decode cX8_leads 48 = .ok (.lload 5, 2) := by decide +kernel
theorem dX8_leads_50 : decode cX8_leads 50 = .ok (.lmul, 1) := by decide +kernel
theorem dX8_leads_51 : decode cX8_leads 51 = .ok (.lload 7, 2) := by decide +kernel
theorem dX8_leads_53 : decode cX8_leads 53 = .ok (.lmul, 1) := by decide +kernel
theorem dX8_leads_54 : decode cX8_leads 54 = .ok (.lload 5, 2) := by decide +kernel
theorem dX8_leads_56 : decode cX8_leads 56 = .ok (.lload 5, 2) := by decide +kernel
theorem dX8_leads_58 : decode cX8_leads 58 = .ok (.lmul, 1) := by decide +kernel
theorem dX8_leads_59 : decode cX8_leads 59 = .ok (.lload 5, 2) := by decide +kernel
theorem dX8_leads_61 : decode cX8_leads 61 = .ok (.lmul, 1) := by decide +kernel
theorem dX8_leads_62 : decode cX8_leads 62 = .ok (.lsub, 1) := by decide +kernel
theorem dX8_leads_63 : decode cX8_leads 63 = .ok (.lload_n 3, 1) := by decide +kernel
theorem dX8_leads_64 : decode cX8_leads 64 = .ok (.lsub, 1) := by decide +kernel
theorem dX8_leads_65 : decode cX8_leads 65 = .ok (.ldc2_w 63, 3) := by decide +kernel
theorem dX8_leads_68 : decode cX8_leads 68 = .ok (.ldiv, 1) := by decide +kernel
theorem dX8_leads_69 : decode cX8_leads 69 = .ok (.lstore 9, 2) := by decide +kernel
theorem dX8_leads_71 : decode cX8_leads 71 = .ok (.aload_n 0, 1) := by decide +kernel
theorem dX8_leads_72 : decode cX8_leads 72 = .ok (.getfield 16, 3) := by decide +kernel
theorem dX8_leads_75 : decode cX8_leads 75 = .ok (.iconst 0, 1) := by decide +kernel
theorem dX8_leads_76 : decode cX8_leads 76 = .ok (.lload 5, 2) := by decide +kernel
theorem dX8_leads_78 : decode cX8_leads 78 = .ok (.ldc2_w 50, 3) := by decide +kernel
theorem dX8_leads_81 : decode cX8_leads 81 = .ok (.invokestatic 138, 3) := by decide +kernel
theorem dX8_leads_84 : decode cX8_leads 84 = .ok (.lastore, 1) := by decide +kernel
theorem dX8_leads_85 : decode cX8_leads 85 = .ok (.aload_n 0, 1) := by decide +kernel
theorem dX8_leads_86 : decode cX8_leads 86 = .ok (.getfield 16, 3) := by decide +kernel
theorem dX8_leads_89 : decode cX8_leads 89 = .ok (.iconst 2, 1) := by decide +kernel
theorem dX8_leads_90 : decode cX8_leads 90 = .ok (.lload 9, 2) := by decide +kernel
theorem dX8_leads_92 : decode cX8_leads 92 = .ok (.ldc2_w 50, 3) := by decide +kernel
theorem dX8_leads_95 : decode cX8_leads 95 = .ok (.invokestatic 138, 3) := by decide +kernel
theorem dX8_leads_98 : decode cX8_leads 98 = .ok (.lastore, 1) := by decide +kernel
theorem dX8_leads_99 : decode cX8_leads 99 = .ok (.aload_n 0, 1) := by decide +kernel
theorem dX8_leads_100 : decode cX8_leads 100 = .ok (.getfield 16, 3) := by decide +kernel
theorem dX8_leads_103 : decode cX8_leads 103 = .ok (.iconst 1, 1) := by decide +kernel
theorem dX8_leads_104 : decode cX8_leads 104 = .ok (.lload 5, 2) := by decide +kernel
theorem dX8_leads_106 : decode cX8_leads 106 = .ok (.aload_n 0, 1) := by decide +kernel
theorem dX8_leads_107 : decode cX8_leads 107 = .ok (.getfield 16, 3) := by decide +kernel
theorem dX8_leads_110 : decode cX8_leads 110 = .ok (.iconst 0, 1) := by decide +kernel
theorem dX8_leads_111 : decode cX8_leads 111 = .ok (.laload, 1) := by decide +kernel
theorem dX8_leads_112 : decode cX8_leads 112 = .ok (.lsub, 1) := by decide +kernel
theorem dX8_leads_113 : decode cX8_leads 113 = .ok (.ldc2_w 48, 3) := by decide +kernel
theorem dX8_leads_116 : decode cX8_leads 116 = .ok (.ldiv, 1) := by decide +kernel
theorem dX8_leads_117 : decode cX8_leads 117 = .ok (.lastore, 1) := by decide +kernel
theorem dX8_leads_118 : decode cX8_leads 118 = .ok (.aload_n 0, 1) := by decide +kernel
theorem dX8_leads_119 : decode cX8_leads 119 = .ok (.getfield 16, 3) := by decide +kernel
theorem dX8_leads_122 : decode cX8_leads 122 = .ok (.iconst 3, 1) := by decide +kernel
theorem dX8_leads_123 : decode cX8_leads 123 = .ok (.lload 7, 2) := by decide +kernel
theorem dX8_leads_125 : decode cX8_leads 125 = .ok (.aload_n 0, 1) := by decide +kernel
theorem dX8_leads_126 : decode cX8_leads 126 = .ok (.getfield 16, 3) := by decide +kernel
theorem dX8_leads_129 : decode cX8_leads 129 = .ok (.iconst 0, 1) := by decide +kernel
theorem dX8_leads_130 : decode cX8_leads 130 = .ok (.laload, 1) := by decide +kernel
theorem dX8_leads_131 : decode cX8_leads 131 = .ok (.aload_n 0, 1) := by decide +kernel
theorem dX8_leads_132 : decode cX8_leads 132 = .ok (.getfield 16, 3) := by decide +kernel
theorem dX8_leads_135 : decode cX8_leads 135 = .ok (.iconst 2, 1) := by decide +kernel
theorem dX8_leads_136 : decode cX8_leads 136 = .ok (.laload, 1) := by decide +kernel
theorem dX8_leads_137 : decode cX8_leads 137 = .ok (.lmul, 1) := by decide +kernel
theorem dX8_leads_138 : decode cX8_leads 138 = .ok (.lsub, 1) := by decide +kernel
theorem dX8_leads_139 : decode cX8_leads 139 = .ok (.ldc2_w 50, 3) := by decide +kernel
theorem dX8_leads_142 : decode cX8_leads 142 = .ok (.ldiv, 1) := by decide +kernel
theorem dX8_leads_143 : decode cX8_leads 143 = .ok (.lastore, 1) := by decide +kernel
theorem dX8_leads_144 : decode cX8_leads 144 = .ok (.aload_n 0, 1) := by decide +kernel
theorem dX8_leads_145 : decode cX8_leads 145 = .ok (.getfield 16, 3) := by decide +kernel
theorem dX8_leads_148 : decode cX8_leads 148 = .ok (.iconst 4, 1) := by decide +kernel
theorem dX8_leads_149 : decode cX8_leads 149 = .ok (.lload 9, 2) := by decide +kernel
theorem dX8_leads_151 : decode cX8_leads 151 = .ok (.aload_n 0, 1) := by decide +kernel
theorem dX8_leads_152 : decode cX8_leads 152 = .ok (.getfield 16, 3) := by decide +kernel
theorem dX8_leads_155 : decode cX8_leads 155 = .ok (.iconst 2, 1) := by decide +kernel
theorem dX8_leads_156 : decode cX8_leads 156 = .ok (.laload, 1) := by decide +kernel
theorem dX8_leads_157 : decode cX8_leads 157 = .ok (.lsub, 1) := by decide +kernel
theorem dX8_leads_158 : decode cX8_leads 158 = .ok (.ldc2_w 48, 3) := by decide +kernel
theorem dX8_leads_161 : decode cX8_leads 161 = .ok (.ldiv, 1) := by decide +kernel
theorem dX8_leads_162 : decode cX8_leads 162 = .ok (.lastore, 1) := by decide +kernel
theorem dX8_leads_163 : decode cX8_leads 163 = .ok (.return_, 1) := by decide +kernel
theorem dX8_keepsWhole_0 : decode cX8_keepsWhole 0 = .ok (.iconst 0, 1) := by decide +kernel
theorem dX8_keepsWhole_1 : decode cX8_keepsWhole 1 = .ok (.istore_n 1, 1) := by decide +kernel
theorem dX8_keepsWhole_2 : decode cX8_keepsWhole 2 = .ok (.iload_n 1, 1) := by decide +kernel
theorem dX8_keepsWhole_3 : decode cX8_keepsWhole 3 = .ok (.iconst 5, 1) := by decide +kernel
theorem dX8_keepsWhole_4 : decode cX8_keepsWhole 4 = .ok (.if_icmp .ge 21, 3) := by decide +kernel
theorem dX8_keepsWhole_7 : decode cX8_keepsWhole 7 = .ok (.aload_n 0, 1) := by decide +kernel
theorem dX8_keepsWhole_8 : decode cX8_keepsWhole 8 = .ok (.getfield 29, 3) := by decide +kernel
theorem dX8_keepsWhole_11 : decode cX8_keepsWhole 11 = .ok (.iload_n 1, 1) := by decide +kernel
theorem dX8_keepsWhole_12 : decode cX8_keepsWhole 12 = .ok (.aload_n 0, 1) := by decide +kernel
theorem dX8_keepsWhole_13 : decode cX8_keepsWhole 13 = .ok (.getfield 13, 3) := by decide +kernel
theorem dX8_keepsWhole_16 : decode cX8_keepsWhole 16 = .ok (.iload_n 1, 1) := by decide +kernel
theorem dX8_keepsWhole_17 : decode cX8_keepsWhole 17 = .ok (.laload, 1) := by decide +kernel
theorem dX8_keepsWhole_18 : decode cX8_keepsWhole 18 = .ok (.lastore, 1) := by decide +kernel
theorem dX8_keepsWhole_19 : decode cX8_keepsWhole 19 = .ok (.iinc 1 1, 3) := by decide +kernel
theorem dX8_keepsWhole_22 : decode cX8_keepsWhole 22 = .ok (.goto (-20), 3) := by decide +kernel
theorem dX8_keepsWhole_25 : decode cX8_keepsWhole 25 = .ok (.return_, 1) := by decide +kernel
theorem dX8_wholeAgain_0 : decode cX8_wholeAgain 0 = .ok (.iconst 0, 1) := by decide +kernel
theorem dX8_wholeAgain_1 : decode cX8_wholeAgain 1 = .ok (.istore_n 1, 1) := by decide +kernel
theorem dX8_wholeAgain_2 : decode cX8_wholeAgain 2 = .ok (.iload_n 1, 1) := by decide +kernel
theorem dX8_wholeAgain_3 : decode cX8_wholeAgain 3 = .ok (.iconst 5, 1) := by decide +kernel
theorem dX8_wholeAgain_4 : decode cX8_wholeAgain 4 = .ok (.if_icmp .ge 21, 3) := by decide +kernel
theorem dX8_wholeAgain_7 : decode cX8_wholeAgain 7 = .ok (.aload_n 0, 1) := by decide +kernel
theorem dX8_wholeAgain_8 : decode cX8_wholeAgain 8 = .ok (.getfield 13, 3) := by decide +kernel
theorem dX8_wholeAgain_11 : decode cX8_wholeAgain 11 = .ok (.iload_n 1, 1) := by decide +kernel
theorem dX8_wholeAgain_12 : decode cX8_wholeAgain 12 = .ok (.aload_n 0, 1) := by decide +kernel
theorem dX8_wholeAgain_13 : decode cX8_wholeAgain 13 = .ok (.getfield 29, 3) := by decide +kernel
theorem dX8_wholeAgain_16 : decode cX8_wholeAgain 16 = .ok (.iload_n 1, 1) := by decide +kernel
theorem dX8_wholeAgain_17 : decode cX8_wholeAgain 17 = .ok (.laload, 1) := by decide +kernel
theorem dX8_wholeAgain_18 : decode cX8_wholeAgain 18 = .ok (.lastore, 1) := by decide +kernel
theorem dX8_wholeAgain_19 : decode cX8_wholeAgain 19 = .ok (.iinc 1 1, 3) := by decide +kernel
theorem dX8_wholeAgain_22 : decode cX8_wholeAgain 22 = .ok (.goto (-20), 3) := by decide +kernel
theorem dX8_wholeAgain_25 : decode cX8_wholeAgain 25 = .ok (.return_, 1) := by decide +kernel
theorem dX8_laysLeast_0 : decode cX8_laysLeast 0 = .ok (.aload_n 0, 1) := by decide +kernel
theorem dX8_laysLeast_1 : decode cX8_laysLeast 1 = .ok (.invokevirtual 252, 3) := by decide +kernel
theorem dX8_laysLeast_4 : decode cX8_laysLeast 4 = .ok (.aload_n 0, 1) := by decide +kernel
theorem dX8_laysLeast_5 : decode cX8_laysLeast 5 = .ok (.aload_n 0, 1) := by decide +kernel
theorem dX8_laysLeast_6 : decode cX8_laysLeast 6 = .ok (.invokevirtual 87, 3) := by decide +kernel
theorem dX8_laysLeast_9 : decode cX8_laysLeast 9 = .ok (.invokevirtual 255, 3) := by decide +kernel
theorem dX8_laysLeast_12 : decode cX8_laysLeast 12 = .ok (.aload_n 0, 1) := by decide +kernel
theorem dX8_laysLeast_13 : decode cX8_laysLeast 13 = .ok (.lconst 1, 1) := by decide +kernel
theorem dX8_laysLeast_14 : decode cX8_laysLeast 14 = .ok (.putfield 258, 3) := by decide +kernel
theorem dX8_laysLeast_17 : decode cX8_laysLeast 17 = .ok (.iconst 0, 1) := by decide +kernel
theorem dX8_laysLeast_18 : decode cX8_laysLeast 18 = .ok (.istore_n 1, 1) := by decide +kernel
theorem dX8_laysLeast_19 : decode cX8_laysLeast 19 = .ok (.iload_n 1, 1) := by decide +kernel
theorem dX8_laysLeast_20 : decode cX8_laysLeast 20 = .ok (.aload_n 0, 1) := by decide +kernel
theorem dX8_laysLeast_21 : decode cX8_laysLeast 21 = .ok (.getfield 141, 3) := by decide +kernel
theorem dX8_laysLeast_24 : decode cX8_laysLeast 24 = .ok (.if_icmp .ge 48, 3) := by decide +kernel
theorem dX8_laysLeast_27 : decode cX8_laysLeast 27 = .ok (.aload_n 0, 1) := by decide +kernel
theorem dX8_laysLeast_28 : decode cX8_laysLeast 28 = .ok (.invokevirtual 261, 3) := by decide +kernel
theorem dX8_laysLeast_31 : decode cX8_laysLeast 31 = .ok (.aload_n 0, 1) := by decide +kernel
theorem dX8_laysLeast_32 : decode cX8_laysLeast 32 = .ok (.aload_n 0, 1) := by decide +kernel
theorem dX8_laysLeast_33 : decode cX8_laysLeast 33 = .ok (.getfield 19, 3) := by decide +kernel
theorem dX8_laysLeast_36 : decode cX8_laysLeast 36 = .ok (.iload_n 1, 1) := by decide +kernel
theorem dX8_laysLeast_37 : decode cX8_laysLeast 37 = .ok (.laload, 1) := by decide +kernel
theorem dX8_laysLeast_38 : decode cX8_laysLeast 38 = .ok (.invokevirtual 264, 3) := by decide +kernel
theorem dX8_laysLeast_41 : decode cX8_laysLeast 41 = .ok (.aload_n 0, 1) := by decide +kernel
theorem dX8_laysLeast_42 : decode cX8_laysLeast 42 = .ok (.dup, 1) := by decide +kernel
theorem dX8_laysLeast_43 : decode cX8_laysLeast 43 = .ok (.getfield 258, 3) := by decide +kernel
theorem dX8_laysLeast_46 : decode cX8_laysLeast 46 = .ok (.aload_n 0, 1) := by decide +kernel
theorem dX8_laysLeast_47 : decode cX8_laysLeast 47 = .ok (.getfield 19, 3) := by decide +kernel
theorem dX8_laysLeast_50 : decode cX8_laysLeast 50 = .ok (.iload_n 1, 1) := by decide +kernel
theorem dX8_laysLeast_51 : decode cX8_laysLeast 51 = .ok (.laload, 1) := by decide +kernel
theorem dX8_laysLeast_52 : decode cX8_laysLeast 52 = .ok (.aload_n 0, 1) := by decide +kernel
theorem dX8_laysLeast_53 : decode cX8_laysLeast 53 = .ok (.getfield 22, 3) := by decide +kernel
theorem dX8_laysLeast_56 : decode cX8_laysLeast 56 = .ok (.bipush 7, 2) := by decide +kernel
theorem dX8_laysLeast_58 : decode cX8_laysLeast 58 = .ok (.iaload, 1) := by decide +kernel
theorem dX8_laysLeast_59 : decode cX8_laysLeast 59 = .ok (.invokestatic 83, 3) := by decide +kernel
theorem dX8_laysLeast_62 : decode cX8_laysLeast 62 = .ok (.lmul, 1) := by decide +kernel
theorem dX8_laysLeast_63 : decode cX8_laysLeast 63 = .ok (.putfield 258, 3) := by decide +kernel
theorem dX8_laysLeast_66 : decode cX8_laysLeast 66 = .ok (.iinc 1 1, 3) := by decide +kernel
theorem dX8_laysLeast_69 : decode cX8_laysLeast 69 = .ok (.goto (-50), 3) := by decide +kernel
theorem dX8_laysLeast_72 : decode cX8_laysLeast 72 = .ok (.aload_n 0, 1) := by decide +kernel
theorem dX8_laysLeast_73 : decode cX8_laysLeast 73 = .ok (.invokevirtual 261, 3) := by decide +kernel
theorem dX8_laysLeast_76 : decode cX8_laysLeast 76 = .ok (.aload_n 0, 1) := by decide +kernel
theorem dX8_laysLeast_77 : decode cX8_laysLeast 77 = .ok (.aload_n 0, 1) := by decide +kernel
theorem dX8_laysLeast_78 : decode cX8_laysLeast 78 = .ok (.invokevirtual 146, 3) := by decide +kernel
theorem dX8_laysLeast_81 : decode cX8_laysLeast 81 = .ok (.aload_n 0, 1) := by decide +kernel
theorem dX8_laysLeast_82 : decode cX8_laysLeast 82 = .ok (.getfield 258, 3) := by decide +kernel
theorem dX8_laysLeast_85 : decode cX8_laysLeast 85 = .ok (.iconst 4, 1) := by decide +kernel
theorem dX8_laysLeast_86 : decode cX8_laysLeast 86 = .ok (.invokestatic 83, 3) := by decide +kernel
theorem dX8_laysLeast_89 : decode cX8_laysLeast 89 = .ok (.ldiv, 1) := by decide +kernel
theorem dX8_laysLeast_90 : decode cX8_laysLeast 90 = .ok (.aload_n 0, 1) := by decide +kernel
theorem dX8_laysLeast_91 : decode cX8_laysLeast 91 = .ok (.invokevirtual 149, 3) := by decide +kernel
theorem dX8_laysLeast_94 : decode cX8_laysLeast 94 = .ok (.aload_n 0, 1) := by decide +kernel
theorem dX8_laysLeast_95 : decode cX8_laysLeast 95 = .ok (.getfield 258, 3) := by decide +kernel
theorem dX8_laysLeast_98 : decode cX8_laysLeast 98 = .ok (.bipush 6, 2) := by decide +kernel
theorem dX8_laysLeast_100 : decode cX8_laysLeast 100 = .ok (.invokestatic 83, 3) := by decide +kernel
theorem dX8_laysLeast_103 : decode cX8_laysLeast 103 = .ok (.ldiv, 1) := by decide +kernel
theorem dX8_laysLeast_104 : decode cX8_laysLeast 104 = .ok (.invokevirtual 267, 3) := by decide +kernel
theorem dX8_laysLeast_107 : decode cX8_laysLeast 107 = .ok (.return_, 1) := by decide +kernel
theorem dX8_goesLeast_0 : decode cX8_goesLeast 0 = .ok (.aload_n 0, 1) := by decide +kernel
theorem dX8_goesLeast_1 : decode cX8_goesLeast 1 = .ok (.invokevirtual 271, 3) := by decide +kernel
theorem dX8_goesLeast_4 : decode cX8_goesLeast 4 = .ok (.iconst 0, 1) := by decide +kernel
theorem dX8_goesLeast_5 : decode cX8_goesLeast 5 = .ok (.istore_n 1, 1) := by decide +kernel
theorem dX8_goesLeast_6 : decode cX8_goesLeast 6 = .ok (.iload_n 1, 1) := by decide +kernel
theorem dX8_goesLeast_7 : decode cX8_goesLeast 7 = .ok (.iconst 5, 1) := by decide +kernel
theorem dX8_goesLeast_8 : decode cX8_goesLeast 8 = .ok (.if_icmp .ge 21, 3) := by decide +kernel
theorem dX8_goesLeast_11 : decode cX8_goesLeast 11 = .ok (.aload_n 0, 1) := by decide +kernel
theorem dX8_goesLeast_12 : decode cX8_goesLeast 12 = .ok (.getfield 13, 3) := by decide +kernel
theorem dX8_goesLeast_15 : decode cX8_goesLeast 15 = .ok (.iload_n 1, 1) := by decide +kernel
theorem dX8_goesLeast_16 : decode cX8_goesLeast 16 = .ok (.aload_n 0, 1) := by decide +kernel
theorem dX8_goesLeast_17 : decode cX8_goesLeast 17 = .ok (.getfield 16, 3) := by decide +kernel
theorem dX8_goesLeast_20 : decode cX8_goesLeast 20 = .ok (.iload_n 1, 1) := by decide +kernel
theorem dX8_goesLeast_21 : decode cX8_goesLeast 21 = .ok (.laload, 1) := by decide +kernel
theorem dX8_goesLeast_22 : decode cX8_goesLeast 22 = .ok (.lastore, 1) := by decide +kernel
theorem dX8_goesLeast_23 : decode cX8_goesLeast 23 = .ok (.iinc 1 1, 3) := by decide +kernel
theorem dX8_goesLeast_26 : decode cX8_goesLeast 26 = .ok (.goto (-20), 3) := by decide +kernel
theorem dX8_goesLeast_29 : decode cX8_goesLeast 29 = .ok (.return_, 1) := by decide +kernel
theorem dX8_least_0 : decode cX8_least 0 = .ok (.aload_n 0, 1) := by decide +kernel
theorem dX8_least_1 : decode cX8_least 1 = .ok (.iconst 0, 1) := by decide +kernel
theorem dX8_least_2 : decode cX8_least 2 = .ok (.putfield 41, 3) := by decide +kernel
theorem dX8_least_5 : decode cX8_least 5 = .ok (.aload_n 0, 1) := by decide +kernel
theorem dX8_least_6 : decode cX8_least 6 = .ok (.iload_n 1, 1) := by decide +kernel
theorem dX8_least_7 : decode cX8_least 7 = .ok (.invokevirtual 116, 3) := by decide +kernel
theorem dX8_least_10 : decode cX8_least 10 = .ok (.ifCond .ne 5, 3) := by decide +kernel
theorem dX8_least_13 : decode cX8_least 13 = .ok (.iconst (-1), 1) := by decide +kernel
theorem dX8_least_14 : decode cX8_least 14 = .ok (.ireturn, 1) := by decide +kernel
theorem dX8_least_15 : decode cX8_least 15 = .ok (.aload_n 0, 1) := by decide +kernel
theorem dX8_least_16 : decode cX8_least 16 = .ok (.iload_n 1, 1) := by decide +kernel
theorem dX8_least_17 : decode cX8_least 17 = .ok (.invokevirtual 120, 3) := by decide +kernel
theorem dX8_least_20 : decode cX8_least 20 = .ok (.aload_n 0, 1) := by decide +kernel
theorem dX8_least_21 : decode cX8_least 21 = .ok (.invokevirtual 274, 3) := by decide +kernel
theorem dX8_least_24 : decode cX8_least 24 = .ok (.aload_n 0, 1) := by decide +kernel
theorem dX8_least_25 : decode cX8_least 25 = .ok (.invokevirtual 112, 3) := by decide +kernel
theorem dX8_least_28 : decode cX8_least 28 = .ok (.ireturn, 1) := by decide +kernel
theorem dX8_isTwist_0 : decode cX8_isTwist 0 = .ok (.iload_n 0, 1) := by decide +kernel
theorem dX8_isTwist_1 : decode cX8_isTwist 1 = .ok (.i2l, 1) := by decide +kernel
theorem dX8_isTwist_2 : decode cX8_isTwist 2 = .ok (.ldc2_w 277, 3) := by decide +kernel
theorem dX8_isTwist_5 : decode cX8_isTwist 5 = .ok (.ldc2_w 279, 3) := by decide +kernel
theorem dX8_isTwist_8 : decode cX8_isTwist 8 = .ok (.invokestatic 104, 3) := by decide +kernel
theorem dX8_isTwist_11 : decode cX8_isTwist 11 = .ok (.ifCond .eq 29, 3) := by decide +kernel
theorem dX8_isTwist_14 : decode cX8_isTwist 14 = .ok (.iload_n 0, 1) := by decide +kernel
theorem dX8_isTwist_15 : decode cX8_isTwist 15 = .ok (.ifCond .eq 25, 3) := by decide +kernel
theorem dX8_isTwist_18 : decode cX8_isTwist 18 = .ok (.iload_n 0, 1) := by decide +kernel
theorem dX8_isTwist_19 : decode cX8_isTwist 19 = .ok (.iconst 1, 1) := by decide +kernel
theorem dX8_isTwist_20 : decode cX8_isTwist 20 = .ok (.if_icmp .eq 20, 3) := by decide +kernel
theorem dX8_isTwist_23 : decode cX8_isTwist 23 = .ok (.iload_n 0, 1) := by decide +kernel
theorem dX8_isTwist_24 : decode cX8_isTwist 24 = .ok (.iconst 4, 1) := by decide +kernel
theorem dX8_isTwist_25 : decode cX8_isTwist 25 = .ok (.irem, 1) := by decide +kernel
theorem dX8_isTwist_26 : decode cX8_isTwist 26 = .ok (.ifCond .eq 14, 3) := by decide +kernel
theorem dX8_isTwist_29 : decode cX8_isTwist 29 = .ok (.iload_n 0, 1) := by decide +kernel
theorem dX8_isTwist_30 : decode cX8_isTwist 30 = .ok (.bipush 9, 2) := by decide +kernel
theorem dX8_isTwist_32 : decode cX8_isTwist 32 = .ok (.irem, 1) := by decide +kernel
theorem dX8_isTwist_33 : decode cX8_isTwist 33 = .ok (.ifCond .eq 7, 3) := by decide +kernel
theorem dX8_isTwist_36 : decode cX8_isTwist 36 = .ok (.iconst 1, 1) := by decide +kernel
theorem dX8_isTwist_37 : decode cX8_isTwist 37 = .ok (.goto 4, 3) := by decide +kernel
theorem dX8_isTwist_40 : decode cX8_isTwist 40 = .ok (.iconst 0, 1) := by decide +kernel
theorem dX8_isTwist_41 : decode cX8_isTwist 41 = .ok (.ireturn, 1) := by decide +kernel
theorem dX8_twists_0 : decode cX8_twists 0 = .ok (.aload_n 0, 1) := by decide +kernel
theorem dX8_twists_1 : decode cX8_twists 1 = .ok (.iload_n 1, 1) := by decide +kernel
theorem dX8_twists_2 : decode cX8_twists 2 = .ok (.invokevirtual 120, 3) := by decide +kernel
theorem dX8_twists_5 : decode cX8_twists 5 = .ok (.aload_n 0, 1) := by decide +kernel
theorem dX8_twists_6 : decode cX8_twists 6 = .ok (.invokevirtual 274, 3) := by decide +kernel
theorem dX8_twists_9 : decode cX8_twists 9 = .ok (.aload_n 0, 1) := by decide +kernel
theorem dX8_twists_10 : decode cX8_twists 10 = .ok (.invokevirtual 87, 3) := by decide +kernel
theorem dX8_twists_13 : decode cX8_twists 13 = .ok (.invokestatic 90, 3) := by decide +kernel
theorem dX8_twists_16 : decode cX8_twists 16 = .ok (.ldc2_w 281, 3) := by decide +kernel
theorem dX8_twists_19 : decode cX8_twists 19 = .ok (.lcmp, 1) := by decide +kernel
theorem dX8_twists_20 : decode cX8_twists 20 = .ok (.ifCond .le 5, 3) := by decide +kernel
theorem dX8_twists_23 : decode cX8_twists 23 = .ok (.iconst 0, 1) := by decide +kernel
theorem dX8_twists_24 : decode cX8_twists 24 = .ok (.ireturn, 1) := by decide +kernel
theorem dX8_twists_25 : decode cX8_twists 25 = .ok (.iload_n 2, 1) := by decide +kernel
theorem dX8_twists_26 : decode cX8_twists 26 = .ok (.iconst 1, 1) := by decide +kernel
theorem dX8_twists_27 : decode cX8_twists 27 = .ok (.if_icmp .ne 5, 3) := by decide +kernel
theorem dX8_twists_30 : decode cX8_twists 30 = .ok (.iconst 1, 1) := by decide +kernel
theorem dX8_twists_31 : decode cX8_twists 31 = .ok (.ireturn, 1) := by decide +kernel
theorem dX8_twists_32 : decode cX8_twists 32 = .ok (.aload_n 0, 1) := by decide +kernel
theorem dX8_twists_33 : decode cX8_twists 33 = .ok (.invokevirtual 52, 3) := by decide +kernel
theorem dX8_twists_36 : decode cX8_twists 36 = .ok (.lstore_n 3, 1) := by decide +kernel
theorem dX8_twists_37 : decode cX8_twists 37 = .ok (.aload_n 0, 1) := by decide +kernel
theorem dX8_twists_38 : decode cX8_twists 38 = .ok (.invokevirtual 58, 3) := by decide +kernel
theorem dX8_twists_41 : decode cX8_twists 41 = .ok (.lstore 5, 2) := by decide +kernel
theorem dX8_twists_43 : decode cX8_twists 43 = .ok (.aload_n 0, 1) := by decide +kernel
theorem dX8_twists_44 : decode cX8_twists 44 = .ok (.invokevirtual 65, 3) := by decide +kernel
theorem dX8_twists_47 : decode cX8_twists 47 = .ok (.lstore 7, 2) := by decide +kernel
theorem dX8_twists_49 : decode cX8_twists 49 = .ok (.aload_n 0, 1) := by decide +kernel
theorem dX8_twists_50 : decode cX8_twists 50 = .ok (.getfield 13, 3) := by decide +kernel
theorem dX8_twists_53 : decode cX8_twists 53 = .ok (.iconst 0, 1) := by decide +kernel
theorem dX8_twists_54 : decode cX8_twists 54 = .ok (.lconst 0, 1) := by decide +kernel
theorem dX8_twists_55 : decode cX8_twists 55 = .ok (.lastore, 1) := by decide +kernel
theorem dX8_twists_56 : decode cX8_twists 56 = .ok (.aload_n 0, 1) := by decide +kernel
theorem dX8_twists_57 : decode cX8_twists 57 = .ok (.getfield 13, 3) := by decide +kernel
theorem dX8_twists_60 : decode cX8_twists 60 = .ok (.iconst 1, 1) := by decide +kernel
theorem dX8_twists_61 : decode cX8_twists 61 = .ok (.iload_n 2, 1) := by decide +kernel
theorem dX8_twists_62 : decode cX8_twists 62 = .ok (.i2l, 1) := by decide +kernel
theorem dX8_twists_63 : decode cX8_twists 63 = .ok (.lload_n 3, 1) := by decide +kernel
theorem dX8_twists_64 : decode cX8_twists 64 = .ok (.lmul, 1) := by decide +kernel
theorem dX8_twists_65 : decode cX8_twists 65 = .ok (.lastore, 1) := by decide +kernel
theorem dX8_twists_66 : decode cX8_twists 66 = .ok (.aload_n 0, 1) := by decide +kernel
theorem dX8_twists_67 : decode cX8_twists 67 = .ok (.getfield 13, 3) := by decide +kernel
theorem dX8_twists_70 : decode cX8_twists 70 = .ok (.iconst 2, 1) := by decide +kernel
theorem dX8_twists_71 : decode cX8_twists 71 = .ok (.lconst 0, 1) := by decide +kernel
theorem dX8_twists_72 : decode cX8_twists 72 = .ok (.lastore, 1) := by decide +kernel
theorem dX8_twists_73 : decode cX8_twists 73 = .ok (.aload_n 0, 1) := by decide +kernel
theorem dX8_twists_74 : decode cX8_twists 74 = .ok (.getfield 13, 3) := by decide +kernel
theorem dX8_twists_77 : decode cX8_twists 77 = .ok (.iconst 3, 1) := by decide +kernel
theorem dX8_twists_78 : decode cX8_twists 78 = .ok (.ldc2_w 73, 3) := by decide +kernel
theorem dX8_twists_81 : decode cX8_twists 81 = .ok (.iload_n 2, 1) := by decide +kernel
theorem dX8_twists_82 : decode cX8_twists 82 = .ok (.i2l, 1) := by decide +kernel
theorem dX8_twists_83 : decode cX8_twists 83 = .ok (.lmul, 1) := by decide +kernel
theorem dX8_twists_84 : decode cX8_twists 84 = .ok (.iload_n 2, 1) := by decide +kernel
theorem dX8_twists_85 : decode cX8_twists 85 = .ok (.i2l, 1) := by decide +kernel
theorem dX8_twists_86 : decode cX8_twists 86 = .ok (.lmul, 1) := by decide +kernel
theorem dX8_twists_87 : decode cX8_twists 87 = .ok (.lload 5, 2) := by decide +kernel
theorem dX8_twists_89 : decode cX8_twists 89 = .ok (.lmul, 1) := by decide +kernel
theorem dX8_twists_90 : decode cX8_twists 90 = .ok (.lastore, 1) := by decide +kernel
theorem dX8_twists_91 : decode cX8_twists 91 = .ok (.aload_n 0, 1) := by decide +kernel
theorem dX8_twists_92 : decode cX8_twists 92 = .ok (.getfield 13, 3) := by decide +kernel
theorem dX8_twists_95 : decode cX8_twists 95 = .ok (.iconst 4, 1) := by decide +kernel
theorem dX8_twists_96 : decode cX8_twists 96 = .ok (.ldc2_w 283, 3) := by decide +kernel
theorem dX8_twists_99 : decode cX8_twists 99 = .ok (.iload_n 2, 1) := by decide +kernel
theorem dX8_twists_100 : decode cX8_twists 100 = .ok (.i2l, 1) := by decide +kernel
theorem dX8_twists_101 : decode cX8_twists 101 = .ok (.lmul, 1) := by decide +kernel
theorem dX8_twists_102 : decode cX8_twists 102 = .ok (.iload_n 2, 1) := by decide +kernel
theorem dX8_twists_103 : decode cX8_twists 103 = .ok (.i2l, 1) := by decide +kernel
theorem dX8_twists_104 : decode cX8_twists 104 = .ok (.lmul, 1) := by decide +kernel
theorem dX8_twists_105 : decode cX8_twists 105 = .ok (.iload_n 2, 1) := by decide +kernel
theorem dX8_twists_106 : decode cX8_twists 106 = .ok (.i2l, 1) := by decide +kernel
theorem dX8_twists_107 : decode cX8_twists 107 = .ok (.lmul, 1) := by decide +kernel
theorem dX8_twists_108 : decode cX8_twists 108 = .ok (.lload 7, 2) := by decide +kernel
theorem dX8_twists_110 : decode cX8_twists 110 = .ok (.lmul, 1) := by decide +kernel
theorem dX8_twists_111 : decode cX8_twists 111 = .ok (.lastore, 1) := by decide +kernel
theorem dX8_twists_112 : decode cX8_twists 112 = .ok (.aload_n 0, 1) := by decide +kernel
theorem dX8_twists_113 : decode cX8_twists 113 = .ok (.invokevirtual 274, 3) := by decide +kernel
theorem dX8_twists_116 : decode cX8_twists 116 = .ok (.iconst 1, 1) := by decide +kernel
theorem dX8_twists_117 : decode cX8_twists 117 = .ok (.ireturn, 1) := by decide +kernel
theorem dX8_twist_0 : decode cX8_twist 0 = .ok (.aload_n 0, 1) := by decide +kernel
theorem dX8_twist_1 : decode cX8_twist 1 = .ok (.iconst 0, 1) := by decide +kernel
theorem dX8_twist_2 : decode cX8_twist 2 = .ok (.putfield 41, 3) := by decide +kernel
theorem dX8_twist_5 : decode cX8_twist 5 = .ok (.aload_n 0, 1) := by decide +kernel
theorem dX8_twist_6 : decode cX8_twist 6 = .ok (.iload_n 1, 1) := by decide +kernel
theorem dX8_twist_7 : decode cX8_twist 7 = .ok (.invokevirtual 116, 3) := by decide +kernel
theorem dX8_twist_10 : decode cX8_twist 10 = .ok (.ifCond .eq 26, 3) := by decide +kernel
theorem dX8_twist_13 : decode cX8_twist 13 = .ok (.iload_n 2, 1) := by decide +kernel
theorem dX8_twist_14 : decode cX8_twist 14 = .ok (.invokestatic 285, 3) := by decide +kernel
theorem dX8_twist_17 : decode cX8_twist 17 = .ok (.ifCond .eq 19, 3) := by decide +kernel
theorem dX8_twist_20 : decode cX8_twist 20 = .ok (.aload_n 0, 1) := by decide +kernel
theorem dX8_twist_21 : decode cX8_twist 21 = .ok (.iload_n 1, 1) := by decide +kernel
theorem dX8_twist_22 : decode cX8_twist 22 = .ok (.iload_n 2, 1) := by decide +kernel
theorem dX8_twist_23 : decode cX8_twist 23 = .ok (.invokevirtual 288, 3) := by decide +kernel
theorem dX8_twist_26 : decode cX8_twist 26 = .ok (.ifCond .eq 10, 3) := by decide +kernel
theorem dX8_twist_29 : decode cX8_twist 29 = .ok (.aload_n 0, 1) := by decide +kernel
theorem dX8_twist_30 : decode cX8_twist 30 = .ok (.invokevirtual 112, 3) := by decide +kernel
theorem dX8_twist_33 : decode cX8_twist 33 = .ok (.goto 4, 3) := by decide +kernel
theorem dX8_twist_36 : decode cX8_twist 36 = .ok (.iconst (-1), 1) := by decide +kernel
theorem dX8_twist_37 : decode cX8_twist 37 = .ok (.ireturn, 1) := by decide +kernel
theorem dX8_told_0 : decode cX8_told 0 = .ok (.iload_n 1, 1) := by decide +kernel
theorem dX8_told_1 : decode cX8_told 1 = .ok (.tableswitch 78 5 11 #[43, 48, 53, 58, 63, 68, 73], 43) := by decide +kernel
theorem dX8_told_44 : decode cX8_told 44 = .ok (.aload_n 0, 1) := by decide +kernel
theorem dX8_told_45 : decode cX8_told 45 = .ok (.invokevirtual 52, 3) := by decide +kernel
theorem dX8_told_48 : decode cX8_told 48 = .ok (.lreturn, 1) := by decide +kernel
theorem dX8_told_49 : decode cX8_told 49 = .ok (.aload_n 0, 1) := by decide +kernel
theorem dX8_told_50 : decode cX8_told 50 = .ok (.invokevirtual 58, 3) := by decide +kernel
theorem dX8_told_53 : decode cX8_told 53 = .ok (.lreturn, 1) := by decide +kernel
theorem dX8_told_54 : decode cX8_told 54 = .ok (.aload_n 0, 1) := by decide +kernel
theorem dX8_told_55 : decode cX8_told 55 = .ok (.invokevirtual 65, 3) := by decide +kernel
theorem dX8_told_58 : decode cX8_told 58 = .ok (.lreturn, 1) := by decide +kernel
theorem dX8_told_59 : decode cX8_told 59 = .ok (.aload_n 0, 1) := by decide +kernel
theorem dX8_told_60 : decode cX8_told 60 = .ok (.invokevirtual 70, 3) := by decide +kernel
theorem dX8_told_63 : decode cX8_told 63 = .ok (.lreturn, 1) := by decide +kernel
theorem dX8_told_64 : decode cX8_told 64 = .ok (.aload_n 0, 1) := by decide +kernel
theorem dX8_told_65 : decode cX8_told 65 = .ok (.invokevirtual 146, 3) := by decide +kernel
theorem dX8_told_68 : decode cX8_told 68 = .ok (.lreturn, 1) := by decide +kernel
theorem dX8_told_69 : decode cX8_told 69 = .ok (.aload_n 0, 1) := by decide +kernel
theorem dX8_told_70 : decode cX8_told 70 = .ok (.invokevirtual 149, 3) := by decide +kernel
theorem dX8_told_73 : decode cX8_told 73 = .ok (.lreturn, 1) := by decide +kernel
theorem dX8_told_74 : decode cX8_told 74 = .ok (.aload_n 0, 1) := by decide +kernel
theorem dX8_told_75 : decode cX8_told 75 = .ok (.invokevirtual 87, 3) := by decide +kernel
theorem dX8_told_78 : decode cX8_told 78 = .ok (.lreturn, 1) := by decide +kernel
theorem dX8_told_79 : decode cX8_told 79 = .ok (.aload_n 0, 1) := by decide +kernel
theorem dX8_told_80 : decode cX8_told 80 = .ok (.getfield 13, 3) := by decide +kernel
theorem dX8_told_83 : decode cX8_told 83 = .ok (.iload_n 1, 1) := by decide +kernel
theorem dX8_told_84 : decode cX8_told 84 = .ok (.laload, 1) := by decide +kernel
theorem dX8_told_85 : decode cX8_told 85 = .ok (.lreturn, 1) := by decide +kernel
theorem dX8_of_0 : decode cX8_of 0 = .ok (.aload_n 0, 1) := by decide +kernel
theorem dX8_of_1 : decode cX8_of 1 = .ok (.aload_n 0, 1) := by decide +kernel
theorem dX8_of_2 : decode cX8_of 2 = .ok (.iload_n 1, 1) := by decide +kernel
theorem dX8_of_3 : decode cX8_of 3 = .ok (.invokevirtual 116, 3) := by decide +kernel
theorem dX8_of_6 : decode cX8_of 6 = .ok (.ifCond .eq 19, 3) := by decide +kernel
theorem dX8_of_9 : decode cX8_of 9 = .ok (.iload_n 2, 1) := by decide +kernel
theorem dX8_of_10 : decode cX8_of 10 = .ok (.i2l, 1) := by decide +kernel
theorem dX8_of_11 : decode cX8_of 11 = .ok (.lconst 0, 1) := by decide +kernel
theorem dX8_of_12 : decode cX8_of 12 = .ok (.ldc2_w 292, 3) := by decide +kernel
theorem dX8_of_15 : decode cX8_of 15 = .ok (.invokestatic 104, 3) := by decide +kernel
theorem dX8_of_18 : decode cX8_of 18 = .ok (.ifCond .eq 7, 3) := by decide +kernel
theorem dX8_of_21 : decode cX8_of 21 = .ok (.iconst 0, 1) := by decide +kernel
theorem dX8_of_22 : decode cX8_of 22 = .ok (.goto 4, 3) := by decide +kernel
theorem dX8_of_25 : decode cX8_of 25 = .ok (.iconst 1, 1) := by decide +kernel
theorem dX8_of_26 : decode cX8_of 26 = .ok (.putfield 41, 3) := by decide +kernel
theorem dX8_of_29 : decode cX8_of 29 = .ok (.aload_n 0, 1) := by decide +kernel
theorem dX8_of_30 : decode cX8_of 30 = .ok (.getfield 41, 3) := by decide +kernel
theorem dX8_of_33 : decode cX8_of 33 = .ok (.ifCond .le 5, 3) := by decide +kernel
theorem dX8_of_36 : decode cX8_of 36 = .ok (.lconst 0, 1) := by decide +kernel
theorem dX8_of_37 : decode cX8_of 37 = .ok (.lreturn, 1) := by decide +kernel
theorem dX8_of_38 : decode cX8_of 38 = .ok (.aload_n 0, 1) := by decide +kernel
theorem dX8_of_39 : decode cX8_of 39 = .ok (.iload_n 1, 1) := by decide +kernel
theorem dX8_of_40 : decode cX8_of 40 = .ok (.invokevirtual 120, 3) := by decide +kernel
theorem dX8_of_43 : decode cX8_of 43 = .ok (.aload_n 0, 1) := by decide +kernel
theorem dX8_of_44 : decode cX8_of 44 = .ok (.iload_n 2, 1) := by decide +kernel
theorem dX8_of_45 : decode cX8_of 45 = .ok (.invokevirtual 294, 3) := by decide +kernel
theorem dX8_of_48 : decode cX8_of 48 = .ok (.lreturn, 1) := by decide +kernel
theorem dX8_leastOf_0 : decode cX8_leastOf 0 = .ok (.aload_n 0, 1) := by decide +kernel
theorem dX8_leastOf_1 : decode cX8_leastOf 1 = .ok (.aload_n 0, 1) := by decide +kernel
theorem dX8_leastOf_2 : decode cX8_leastOf 2 = .ok (.iload_n 1, 1) := by decide +kernel
theorem dX8_leastOf_3 : decode cX8_leastOf 3 = .ok (.invokevirtual 116, 3) := by decide +kernel
theorem dX8_leastOf_6 : decode cX8_leastOf 6 = .ok (.ifCond .eq 19, 3) := by decide +kernel
theorem dX8_leastOf_9 : decode cX8_leastOf 9 = .ok (.iload_n 2, 1) := by decide +kernel
theorem dX8_leastOf_10 : decode cX8_leastOf 10 = .ok (.i2l, 1) := by decide +kernel
theorem dX8_leastOf_11 : decode cX8_leastOf 11 = .ok (.lconst 0, 1) := by decide +kernel
theorem dX8_leastOf_12 : decode cX8_leastOf 12 = .ok (.ldc2_w 248, 3) := by decide +kernel
theorem dX8_leastOf_15 : decode cX8_leastOf 15 = .ok (.invokestatic 104, 3) := by decide +kernel
theorem dX8_leastOf_18 : decode cX8_leastOf 18 = .ok (.ifCond .eq 7, 3) := by decide +kernel
theorem dX8_leastOf_21 : decode cX8_leastOf 21 = .ok (.iconst 0, 1) := by decide +kernel
theorem dX8_leastOf_22 : decode cX8_leastOf 22 = .ok (.goto 4, 3) := by decide +kernel
theorem dX8_leastOf_25 : decode cX8_leastOf 25 = .ok (.iconst 1, 1) := by decide +kernel
theorem dX8_leastOf_26 : decode cX8_leastOf 26 = .ok (.putfield 41, 3) := by decide +kernel
theorem dX8_leastOf_29 : decode cX8_leastOf 29 = .ok (.aload_n 0, 1) := by decide +kernel
theorem dX8_leastOf_30 : decode cX8_leastOf 30 = .ok (.getfield 41, 3) := by decide +kernel
theorem dX8_leastOf_33 : decode cX8_leastOf 33 = .ok (.ifCond .le 5, 3) := by decide +kernel
theorem dX8_leastOf_36 : decode cX8_leastOf 36 = .ok (.lconst 0, 1) := by decide +kernel
theorem dX8_leastOf_37 : decode cX8_leastOf 37 = .ok (.lreturn, 1) := by decide +kernel
theorem dX8_leastOf_38 : decode cX8_leastOf 38 = .ok (.aload_n 0, 1) := by decide +kernel
theorem dX8_leastOf_39 : decode cX8_leastOf 39 = .ok (.iload_n 1, 1) := by decide +kernel
theorem dX8_leastOf_40 : decode cX8_leastOf 40 = .ok (.invokevirtual 120, 3) := by decide +kernel
theorem dX8_leastOf_43 : decode cX8_leastOf 43 = .ok (.aload_n 0, 1) := by decide +kernel
theorem dX8_leastOf_44 : decode cX8_leastOf 44 = .ok (.invokevirtual 274, 3) := by decide +kernel
theorem dX8_leastOf_47 : decode cX8_leastOf 47 = .ok (.iload_n 2, 1) := by decide +kernel
theorem dX8_leastOf_48 : decode cX8_leastOf 48 = .ok (.bipush 12, 2) := by decide +kernel
theorem dX8_leastOf_50 : decode cX8_leastOf 50 = .ok (.if_icmp .ne 10, 3) := by decide +kernel
theorem dX8_leastOf_53 : decode cX8_leastOf 53 = .ok (.aload_n 0, 1) := by decide +kernel
theorem dX8_leastOf_54 : decode cX8_leastOf 54 = .ok (.getfield 258, 3) := by decide +kernel
theorem dX8_leastOf_57 : decode cX8_leastOf 57 = .ok (.goto 8, 3) := by decide +kernel
theorem dX8_leastOf_60 : decode cX8_leastOf 60 = .ok (.aload_n 0, 1) := by decide +kernel
theorem dX8_leastOf_61 : decode cX8_leastOf 61 = .ok (.iload_n 2, 1) := by decide +kernel
theorem dX8_leastOf_62 : decode cX8_leastOf 62 = .ok (.invokevirtual 294, 3) := by decide +kernel
theorem dX8_leastOf_65 : decode cX8_leastOf 65 = .ok (.lreturn, 1) := by decide +kernel
theorem dX8_at_0 : decode cX8_at 0 = .ok (.aload_n 0, 1) := by decide +kernel
theorem dX8_at_1 : decode cX8_at 1 = .ok (.iconst 0, 1) := by decide +kernel
theorem dX8_at_2 : decode cX8_at 2 = .ok (.putfield 41, 3) := by decide +kernel
theorem dX8_at_5 : decode cX8_at 5 = .ok (.aload_n 0, 1) := by decide +kernel
theorem dX8_at_6 : decode cX8_at 6 = .ok (.iload_n 1, 1) := by decide +kernel
theorem dX8_at_7 : decode cX8_at 7 = .ok (.invokevirtual 116, 3) := by decide +kernel
theorem dX8_at_10 : decode cX8_at 10 = .ok (.ifCond .eq 37, 3) := by decide +kernel
theorem dX8_at_13 : decode cX8_at 13 = .ok (.iload_n 2, 1) := by decide +kernel
theorem dX8_at_14 : decode cX8_at 14 = .ok (.i2l, 1) := by decide +kernel
theorem dX8_at_15 : decode cX8_at 15 = .ok (.ldc2_w 50, 3) := by decide +kernel
theorem dX8_at_18 : decode cX8_at 18 = .ok (.ldc2_w 168, 3) := by decide +kernel
theorem dX8_at_21 : decode cX8_at 21 = .ok (.invokestatic 104, 3) := by decide +kernel
theorem dX8_at_24 : decode cX8_at 24 = .ok (.ifCond .eq 23, 3) := by decide +kernel
theorem dX8_at_27 : decode cX8_at 27 = .ok (.iload_n 2, 1) := by decide +kernel
theorem dX8_at_28 : decode cX8_at 28 = .ok (.i2l, 1) := by decide +kernel
theorem dX8_at_29 : decode cX8_at 29 = .ok (.invokestatic 297, 3) := by decide +kernel
theorem dX8_at_32 : decode cX8_at 32 = .ok (.ifCond .eq 15, 3) := by decide +kernel
theorem dX8_at_35 : decode cX8_at 35 = .ok (.iload_n 3, 1) := by decide +kernel
theorem dX8_at_36 : decode cX8_at 36 = .ok (.i2l, 1) := by decide +kernel
theorem dX8_at_37 : decode cX8_at 37 = .ok (.lconst 0, 1) := by decide +kernel
theorem dX8_at_38 : decode cX8_at 38 = .ok (.ldc2_w 300, 3) := by decide +kernel
theorem dX8_at_41 : decode cX8_at 41 = .ok (.invokestatic 104, 3) := by decide +kernel
theorem dX8_at_44 : decode cX8_at 44 = .ok (.ifCond .ne 5, 3) := by decide +kernel
theorem dX8_at_47 : decode cX8_at 47 = .ok (.iconst (-1), 1) := by decide +kernel
theorem dX8_at_48 : decode cX8_at 48 = .ok (.ireturn, 1) := by decide +kernel
theorem dX8_at_49 : decode cX8_at 49 = .ok (.aload_n 0, 1) := by decide +kernel
theorem dX8_at_50 : decode cX8_at 50 = .ok (.iload_n 1, 1) := by decide +kernel
theorem dX8_at_51 : decode cX8_at 51 = .ok (.invokevirtual 120, 3) := by decide +kernel
theorem dX8_at_54 : decode cX8_at 54 = .ok (.aload_n 0, 1) := by decide +kernel
theorem dX8_at_55 : decode cX8_at 55 = .ok (.iload_n 2, 1) := by decide +kernel
theorem dX8_at_56 : decode cX8_at 56 = .ok (.i2l, 1) := by decide +kernel
theorem dX8_at_57 : decode cX8_at 57 = .ok (.invokevirtual 264, 3) := by decide +kernel
theorem dX8_at_60 : decode cX8_at 60 = .ok (.aload_n 0, 1) := by decide +kernel
theorem dX8_at_61 : decode cX8_at 61 = .ok (.getfield 22, 3) := by decide +kernel
theorem dX8_at_64 : decode cX8_at 64 = .ok (.iload_n 3, 1) := by decide +kernel
theorem dX8_at_65 : decode cX8_at 65 = .ok (.iaload, 1) := by decide +kernel
theorem dX8_at_66 : decode cX8_at 66 = .ok (.ireturn, 1) := by decide +kernel
theorem dX8_prime_0 : decode cX8_prime 0 = .ok (.aload_n 0, 1) := by decide +kernel
theorem dX8_prime_1 : decode cX8_prime 1 = .ok (.iconst 0, 1) := by decide +kernel
theorem dX8_prime_2 : decode cX8_prime 2 = .ok (.putfield 41, 3) := by decide +kernel
theorem dX8_prime_5 : decode cX8_prime 5 = .ok (.aload_n 0, 1) := by decide +kernel
theorem dX8_prime_6 : decode cX8_prime 6 = .ok (.iload_n 1, 1) := by decide +kernel
theorem dX8_prime_7 : decode cX8_prime 7 = .ok (.invokevirtual 116, 3) := by decide +kernel
theorem dX8_prime_10 : decode cX8_prime 10 = .ok (.ifCond .eq 8, 3) := by decide +kernel
theorem dX8_prime_13 : decode cX8_prime 13 = .ok (.iload_n 2, 1) := by decide +kernel
theorem dX8_prime_14 : decode cX8_prime 14 = .ok (.iconst (-1), 1) := by decide +kernel
theorem dX8_prime_15 : decode cX8_prime 15 = .ok (.if_icmp .ge 5, 3) := by decide +kernel
theorem dX8_prime_18 : decode cX8_prime 18 = .ok (.iconst (-1), 1) := by decide +kernel
theorem dX8_prime_19 : decode cX8_prime 19 = .ok (.ireturn, 1) := by decide +kernel
theorem dX8_prime_20 : decode cX8_prime 20 = .ok (.aload_n 0, 1) := by decide +kernel
theorem dX8_prime_21 : decode cX8_prime 21 = .ok (.iload_n 1, 1) := by decide +kernel
theorem dX8_prime_22 : decode cX8_prime 22 = .ok (.invokevirtual 120, 3) := by decide +kernel
theorem dX8_prime_25 : decode cX8_prime 25 = .ok (.aload_n 0, 1) := by decide +kernel
theorem dX8_prime_26 : decode cX8_prime 26 = .ok (.aload_n 0, 1) := by decide +kernel
theorem dX8_prime_27 : decode cX8_prime 27 = .ok (.invokevirtual 87, 3) := by decide +kernel
theorem dX8_prime_30 : decode cX8_prime 30 = .ok (.invokevirtual 255, 3) := by decide +kernel
theorem dX8_prime_33 : decode cX8_prime 33 = .ok (.iload_n 2, 1) := by decide +kernel
theorem dX8_prime_34 : decode cX8_prime 34 = .ok (.iconst (-1), 1) := by decide +kernel
theorem dX8_prime_35 : decode cX8_prime 35 = .ok (.if_icmp .ne 10, 3) := by decide +kernel
theorem dX8_prime_38 : decode cX8_prime 38 = .ok (.aload_n 0, 1) := by decide +kernel
theorem dX8_prime_39 : decode cX8_prime 39 = .ok (.getfield 141, 3) := by decide +kernel
theorem dX8_prime_42 : decode cX8_prime 42 = .ok (.goto 22, 3) := by decide +kernel
theorem dX8_prime_45 : decode cX8_prime 45 = .ok (.iload_n 2, 1) := by decide +kernel
theorem dX8_prime_46 : decode cX8_prime 46 = .ok (.aload_n 0, 1) := by decide +kernel
theorem dX8_prime_47 : decode cX8_prime 47 = .ok (.getfield 141, 3) := by decide +kernel
theorem dX8_prime_50 : decode cX8_prime 50 = .ok (.if_icmp .ge 13, 3) := by decide +kernel
theorem dX8_prime_53 : decode cX8_prime 53 = .ok (.aload_n 0, 1) := by decide +kernel
theorem dX8_prime_54 : decode cX8_prime 54 = .ok (.getfield 19, 3) := by decide +kernel
theorem dX8_prime_57 : decode cX8_prime 57 = .ok (.iload_n 2, 1) := by decide +kernel
theorem dX8_prime_58 : decode cX8_prime 58 = .ok (.laload, 1) := by decide +kernel
theorem dX8_prime_59 : decode cX8_prime 59 = .ok (.l2i, 1) := by decide +kernel
theorem dX8_prime_60 : decode cX8_prime 60 = .ok (.goto 4, 3) := by decide +kernel
theorem dX8_prime_63 : decode cX8_prime 63 = .ok (.iconst (-1), 1) := by decide +kernel
theorem dX8_prime_64 : decode cX8_prime 64 = .ok (.ireturn, 1) := by decide +kernel
theorem dX8_together_0 : decode cX8_together 0 = .ok (.aload_n 0, 1) := by decide +kernel
theorem dX8_together_1 : decode cX8_together 1 = .ok (.invokevirtual 252, 3) := by decide +kernel
theorem dX8_together_4 : decode cX8_together 4 = .ok (.aload_n 0, 1) := by decide +kernel
theorem dX8_together_5 : decode cX8_together 5 = .ok (.aload_n 0, 1) := by decide +kernel
theorem dX8_together_6 : decode cX8_together 6 = .ok (.invokevirtual 87, 3) := by decide +kernel
theorem dX8_together_9 : decode cX8_together 9 = .ok (.invokevirtual 255, 3) := by decide +kernel
theorem dX8_together_12 : decode cX8_together 12 = .ok (.lconst 1, 1) := by decide +kernel
theorem dX8_together_13 : decode cX8_together 13 = .ok (.lstore_n 2, 1) := by decide +kernel
theorem dX8_together_14 : decode cX8_together 14 = .ok (.iconst 0, 1) := by decide +kernel
theorem dX8_together_15 : decode cX8_together 15 = .ok (.istore 4, 2) := by decide +kernel
theorem dX8_together_17 : decode cX8_together 17 = .ok (.iload 4, 2) := by decide +kernel
theorem dX8_together_19 : decode cX8_together 19 = .ok (.aload_n 0, 1) := by decide +kernel
theorem dX8_together_20 : decode cX8_together 20 = .ok (.getfield 141, 3) := by decide +kernel
theorem dX8_together_23 : decode cX8_together 23 = .ok (.if_icmp .ge 57, 3) := by decide +kernel
theorem dX8_together_26 : decode cX8_together 26 = .ok (.aload_n 0, 1) := by decide +kernel
theorem dX8_together_27 : decode cX8_together 27 = .ok (.invokevirtual 261, 3) := by decide +kernel
theorem dX8_together_30 : decode cX8_together 30 = .ok (.aload_n 0, 1) := by decide +kernel
theorem dX8_together_31 : decode cX8_together 31 = .ok (.aload_n 0, 1) := by decide +kernel
theorem dX8_together_32 : decode cX8_together 32 = .ok (.getfield 19, 3) := by decide +kernel
theorem dX8_together_35 : decode cX8_together 35 = .ok (.iload 4, 2) := by decide +kernel
theorem dX8_together_37 : decode cX8_together 37 = .ok (.laload, 1) := by decide +kernel
theorem dX8_together_38 : decode cX8_together 38 = .ok (.invokevirtual 264, 3) := by decide +kernel
theorem dX8_together_41 : decode cX8_together 41 = .ok (.lload_n 2, 1) := by decide +kernel
theorem dX8_together_42 : decode cX8_together 42 = .ok (.iload_n 1, 1) := by decide +kernel
theorem dX8_together_43 : decode cX8_together 43 = .ok (.ifCond .eq 13, 3) := by decide +kernel
theorem dX8_together_46 : decode cX8_together 46 = .ok (.aload_n 0, 1) := by decide +kernel
theorem dX8_together_47 : decode cX8_together 47 = .ok (.getfield 22, 3) := by decide +kernel
theorem dX8_together_50 : decode cX8_together 50 = .ok (.iconst 4, 1) := by decide +kernel
theorem dX8_together_51 : decode cX8_together 51 = .ok (.iaload, 1) := by decide +kernel
theorem dX8_together_52 : decode cX8_together 52 = .ok (.i2l, 1) := by decide +kernel
theorem dX8_together_53 : decode cX8_together 53 = .ok (.goto 19, 3) := by decide +kernel
theorem dX8_together_56 : decode cX8_together 56 = .ok (.aload_n 0, 1) := by decide +kernel
theorem dX8_together_57 : decode cX8_together 57 = .ok (.getfield 19, 3) := by decide +kernel
theorem dX8_together_60 : decode cX8_together 60 = .ok (.iload 4, 2) := by decide +kernel
theorem dX8_together_62 : decode cX8_together 62 = .ok (.laload, 1) := by decide +kernel
theorem dX8_together_63 : decode cX8_together 63 = .ok (.aload_n 0, 1) := by decide +kernel
theorem dX8_together_64 : decode cX8_together 64 = .ok (.getfield 22, 3) := by decide +kernel
theorem dX8_together_67 : decode cX8_together 67 = .ok (.iconst 2, 1) := by decide +kernel
theorem dX8_together_68 : decode cX8_together 68 = .ok (.iaload, 1) := by decide +kernel
theorem dX8_together_69 : decode cX8_together 69 = .ok (.invokestatic 83, 3) := by decide +kernel
theorem dX8_together_72 : decode cX8_together 72 = .ok (.lmul, 1) := by decide +kernel
theorem dX8_together_73 : decode cX8_together 73 = .ok (.lstore_n 2, 1) := by decide +kernel
theorem dX8_together_74 : decode cX8_together 74 = .ok (.iinc 4 1, 3) := by decide +kernel
theorem dX8_together_77 : decode cX8_together 77 = .ok (.goto (-60), 3) := by decide +kernel
theorem dX8_together_80 : decode cX8_together 80 = .ok (.aload_n 0, 1) := by decide +kernel
theorem dX8_together_81 : decode cX8_together 81 = .ok (.invokevirtual 261, 3) := by decide +kernel
theorem dX8_together_84 : decode cX8_together 84 = .ok (.lload_n 2, 1) := by decide +kernel
theorem dX8_together_85 : decode cX8_together 85 = .ok (.lreturn, 1) := by decide +kernel
theorem dX8_conductor_0 : decode cX8_conductor 0 = .ok (.aload_n 0, 1) := by decide +kernel
theorem dX8_conductor_1 : decode cX8_conductor 1 = .ok (.iconst 0, 1) := by decide +kernel
theorem dX8_conductor_2 : decode cX8_conductor 2 = .ok (.putfield 41, 3) := by decide +kernel
theorem dX8_conductor_5 : decode cX8_conductor 5 = .ok (.aload_n 0, 1) := by decide +kernel
theorem dX8_conductor_6 : decode cX8_conductor 6 = .ok (.iload_n 1, 1) := by decide +kernel
theorem dX8_conductor_7 : decode cX8_conductor 7 = .ok (.invokevirtual 116, 3) := by decide +kernel
theorem dX8_conductor_10 : decode cX8_conductor 10 = .ok (.ifCond .ne 5, 3) := by decide +kernel
theorem dX8_conductor_13 : decode cX8_conductor 13 = .ok (.lconst 0, 1) := by decide +kernel
theorem dX8_conductor_14 : decode cX8_conductor 14 = .ok (.lreturn, 1) := by decide +kernel
theorem dX8_conductor_15 : decode cX8_conductor 15 = .ok (.aload_n 0, 1) := by decide +kernel
theorem dX8_conductor_16 : decode cX8_conductor 16 = .ok (.iload_n 1, 1) := by decide +kernel
theorem dX8_conductor_17 : decode cX8_conductor 17 = .ok (.invokevirtual 120, 3) := by decide +kernel
theorem dX8_conductor_20 : decode cX8_conductor 20 = .ok (.aload_n 0, 1) := by decide +kernel
theorem dX8_conductor_21 : decode cX8_conductor 21 = .ok (.iconst 0, 1) := by decide +kernel
theorem dX8_conductor_22 : decode cX8_conductor 22 = .ok (.invokevirtual 302, 3) := by decide +kernel
theorem dX8_conductor_25 : decode cX8_conductor 25 = .ok (.lreturn, 1) := by decide +kernel
theorem dX8_own_0 : decode cX8_own 0 = .ok (.aload_n 0, 1) := by decide +kernel
theorem dX8_own_1 : decode cX8_own 1 = .ok (.iconst 0, 1) := by decide +kernel
theorem dX8_own_2 : decode cX8_own 2 = .ok (.putfield 41, 3) := by decide +kernel
theorem dX8_own_5 : decode cX8_own 5 = .ok (.aload_n 0, 1) := by decide +kernel
theorem dX8_own_6 : decode cX8_own 6 = .ok (.iload_n 1, 1) := by decide +kernel
theorem dX8_own_7 : decode cX8_own 7 = .ok (.invokevirtual 116, 3) := by decide +kernel
theorem dX8_own_10 : decode cX8_own 10 = .ok (.ifCond .ne 7, 3) := by decide +kernel
theorem dX8_own_13 : decode cX8_own 13 = .ok (.ldc2_w 306, 3) := by decide +kernel
theorem dX8_own_16 : decode cX8_own 16 = .ok (.lreturn, 1) := by decide +kernel
theorem dX8_own_17 : decode cX8_own 17 = .ok (.aload_n 0, 1) := by decide +kernel
theorem dX8_own_18 : decode cX8_own 18 = .ok (.iload_n 1, 1) := by decide +kernel
theorem dX8_own_19 : decode cX8_own 19 = .ok (.invokevirtual 120, 3) := by decide +kernel
theorem dX8_own_22 : decode cX8_own 22 = .ok (.aload_n 0, 1) := by decide +kernel
theorem dX8_own_23 : decode cX8_own 23 = .ok (.iconst 1, 1) := by decide +kernel
theorem dX8_own_24 : decode cX8_own 24 = .ok (.invokevirtual 302, 3) := by decide +kernel
theorem dX8_own_27 : decode cX8_own 27 = .ok (.lreturn, 1) := by decide +kernel
theorem dX8_areOne_0 : decode cX8_areOne 0 = .ok (.aload_n 0, 1) := by decide +kernel
theorem dX8_areOne_1 : decode cX8_areOne 1 = .ok (.iload_n 1, 1) := by decide +kernel
theorem dX8_areOne_2 : decode cX8_areOne 2 = .ok (.invokevirtual 120, 3) := by decide +kernel
theorem dX8_areOne_5 : decode cX8_areOne 5 = .ok (.aload_n 0, 1) := by decide +kernel
theorem dX8_areOne_6 : decode cX8_areOne 6 = .ok (.invokevirtual 274, 3) := by decide +kernel
theorem dX8_areOne_9 : decode cX8_areOne 9 = .ok (.iconst 0, 1) := by decide +kernel
theorem dX8_areOne_10 : decode cX8_areOne 10 = .ok (.istore_n 3, 1) := by decide +kernel
theorem dX8_areOne_11 : decode cX8_areOne 11 = .ok (.iload_n 3, 1) := by decide +kernel
theorem dX8_areOne_12 : decode cX8_areOne 12 = .ok (.iconst 5, 1) := by decide +kernel
theorem dX8_areOne_13 : decode cX8_areOne 13 = .ok (.if_icmp .ge 21, 3) := by decide +kernel
theorem dX8_areOne_16 : decode cX8_areOne 16 = .ok (.aload_n 0, 1) := by decide +kernel
theorem dX8_areOne_17 : decode cX8_areOne 17 = .ok (.getfield 32, 3) := by decide +kernel
theorem dX8_areOne_20 : decode cX8_areOne 20 = .ok (.iload_n 3, 1) := by decide +kernel
theorem dX8_areOne_21 : decode cX8_areOne 21 = .ok (.aload_n 0, 1) := by decide +kernel
theorem dX8_areOne_22 : decode cX8_areOne 22 = .ok (.getfield 13, 3) := by decide +kernel
theorem dX8_areOne_25 : decode cX8_areOne 25 = .ok (.iload_n 3, 1) := by decide +kernel
theorem dX8_areOne_26 : decode cX8_areOne 26 = .ok (.laload, 1) := by decide +kernel
theorem dX8_areOne_27 : decode cX8_areOne 27 = .ok (.lastore, 1) := by decide +kernel
theorem dX8_areOne_28 : decode cX8_areOne 28 = .ok (.iinc 3 1, 3) := by decide +kernel
theorem dX8_areOne_31 : decode cX8_areOne 31 = .ok (.goto (-20), 3) := by decide +kernel
theorem dX8_areOne_34 : decode cX8_areOne 34 = .ok (.aload_n 0, 1) := by decide +kernel
theorem dX8_areOne_35 : decode cX8_areOne 35 = .ok (.iload_n 2, 1) := by decide +kernel
theorem dX8_areOne_36 : decode cX8_areOne 36 = .ok (.invokevirtual 120, 3) := by decide +kernel
theorem dX8_areOne_39 : decode cX8_areOne 39 = .ok (.aload_n 0, 1) := by decide +kernel
theorem dX8_areOne_40 : decode cX8_areOne 40 = .ok (.invokevirtual 274, 3) := by decide +kernel
theorem dX8_areOne_43 : decode cX8_areOne 43 = .ok (.iconst 1, 1) := by decide +kernel
theorem dX8_areOne_44 : decode cX8_areOne 44 = .ok (.istore_n 3, 1) := by decide +kernel
theorem dX8_areOne_45 : decode cX8_areOne 45 = .ok (.iconst 0, 1) := by decide +kernel
theorem dX8_areOne_46 : decode cX8_areOne 46 = .ok (.istore 4, 2) := by decide +kernel
theorem dX8_areOne_48 : decode cX8_areOne 48 = .ok (.iload 4, 2) := by decide +kernel
theorem dX8_areOne_50 : decode cX8_areOne 50 = .ok (.iconst 5, 1) := by decide +kernel
theorem dX8_areOne_51 : decode cX8_areOne 51 = .ok (.if_icmp .ge 37, 3) := by decide +kernel
theorem dX8_areOne_54 : decode cX8_areOne 54 = .ok (.iload_n 3, 1) := by decide +kernel
theorem dX8_areOne_55 : decode cX8_areOne 55 = .ok (.ifCond .eq 25, 3) := by decide +kernel
theorem dX8_areOne_58 : decode cX8_areOne 58 = .ok (.aload_n 0, 1) := by decide +kernel
theorem dX8_areOne_59 : decode cX8_areOne 59 = .ok (.getfield 32, 3) := by decide +kernel
theorem dX8_areOne_62 : decode cX8_areOne 62 = .ok (.iload 4, 2) := by decide +kernel
theorem dX8_areOne_64 : decode cX8_areOne 64 = .ok (.laload, 1) := by decide +kernel
theorem dX8_areOne_65 : decode cX8_areOne 65 = .ok (.aload_n 0, 1) := by decide +kernel
theorem dX8_areOne_66 : decode cX8_areOne 66 = .ok (.getfield 13, 3) := by decide +kernel
theorem dX8_areOne_69 : decode cX8_areOne 69 = .ok (.iload 4, 2) := by decide +kernel
theorem dX8_areOne_71 : decode cX8_areOne 71 = .ok (.laload, 1) := by decide +kernel
theorem dX8_areOne_72 : decode cX8_areOne 72 = .ok (.lcmp, 1) := by decide +kernel
theorem dX8_areOne_73 : decode cX8_areOne 73 = .ok (.ifCond .ne 7, 3) := by decide +kernel
theorem dX8_areOne_76 : decode cX8_areOne 76 = .ok (.iconst 1, 1) := by decide +kernel
theorem dX8_areOne_77 : decode cX8_areOne 77 = .ok (.goto 4, 3) := by decide +kernel
theorem dX8_areOne_80 : decode cX8_areOne 80 = .ok (.iconst 0, 1) := by decide +kernel
theorem dX8_areOne_81 : decode cX8_areOne 81 = .ok (.istore_n 3, 1) := by decide +kernel
theorem dX8_areOne_82 : decode cX8_areOne 82 = .ok (.iinc 4 1, 3) := by decide +kernel
theorem dX8_areOne_85 : decode cX8_areOne 85 = .ok (.goto (-37), 3) := by decide +kernel
theorem dX8_areOne_88 : decode cX8_areOne 88 = .ok (.iload_n 3, 1) := by decide +kernel
theorem dX8_areOne_89 : decode cX8_areOne 89 = .ok (.ireturn, 1) := by decide +kernel
theorem dX8_one_0 : decode cX8_one 0 = .ok (.aload_n 0, 1) := by decide +kernel
theorem dX8_one_1 : decode cX8_one 1 = .ok (.iconst 0, 1) := by decide +kernel
theorem dX8_one_2 : decode cX8_one 2 = .ok (.putfield 41, 3) := by decide +kernel
theorem dX8_one_5 : decode cX8_one 5 = .ok (.aload_n 0, 1) := by decide +kernel
theorem dX8_one_6 : decode cX8_one 6 = .ok (.iload_n 1, 1) := by decide +kernel
theorem dX8_one_7 : decode cX8_one 7 = .ok (.invokevirtual 116, 3) := by decide +kernel
theorem dX8_one_10 : decode cX8_one 10 = .ok (.ifCond .eq 24, 3) := by decide +kernel
theorem dX8_one_13 : decode cX8_one 13 = .ok (.aload_n 0, 1) := by decide +kernel
theorem dX8_one_14 : decode cX8_one 14 = .ok (.iload_n 2, 1) := by decide +kernel
theorem dX8_one_15 : decode cX8_one 15 = .ok (.invokevirtual 116, 3) := by decide +kernel
theorem dX8_one_18 : decode cX8_one 18 = .ok (.ifCond .eq 16, 3) := by decide +kernel
theorem dX8_one_21 : decode cX8_one 21 = .ok (.aload_n 0, 1) := by decide +kernel
theorem dX8_one_22 : decode cX8_one 22 = .ok (.iload_n 1, 1) := by decide +kernel
theorem dX8_one_23 : decode cX8_one 23 = .ok (.iload_n 2, 1) := by decide +kernel
theorem dX8_one_24 : decode cX8_one 24 = .ok (.invokevirtual 308, 3) := by decide +kernel
theorem dX8_one_27 : decode cX8_one 27 = .ok (.ifCond .eq 7, 3) := by decide +kernel
theorem dX8_one_30 : decode cX8_one 30 = .ok (.iconst 1, 1) := by decide +kernel
theorem dX8_one_31 : decode cX8_one 31 = .ok (.goto 4, 3) := by decide +kernel
theorem dX8_one_34 : decode cX8_one 34 = .ok (.iconst 0, 1) := by decide +kernel
theorem dX8_one_35 : decode cX8_one 35 = .ok (.ireturn, 1) := by decide +kernel
theorem dX8_pointsOf_0 : decode cX8_pointsOf 0 = .ok (.iconst 1, 1) := by decide +kernel
theorem dX8_pointsOf_1 : decode cX8_pointsOf 1 = .ok (.istore_n 3, 1) := by decide +kernel
theorem dX8_pointsOf_2 : decode cX8_pointsOf 2 = .ok (.lconst 0, 1) := by decide +kernel
theorem dX8_pointsOf_3 : decode cX8_pointsOf 3 = .ok (.lstore 4, 2) := by decide +kernel
theorem dX8_pointsOf_5 : decode cX8_pointsOf 5 = .ok (.lload 4, 2) := by decide +kernel
theorem dX8_pointsOf_7 : decode cX8_pointsOf 7 = .ok (.lload_n 1, 1) := by decide +kernel
theorem dX8_pointsOf_8 : decode cX8_pointsOf 8 = .ok (.lcmp, 1) := by decide +kernel
theorem dX8_pointsOf_9 : decode cX8_pointsOf 9 = .ok (.ifCond .ge 117, 3) := by decide +kernel
theorem dX8_pointsOf_12 : decode cX8_pointsOf 12 = .ok (.lconst 0, 1) := by decide +kernel
theorem dX8_pointsOf_13 : decode cX8_pointsOf 13 = .ok (.lstore 6, 2) := by decide +kernel
theorem dX8_pointsOf_15 : decode cX8_pointsOf 15 = .ok (.lload 6, 2) := by decide +kernel
theorem dX8_pointsOf_17 : decode cX8_pointsOf 17 = .ok (.lload_n 1, 1) := by decide +kernel
theorem dX8_pointsOf_18 : decode cX8_pointsOf 18 = .ok (.lcmp, 1) := by decide +kernel
theorem dX8_pointsOf_19 : decode cX8_pointsOf 19 = .ok (.ifCond .ge 98, 3) := by decide +kernel
theorem dX8_pointsOf_22 : decode cX8_pointsOf 22 = .ok (.lload 6, 2) := by decide +kernel
theorem dX8_pointsOf_24 : decode cX8_pointsOf 24 = .ok (.lload 6, 2) := by decide +kernel
theorem dX8_pointsOf_26 : decode cX8_pointsOf 26 = .ok (.lmul, 1) := by decide +kernel
theorem dX8_pointsOf_27 : decode cX8_pointsOf 27 = .ok (.aload_n 0, 1) := by decide +kernel
theorem dX8_pointsOf_28 : decode cX8_pointsOf 28 = .ok (.getfield 13, 3) := by decide +kernel
theorem dX8_pointsOf_31 : decode cX8_pointsOf 31 = .ok (.iconst 0, 1) := by decide +kernel
theorem dX8_pointsOf_32 : decode cX8_pointsOf 32 = .ok (.laload, 1) := by decide +kernel
theorem dX8_pointsOf_33 : decode cX8_pointsOf 33 = .ok (.lload 4, 2) := by decide +kernel
theorem dX8_pointsOf_35 : decode cX8_pointsOf 35 = .ok (.lmul, 1) := by decide +kernel
theorem dX8_pointsOf_36 : decode cX8_pointsOf 36 = .ok (.lload 6, 2) := by decide +kernel
theorem dX8_pointsOf_38 : decode cX8_pointsOf 38 = .ok (.lmul, 1) := by decide +kernel
theorem dX8_pointsOf_39 : decode cX8_pointsOf 39 = .ok (.ladd, 1) := by decide +kernel
theorem dX8_pointsOf_40 : decode cX8_pointsOf 40 = .ok (.aload_n 0, 1) := by decide +kernel
theorem dX8_pointsOf_41 : decode cX8_pointsOf 41 = .ok (.getfield 13, 3) := by decide +kernel
theorem dX8_pointsOf_44 : decode cX8_pointsOf 44 = .ok (.iconst 2, 1) := by decide +kernel
theorem dX8_pointsOf_45 : decode cX8_pointsOf 45 = .ok (.laload, 1) := by decide +kernel
theorem dX8_pointsOf_46 : decode cX8_pointsOf 46 = .ok (.lload 6, 2) := by decide +kernel
theorem dX8_pointsOf_48 : decode cX8_pointsOf 48 = .ok (.lmul, 1) := by decide +kernel
theorem dX8_pointsOf_49 : decode cX8_pointsOf 49 = .ok (.ladd, 1) := by decide +kernel
theorem dX8_pointsOf_50 : decode cX8_pointsOf 50 = .ok (.lload 4, 2) := by decide +kernel
theorem dX8_pointsOf_52 : decode cX8_pointsOf 52 = .ok (.lload 4, 2) := by decide +kernel
theorem dX8_pointsOf_54 : decode cX8_pointsOf 54 = .ok (.lmul, 1) := by decide +kernel
theorem dX8_pointsOf_55 : decode cX8_pointsOf 55 = .ok (.lload 4, 2) := by decide +kernel
theorem dX8_pointsOf_57 : decode cX8_pointsOf 57 = .ok (.lmul, 1) := by decide +kernel
theorem dX8_pointsOf_58 : decode cX8_pointsOf 58 = .ok (.lsub, 1) := by decide +kernel
theorem dX8_pointsOf_59 : decode cX8_pointsOf 59 = .ok (.aload_n 0, 1) := by decide +kernel
theorem dX8_pointsOf_60 : decode cX8_pointsOf 60 = .ok (.getfield 13, 3) := by decide +kernel
theorem dX8_pointsOf_63 : decode cX8_pointsOf 63 = .ok (.iconst 1, 1) := by decide +kernel
theorem dX8_pointsOf_64 : decode cX8_pointsOf 64 = .ok (.laload, 1) := by decide +kernel
theorem dX8_pointsOf_65 : decode cX8_pointsOf 65 = .ok (.lload 4, 2) := by decide +kernel
theorem dX8_pointsOf_67 : decode cX8_pointsOf 67 = .ok (.lmul, 1) := by decide +kernel
theorem dX8_pointsOf_68 : decode cX8_pointsOf 68 = .ok (.lload 4, 2) := by decide +kernel
theorem dX8_pointsOf_70 : decode cX8_pointsOf 70 = .ok (.lmul, 1) := by decide +kernel
theorem dX8_pointsOf_71 : decode cX8_pointsOf 71 = .ok (.lsub, 1) := by decide +kernel
theorem dX8_pointsOf_72 : decode cX8_pointsOf 72 = .ok (.aload_n 0, 1) := by decide +kernel
theorem dX8_pointsOf_73 : decode cX8_pointsOf 73 = .ok (.getfield 13, 3) := by decide +kernel
theorem dX8_pointsOf_76 : decode cX8_pointsOf 76 = .ok (.iconst 3, 1) := by decide +kernel
theorem dX8_pointsOf_77 : decode cX8_pointsOf 77 = .ok (.laload, 1) := by decide +kernel
theorem dX8_pointsOf_78 : decode cX8_pointsOf 78 = .ok (.lload 4, 2) := by decide +kernel
theorem dX8_pointsOf_80 : decode cX8_pointsOf 80 = .ok (.lmul, 1) := by decide +kernel
theorem dX8_pointsOf_81 : decode cX8_pointsOf 81 = .ok (.lsub, 1) := by decide +kernel
theorem dX8_pointsOf_82 : decode cX8_pointsOf 82 = .ok (.aload_n 0, 1) := by decide +kernel
theorem dX8_pointsOf_83 : decode cX8_pointsOf 83 = .ok (.getfield 13, 3) := by decide +kernel
theorem dX8_pointsOf_86 : decode cX8_pointsOf 86 = .ok (.iconst 4, 1) := by decide +kernel
theorem dX8_pointsOf_87 : decode cX8_pointsOf 87 = .ok (.laload, 1) := by decide +kernel
theorem dX8_pointsOf_88 : decode cX8_pointsOf 88 = .ok (.lsub, 1) := by decide +kernel
theorem dX8_pointsOf_89 : decode cX8_pointsOf 89 = .ok (.lstore 8, 2) := by decide +kernel
theorem dX8_pointsOf_91 : decode cX8_pointsOf 91 = .ok (.iload_n 3, 1) := by decide +kernel
theorem dX8_pointsOf_92 : decode cX8_pointsOf 92 = .ok (.lload 8, 2) := by decide +kernel
theorem dX8_pointsOf_94 : decode cX8_pointsOf 94 = .ok (.lload_n 1, 1) := by decide +kernel
theorem dX8_pointsOf_95 : decode cX8_pointsOf 95 = .ok (.lrem, 1) := by decide +kernel
theorem dX8_pointsOf_96 : decode cX8_pointsOf 96 = .ok (.lconst 0, 1) := by decide +kernel
theorem dX8_pointsOf_97 : decode cX8_pointsOf 97 = .ok (.lcmp, 1) := by decide +kernel
theorem dX8_pointsOf_98 : decode cX8_pointsOf 98 = .ok (.ifCond .ne 7, 3) := by decide +kernel
theorem dX8_pointsOf_101 : decode cX8_pointsOf 101 = .ok (.iconst 1, 1) := by decide +kernel
theorem dX8_pointsOf_102 : decode cX8_pointsOf 102 = .ok (.goto 4, 3) := by decide +kernel
theorem dX8_pointsOf_105 : decode cX8_pointsOf 105 = .ok (.iconst 0, 1) := by decide +kernel
theorem dX8_pointsOf_106 : decode cX8_pointsOf 106 = .ok (.iadd, 1) := by decide +kernel
theorem dX8_pointsOf_107 : decode cX8_pointsOf 107 = .ok (.istore_n 3, 1) := by decide +kernel
theorem dX8_pointsOf_108 : decode cX8_pointsOf 108 = .ok (.lload 6, 2) := by decide +kernel
theorem dX8_pointsOf_110 : decode cX8_pointsOf 110 = .ok (.lconst 1, 1) := by decide +kernel
theorem dX8_pointsOf_111 : decode cX8_pointsOf 111 = .ok (.ladd, 1) := by decide +kernel
theorem dX8_pointsOf_112 : decode cX8_pointsOf 112 = .ok (.lstore 6, 2) := by decide +kernel
theorem dX8_pointsOf_114 : decode cX8_pointsOf 114 = .ok (.goto (-99), 3) := by decide +kernel
theorem dX8_pointsOf_117 : decode cX8_pointsOf 117 = .ok (.lload 4, 2) := by decide +kernel
theorem dX8_pointsOf_119 : decode cX8_pointsOf 119 = .ok (.lconst 1, 1) := by decide +kernel
theorem dX8_pointsOf_120 : decode cX8_pointsOf 120 = .ok (.ladd, 1) := by decide +kernel
theorem dX8_pointsOf_121 : decode cX8_pointsOf 121 = .ok (.lstore 4, 2) := by decide +kernel
theorem dX8_pointsOf_123 : decode cX8_pointsOf 123 = .ok (.goto (-118), 3) := by decide +kernel
theorem dX8_pointsOf_126 : decode cX8_pointsOf 126 = .ok (.iload_n 3, 1) := by decide +kernel
theorem dX8_pointsOf_127 : decode cX8_pointsOf 127 = .ok (.ireturn, 1) := by decide +kernel
theorem dX8_isPointed_0 : decode cX8_isPointed 0 = .ok (.iload_n 0, 1) := by decide +kernel
theorem dX8_isPointed_1 : decode cX8_isPointed 1 = .ok (.i2l, 1) := by decide +kernel
theorem dX8_isPointed_2 : decode cX8_isPointed 2 = .ok (.ldc2_w 50, 3) := by decide +kernel
theorem dX8_isPointed_5 : decode cX8_isPointed 5 = .ok (.ldc2_w 311, 3) := by decide +kernel
theorem dX8_isPointed_8 : decode cX8_isPointed 8 = .ok (.invokestatic 104, 3) := by decide +kernel
theorem dX8_isPointed_11 : decode cX8_isPointed 11 = .ok (.ifCond .eq 15, 3) := by decide +kernel
theorem dX8_isPointed_14 : decode cX8_isPointed 14 = .ok (.iload_n 0, 1) := by decide +kernel
theorem dX8_isPointed_15 : decode cX8_isPointed 15 = .ok (.i2l, 1) := by decide +kernel
theorem dX8_isPointed_16 : decode cX8_isPointed 16 = .ok (.invokestatic 297, 3) := by decide +kernel
theorem dX8_isPointed_19 : decode cX8_isPointed 19 = .ok (.ifCond .eq 7, 3) := by decide +kernel
theorem dX8_isPointed_22 : decode cX8_isPointed 22 = .ok (.iconst 1, 1) := by decide +kernel
theorem dX8_isPointed_23 : decode cX8_isPointed 23 = .ok (.goto 4, 3) := by decide +kernel
theorem dX8_isPointed_26 : decode cX8_isPointed 26 = .ok (.iconst 0, 1) := by decide +kernel
theorem dX8_isPointed_27 : decode cX8_isPointed 27 = .ok (.ireturn, 1) := by decide +kernel
theorem dX8_points_0 : decode cX8_points 0 = .ok (.aload_n 0, 1) := by decide +kernel
theorem dX8_points_1 : decode cX8_points 1 = .ok (.iconst 0, 1) := by decide +kernel
theorem dX8_points_2 : decode cX8_points 2 = .ok (.putfield 41, 3) := by decide +kernel
theorem dX8_points_5 : decode cX8_points 5 = .ok (.aload_n 0, 1) := by decide +kernel
theorem dX8_points_6 : decode cX8_points 6 = .ok (.iload_n 1, 1) := by decide +kernel
theorem dX8_points_7 : decode cX8_points 7 = .ok (.invokevirtual 116, 3) := by decide +kernel
theorem dX8_points_10 : decode cX8_points 10 = .ok (.ifCond .eq 10, 3) := by decide +kernel
theorem dX8_points_13 : decode cX8_points 13 = .ok (.iload_n 2, 1) := by decide +kernel
theorem dX8_points_14 : decode cX8_points 14 = .ok (.invokestatic 313, 3) := by decide +kernel
theorem dX8_points_17 : decode cX8_points 17 = .ok (.ifCond .ne 5, 3) := by decide +kernel
theorem dX8_points_20 : decode cX8_points 20 = .ok (.iconst (-1), 1) := by decide +kernel
theorem dX8_points_21 : decode cX8_points 21 = .ok (.ireturn, 1) := by decide +kernel
theorem dX8_points_22 : decode cX8_points 22 = .ok (.aload_n 0, 1) := by decide +kernel
theorem dX8_points_23 : decode cX8_points 23 = .ok (.iload_n 1, 1) := by decide +kernel
theorem dX8_points_24 : decode cX8_points 24 = .ok (.invokevirtual 120, 3) := by decide +kernel
theorem dX8_points_27 : decode cX8_points 27 = .ok (.aload_n 0, 1) := by decide +kernel
theorem dX8_points_28 : decode cX8_points 28 = .ok (.iload_n 2, 1) := by decide +kernel
theorem dX8_points_29 : decode cX8_points 29 = .ok (.i2l, 1) := by decide +kernel
theorem dX8_points_30 : decode cX8_points 30 = .ok (.invokevirtual 316, 3) := by decide +kernel
theorem dX8_points_33 : decode cX8_points 33 = .ok (.ireturn, 1) := by decide +kernel
theorem dX8_trace_0 : decode cX8_trace 0 = .ok (.aload_n 0, 1) := by decide +kernel
theorem dX8_trace_1 : decode cX8_trace 1 = .ok (.iconst 0, 1) := by decide +kernel
theorem dX8_trace_2 : decode cX8_trace 2 = .ok (.putfield 41, 3) := by decide +kernel
theorem dX8_trace_5 : decode cX8_trace 5 = .ok (.aload_n 0, 1) := by decide +kernel
theorem dX8_trace_6 : decode cX8_trace 6 = .ok (.iload_n 1, 1) := by decide +kernel
theorem dX8_trace_7 : decode cX8_trace 7 = .ok (.invokevirtual 116, 3) := by decide +kernel
theorem dX8_trace_10 : decode cX8_trace 10 = .ok (.ifCond .eq 10, 3) := by decide +kernel
theorem dX8_trace_13 : decode cX8_trace 13 = .ok (.iload_n 2, 1) := by decide +kernel
theorem dX8_trace_14 : decode cX8_trace 14 = .ok (.invokestatic 313, 3) := by decide +kernel
theorem dX8_trace_17 : decode cX8_trace 17 = .ok (.ifCond .ne 7, 3) := by decide +kernel
theorem dX8_trace_20 : decode cX8_trace 20 = .ok (.sipush (-1000), 3) := by decide +kernel
theorem dX8_trace_23 : decode cX8_trace 23 = .ok (.ireturn, 1) := by decide +kernel
theorem dX8_trace_24 : decode cX8_trace 24 = .ok (.aload_n 0, 1) := by decide +kernel
theorem dX8_trace_25 : decode cX8_trace 25 = .ok (.iload_n 1, 1) := by decide +kernel
theorem dX8_trace_26 : decode cX8_trace 26 = .ok (.invokevirtual 120, 3) := by decide +kernel
theorem dX8_trace_29 : decode cX8_trace 29 = .ok (.aload_n 0, 1) := by decide +kernel
theorem dX8_trace_30 : decode cX8_trace 30 = .ok (.invokevirtual 274, 3) := by decide +kernel
theorem dX8_trace_33 : decode cX8_trace 33 = .ok (.aload_n 0, 1) := by decide +kernel
theorem dX8_trace_34 : decode cX8_trace 34 = .ok (.invokevirtual 252, 3) := by decide +kernel
theorem dX8_trace_37 : decode cX8_trace 37 = .ok (.aload_n 0, 1) := by decide +kernel
theorem dX8_trace_38 : decode cX8_trace 38 = .ok (.iload_n 2, 1) := by decide +kernel
theorem dX8_trace_39 : decode cX8_trace 39 = .ok (.i2l, 1) := by decide +kernel
theorem dX8_trace_40 : decode cX8_trace 40 = .ok (.invokevirtual 264, 3) := by decide +kernel
theorem dX8_trace_43 : decode cX8_trace 43 = .ok (.aload_n 0, 1) := by decide +kernel
theorem dX8_trace_44 : decode cX8_trace 44 = .ok (.invokevirtual 261, 3) := by decide +kernel
theorem dX8_trace_47 : decode cX8_trace 47 = .ok (.aload_n 0, 1) := by decide +kernel
theorem dX8_trace_48 : decode cX8_trace 48 = .ok (.getfield 22, 3) := by decide +kernel
theorem dX8_trace_51 : decode cX8_trace 51 = .ok (.iconst 0, 1) := by decide +kernel
theorem dX8_trace_52 : decode cX8_trace 52 = .ok (.iaload, 1) := by decide +kernel
theorem dX8_trace_53 : decode cX8_trace 53 = .ok (.ifCond .ne 16, 3) := by decide +kernel
theorem dX8_trace_56 : decode cX8_trace 56 = .ok (.iload_n 2, 1) := by decide +kernel
theorem dX8_trace_57 : decode cX8_trace 57 = .ok (.iconst 1, 1) := by decide +kernel
theorem dX8_trace_58 : decode cX8_trace 58 = .ok (.iadd, 1) := by decide +kernel
theorem dX8_trace_59 : decode cX8_trace 59 = .ok (.aload_n 0, 1) := by decide +kernel
theorem dX8_trace_60 : decode cX8_trace 60 = .ok (.iload_n 2, 1) := by decide +kernel
theorem dX8_trace_61 : decode cX8_trace 61 = .ok (.i2l, 1) := by decide +kernel
theorem dX8_trace_62 : decode cX8_trace 62 = .ok (.invokevirtual 316, 3) := by decide +kernel
theorem dX8_trace_65 : decode cX8_trace 65 = .ok (.isub, 1) := by decide +kernel
theorem dX8_trace_66 : decode cX8_trace 66 = .ok (.goto 33, 3) := by decide +kernel
theorem dX8_trace_69 : decode cX8_trace 69 = .ok (.aload_n 0, 1) := by decide +kernel
theorem dX8_trace_70 : decode cX8_trace 70 = .ok (.getfield 22, 3) := by decide +kernel
theorem dX8_trace_73 : decode cX8_trace 73 = .ok (.iconst 0, 1) := by decide +kernel
theorem dX8_trace_74 : decode cX8_trace 74 = .ok (.iaload, 1) := by decide +kernel
theorem dX8_trace_75 : decode cX8_trace 75 = .ok (.iconst 1, 1) := by decide +kernel
theorem dX8_trace_76 : decode cX8_trace 76 = .ok (.if_icmp .le 7, 3) := by decide +kernel
theorem dX8_trace_79 : decode cX8_trace 79 = .ok (.iconst 0, 1) := by decide +kernel
theorem dX8_trace_80 : decode cX8_trace 80 = .ok (.goto 19, 3) := by decide +kernel
theorem dX8_trace_83 : decode cX8_trace 83 = .ok (.aload_n 0, 1) := by decide +kernel
theorem dX8_trace_84 : decode cX8_trace 84 = .ok (.getfield 22, 3) := by decide +kernel
theorem dX8_trace_87 : decode cX8_trace 87 = .ok (.bipush 6, 2) := by decide +kernel
theorem dX8_trace_89 : decode cX8_trace 89 = .ok (.iaload, 1) := by decide +kernel
theorem dX8_trace_90 : decode cX8_trace 90 = .ok (.iconst 1, 1) := by decide +kernel
theorem dX8_trace_91 : decode cX8_trace 91 = .ok (.if_icmp .ne 7, 3) := by decide +kernel
theorem dX8_trace_94 : decode cX8_trace 94 = .ok (.iconst 1, 1) := by decide +kernel
theorem dX8_trace_95 : decode cX8_trace 95 = .ok (.goto 4, 3) := by decide +kernel
theorem dX8_trace_98 : decode cX8_trace 98 = .ok (.iconst (-1), 1) := by decide +kernel
theorem dX8_trace_99 : decode cX8_trace 99 = .ok (.ireturn, 1) := by decide +kernel
theorem dX8_best_0 : decode cX8_best 0 = .ok (.aload_n 0, 1) := by decide +kernel
theorem dX8_best_1 : decode cX8_best 1 = .ok (.iconst 0, 1) := by decide +kernel
theorem dX8_best_2 : decode cX8_best 2 = .ok (.putfield 41, 3) := by decide +kernel
theorem dX8_best_5 : decode cX8_best 5 = .ok (.iconst 0, 1) := by decide +kernel
theorem dX8_best_6 : decode cX8_best 6 = .ok (.istore_n 2, 1) := by decide +kernel
theorem dX8_best_7 : decode cX8_best 7 = .ok (.lconst 0, 1) := by decide +kernel
theorem dX8_best_8 : decode cX8_best 8 = .ok (.lstore_n 3, 1) := by decide +kernel
theorem dX8_best_9 : decode cX8_best 9 = .ok (.iconst 0, 1) := by decide +kernel
theorem dX8_best_10 : decode cX8_best 10 = .ok (.istore 5, 2) := by decide +kernel
theorem dX8_best_12 : decode cX8_best 12 = .ok (.iload 5, 2) := by decide +kernel
theorem dX8_best_14 : decode cX8_best 14 = .ok (.bipush 14, 2) := by decide +kernel
theorem dX8_best_16 : decode cX8_best 16 = .ok (.if_icmp .ge 80, 3) := by decide +kernel
theorem dX8_best_19 : decode cX8_best 19 = .ok (.aload_n 0, 1) := by decide +kernel
theorem dX8_best_20 : decode cX8_best 20 = .ok (.iload_n 1, 1) := by decide +kernel
theorem dX8_best_21 : decode cX8_best 21 = .ok (.invokevirtual 116, 3) := by decide +kernel
theorem dX8_best_24 : decode cX8_best 24 = .ok (.ifCond .eq 72, 3) := by decide +kernel
theorem dX8_best_27 : decode cX8_best 27 = .ok (.aload_n 0, 1) := by decide +kernel
theorem dX8_best_28 : decode cX8_best 28 = .ok (.iload_n 1, 1) := by decide +kernel
theorem dX8_best_29 : decode cX8_best 29 = .ok (.aload_n 0, 1) := by decide +kernel
theorem dX8_best_30 : decode cX8_best 30 = .ok (.getfield 35, 3) := by decide +kernel
theorem dX8_best_33 : decode cX8_best 33 = .ok (.iload 5, 2) := by decide +kernel
theorem dX8_best_35 : decode cX8_best 35 = .ok (.iaload, 1) := by decide +kernel
theorem dX8_best_36 : decode cX8_best 36 = .ok (.invokevirtual 288, 3) := by decide +kernel
theorem dX8_best_39 : decode cX8_best 39 = .ok (.ifCond .eq 51, 3) := by decide +kernel
theorem dX8_best_42 : decode cX8_best 42 = .ok (.aload_n 0, 1) := by decide +kernel
theorem dX8_best_43 : decode cX8_best 43 = .ok (.iconst 0, 1) := by decide +kernel
theorem dX8_best_44 : decode cX8_best 44 = .ok (.invokevirtual 302, 3) := by decide +kernel
theorem dX8_best_47 : decode cX8_best 47 = .ok (.lstore 6, 2) := by decide +kernel
theorem dX8_best_49 : decode cX8_best 49 = .ok (.iload_n 2, 1) := by decide +kernel
theorem dX8_best_50 : decode cX8_best 50 = .ok (.ifCond .eq 10, 3) := by decide +kernel
theorem dX8_best_53 : decode cX8_best 53 = .ok (.lload 6, 2) := by decide +kernel
theorem dX8_best_55 : decode cX8_best 55 = .ok (.lload_n 3, 1) := by decide +kernel
theorem dX8_best_56 : decode cX8_best 56 = .ok (.lcmp, 1) := by decide +kernel
theorem dX8_best_57 : decode cX8_best 57 = .ok (.ifCond .ge 13, 3) := by decide +kernel
theorem dX8_best_60 : decode cX8_best 60 = .ok (.aload_n 0, 1) := by decide +kernel
theorem dX8_best_61 : decode cX8_best 61 = .ok (.getfield 35, 3) := by decide +kernel
theorem dX8_best_64 : decode cX8_best 64 = .ok (.iload 5, 2) := by decide +kernel
theorem dX8_best_66 : decode cX8_best 66 = .ok (.iaload, 1) := by decide +kernel
theorem dX8_best_67 : decode cX8_best 67 = .ok (.goto 4, 3) := by decide +kernel
theorem dX8_best_70 : decode cX8_best 70 = .ok (.iload_n 2, 1) := by decide +kernel
theorem dX8_best_71 : decode cX8_best 71 = .ok (.istore_n 2, 1) := by decide +kernel
theorem dX8_best_72 : decode cX8_best 72 = .ok (.iload_n 2, 1) := by decide +kernel
theorem dX8_best_73 : decode cX8_best 73 = .ok (.aload_n 0, 1) := by decide +kernel
theorem dX8_best_74 : decode cX8_best 74 = .ok (.getfield 35, 3) := by decide +kernel
theorem dX8_best_77 : decode cX8_best 77 = .ok (.iload 5, 2) := by decide +kernel
theorem dX8_best_79 : decode cX8_best 79 = .ok (.iaload, 1) := by decide +kernel
theorem dX8_best_80 : decode cX8_best 80 = .ok (.if_icmp .ne 8, 3) := by decide +kernel
theorem dX8_best_83 : decode cX8_best 83 = .ok (.lload 6, 2) := by decide +kernel
theorem dX8_best_85 : decode cX8_best 85 = .ok (.goto 4, 3) := by decide +kernel
theorem dX8_best_88 : decode cX8_best 88 = .ok (.lload_n 3, 1) := by decide +kernel
theorem dX8_best_89 : decode cX8_best 89 = .ok (.lstore_n 3, 1) := by decide +kernel
theorem dX8_best_90 : decode cX8_best 90 = .ok (.iinc 5 1, 3) := by decide +kernel
theorem dX8_best_93 : decode cX8_best 93 = .ok (.goto (-81), 3) := by decide +kernel
theorem dX8_best_96 : decode cX8_best 96 = .ok (.iload_n 2, 1) := by decide +kernel
theorem dX8_best_97 : decode cX8_best 97 = .ok (.ireturn, 1) := by decide +kernel
theorem dX8_twisted_0 : decode cX8_twisted 0 = .ok (.aload_n 0, 1) := by decide +kernel
theorem dX8_twisted_1 : decode cX8_twisted 1 = .ok (.iconst 0, 1) := by decide +kernel
theorem dX8_twisted_2 : decode cX8_twisted 2 = .ok (.putfield 41, 3) := by decide +kernel
theorem dX8_twisted_5 : decode cX8_twisted 5 = .ok (.aload_n 0, 1) := by decide +kernel
theorem dX8_twisted_6 : decode cX8_twisted 6 = .ok (.iload_n 1, 1) := by decide +kernel
theorem dX8_twisted_7 : decode cX8_twisted 7 = .ok (.invokevirtual 116, 3) := by decide +kernel
theorem dX8_twisted_10 : decode cX8_twisted 10 = .ok (.ifCond .eq 32, 3) := by decide +kernel
theorem dX8_twisted_13 : decode cX8_twisted 13 = .ok (.iload_n 2, 1) := by decide +kernel
theorem dX8_twisted_14 : decode cX8_twisted 14 = .ok (.iconst 1, 1) := by decide +kernel
theorem dX8_twisted_15 : decode cX8_twisted 15 = .ok (.if_icmp .eq 10, 3) := by decide +kernel
theorem dX8_twisted_18 : decode cX8_twisted 18 = .ok (.iload_n 2, 1) := by decide +kernel
theorem dX8_twisted_19 : decode cX8_twisted 19 = .ok (.invokestatic 285, 3) := by decide +kernel
theorem dX8_twisted_22 : decode cX8_twisted 22 = .ok (.ifCond .eq 20, 3) := by decide +kernel
theorem dX8_twisted_25 : decode cX8_twisted 25 = .ok (.aload_n 0, 1) := by decide +kernel
theorem dX8_twisted_26 : decode cX8_twisted 26 = .ok (.iload_n 1, 1) := by decide +kernel
theorem dX8_twisted_27 : decode cX8_twisted 27 = .ok (.iload_n 2, 1) := by decide +kernel
theorem dX8_twisted_28 : decode cX8_twisted 28 = .ok (.invokevirtual 288, 3) := by decide +kernel
theorem dX8_twisted_31 : decode cX8_twisted 31 = .ok (.ifCond .eq 11, 3) := by decide +kernel
theorem dX8_twisted_34 : decode cX8_twisted 34 = .ok (.aload_n 0, 1) := by decide +kernel
theorem dX8_twisted_35 : decode cX8_twisted 35 = .ok (.iconst 0, 1) := by decide +kernel
theorem dX8_twisted_36 : decode cX8_twisted 36 = .ok (.invokevirtual 302, 3) := by decide +kernel
theorem dX8_twisted_39 : decode cX8_twisted 39 = .ok (.goto 4, 3) := by decide +kernel
theorem dX8_twisted_42 : decode cX8_twisted 42 = .ok (.lconst 0, 1) := by decide +kernel
theorem dX8_twisted_43 : decode cX8_twisted 43 = .ok (.lreturn, 1) := by decide +kernel
theorem dX8_rootOf_0 : decode cX8_rootOf 0 = .ok (.lconst 0, 1) := by decide +kernel
theorem dX8_rootOf_1 : decode cX8_rootOf 1 = .ok (.lstore_n 2, 1) := by decide +kernel
theorem dX8_rootOf_2 : decode cX8_rootOf 2 = .ok (.ldc2_w 319, 3) := by decide +kernel
theorem dX8_rootOf_5 : decode cX8_rootOf 5 = .ok (.lstore 4, 2) := by decide +kernel
theorem dX8_rootOf_7 : decode cX8_rootOf 7 = .ok (.lload 4, 2) := by decide +kernel
theorem dX8_rootOf_9 : decode cX8_rootOf 9 = .ok (.lload_n 2, 1) := by decide +kernel
theorem dX8_rootOf_10 : decode cX8_rootOf 10 = .ok (.lsub, 1) := by decide +kernel
theorem dX8_rootOf_11 : decode cX8_rootOf 11 = .ok (.lconst 1, 1) := by decide +kernel
theorem dX8_rootOf_12 : decode cX8_rootOf 12 = .ok (.lcmp, 1) := by decide +kernel
theorem dX8_rootOf_13 : decode cX8_rootOf 13 = .ok (.ifCond .le 59, 3) := by decide +kernel
theorem dX8_rootOf_16 : decode cX8_rootOf 16 = .ok (.lload_n 2, 1) := by decide +kernel
theorem dX8_rootOf_17 : decode cX8_rootOf 17 = .ok (.lload 4, 2) := by decide +kernel
theorem dX8_rootOf_19 : decode cX8_rootOf 19 = .ok (.ladd, 1) := by decide +kernel
theorem dX8_rootOf_20 : decode cX8_rootOf 20 = .ok (.ldc2_w 50, 3) := by decide +kernel
theorem dX8_rootOf_23 : decode cX8_rootOf 23 = .ok (.ldiv, 1) := by decide +kernel
theorem dX8_rootOf_24 : decode cX8_rootOf 24 = .ok (.lstore 6, 2) := by decide +kernel
theorem dX8_rootOf_26 : decode cX8_rootOf 26 = .ok (.lload 6, 2) := by decide +kernel
theorem dX8_rootOf_28 : decode cX8_rootOf 28 = .ok (.lload 6, 2) := by decide +kernel
theorem dX8_rootOf_30 : decode cX8_rootOf 30 = .ok (.lmul, 1) := by decide +kernel
theorem dX8_rootOf_31 : decode cX8_rootOf 31 = .ok (.lload_n 0, 1) := by decide +kernel
theorem dX8_rootOf_32 : decode cX8_rootOf 32 = .ok (.lcmp, 1) := by decide +kernel
theorem dX8_rootOf_33 : decode cX8_rootOf 33 = .ok (.ifCond .gt 7, 3) := by decide +kernel
theorem dX8_rootOf_36 : decode cX8_rootOf 36 = .ok (.iconst 1, 1) := by decide +kernel
theorem dX8_rootOf_37 : decode cX8_rootOf 37 = .ok (.goto 4, 3) := by decide +kernel
theorem dX8_rootOf_40 : decode cX8_rootOf 40 = .ok (.iconst 0, 1) := by decide +kernel
theorem dX8_rootOf_41 : decode cX8_rootOf 41 = .ok (.istore 8, 2) := by decide +kernel
theorem dX8_rootOf_43 : decode cX8_rootOf 43 = .ok (.iload 8, 2) := by decide +kernel
theorem dX8_rootOf_45 : decode cX8_rootOf 45 = .ok (.ifCond .eq 8, 3) := by decide +kernel
theorem dX8_rootOf_48 : decode cX8_rootOf 48 = .ok (.lload 6, 2) := by decide +kernel
theorem dX8_rootOf_50 : decode cX8_rootOf 50 = .ok (.goto 4, 3) := by decide +kernel
theorem dX8_rootOf_53 : decode cX8_rootOf 53 = .ok (.lload_n 2, 1) := by decide +kernel
theorem dX8_rootOf_54 : decode cX8_rootOf 54 = .ok (.lstore_n 2, 1) := by decide +kernel
theorem dX8_rootOf_55 : decode cX8_rootOf 55 = .ok (.iload 8, 2) := by decide +kernel
theorem dX8_rootOf_57 : decode cX8_rootOf 57 = .ok (.ifCond .eq 8, 3) := by decide +kernel
theorem dX8_rootOf_60 : decode cX8_rootOf 60 = .ok (.lload 4, 2) := by decide +kernel
theorem dX8_rootOf_62 : decode cX8_rootOf 62 = .ok (.goto 5, 3) := by decide +kernel
theorem dX8_rootOf_65 : decode cX8_rootOf 65 = .ok (.lload 6, 2) := by decide +kernel
theorem dX8_rootOf_67 : decode cX8_rootOf 67 = .ok (.lstore 4, 2) := by decide +kernel
theorem dX8_rootOf_69 : decode cX8_rootOf 69 = .ok (.goto (-62), 3) := by decide +kernel
theorem dX8_rootOf_72 : decode cX8_rootOf 72 = .ok (.lload_n 2, 1) := by decide +kernel
theorem dX8_rootOf_73 : decode cX8_rootOf 73 = .ok (.lreturn, 1) := by decide +kernel
theorem dX8_adds_0 : decode cX8_adds 0 = .ok (.aload_n 0, 1) := by decide +kernel
theorem dX8_adds_1 : decode cX8_adds 1 = .ok (.getfield 38, 3) := by decide +kernel
theorem dX8_adds_4 : decode cX8_adds 4 = .ok (.iconst 2, 1) := by decide +kernel
theorem dX8_adds_5 : decode cX8_adds 5 = .ok (.aload_n 0, 1) := by decide +kernel
theorem dX8_adds_6 : decode cX8_adds 6 = .ok (.getfield 321, 3) := by decide +kernel
theorem dX8_adds_9 : decode cX8_adds 9 = .ok (.imul, 1) := by decide +kernel
theorem dX8_adds_10 : decode cX8_adds 10 = .ok (.lload_n 1, 1) := by decide +kernel
theorem dX8_adds_11 : decode cX8_adds 11 = .ok (.lastore, 1) := by decide +kernel
theorem dX8_adds_12 : decode cX8_adds 12 = .ok (.aload_n 0, 1) := by decide +kernel
theorem dX8_adds_13 : decode cX8_adds 13 = .ok (.getfield 38, 3) := by decide +kernel
theorem dX8_adds_16 : decode cX8_adds 16 = .ok (.iconst 2, 1) := by decide +kernel
theorem dX8_adds_17 : decode cX8_adds 17 = .ok (.aload_n 0, 1) := by decide +kernel
theorem dX8_adds_18 : decode cX8_adds 18 = .ok (.getfield 321, 3) := by decide +kernel
theorem dX8_adds_21 : decode cX8_adds 21 = .ok (.imul, 1) := by decide +kernel
theorem dX8_adds_22 : decode cX8_adds 22 = .ok (.iconst 1, 1) := by decide +kernel
theorem dX8_adds_23 : decode cX8_adds 23 = .ok (.iadd, 1) := by decide +kernel
theorem dX8_adds_24 : decode cX8_adds 24 = .ok (.lload_n 3, 1) := by decide +kernel
theorem dX8_adds_25 : decode cX8_adds 25 = .ok (.lastore, 1) := by decide +kernel
theorem dX8_adds_26 : decode cX8_adds 26 = .ok (.aload_n 0, 1) := by decide +kernel
theorem dX8_adds_27 : decode cX8_adds 27 = .ok (.dup, 1) := by decide +kernel
theorem dX8_adds_28 : decode cX8_adds 28 = .ok (.getfield 321, 3) := by decide +kernel
theorem dX8_adds_31 : decode cX8_adds 31 = .ok (.iconst 1, 1) := by decide +kernel
theorem dX8_adds_32 : decode cX8_adds 32 = .ok (.iadd, 1) := by decide +kernel
theorem dX8_adds_33 : decode cX8_adds 33 = .ok (.putfield 321, 3) := by decide +kernel
theorem dX8_adds_36 : decode cX8_adds 36 = .ok (.return_, 1) := by decide +kernel
theorem dX8_laysPoints_0 : decode cX8_laysPoints 0 = .ok (.aload_n 0, 1) := by decide +kernel
theorem dX8_laysPoints_1 : decode cX8_laysPoints 1 = .ok (.iconst 0, 1) := by decide +kernel
theorem dX8_laysPoints_2 : decode cX8_laysPoints 2 = .ok (.putfield 321, 3) := by decide +kernel
theorem dX8_laysPoints_5 : decode cX8_laysPoints 5 = .ok (.ldc2_w 324, 3) := by decide +kernel
theorem dX8_laysPoints_8 : decode cX8_laysPoints 8 = .ok (.lstore_n 1, 1) := by decide +kernel
theorem dX8_laysPoints_9 : decode cX8_laysPoints 9 = .ok (.lload_n 1, 1) := by decide +kernel
theorem dX8_laysPoints_10 : decode cX8_laysPoints 10 = .ok (.ldc2_w 326, 3) := by decide +kernel
theorem dX8_laysPoints_13 : decode cX8_laysPoints 13 = .ok (.lcmp, 1) := by decide +kernel
theorem dX8_laysPoints_14 : decode cX8_laysPoints 14 = .ok (.ifCond .gt 138, 3) := by decide +kernel
theorem dX8_laysPoints_17 : decode cX8_laysPoints 17 = .ok (.aload_n 0, 1) := by decide +kernel
theorem dX8_laysPoints_18 : decode cX8_laysPoints 18 = .ok (.getfield 13, 3) := by decide +kernel
theorem dX8_laysPoints_21 : decode cX8_laysPoints 21 = .ok (.iconst 0, 1) := by decide +kernel
theorem dX8_laysPoints_22 : decode cX8_laysPoints 22 = .ok (.laload, 1) := by decide +kernel
theorem dX8_laysPoints_23 : decode cX8_laysPoints 23 = .ok (.lload_n 1, 1) := by decide +kernel
theorem dX8_laysPoints_24 : decode cX8_laysPoints 24 = .ok (.lmul, 1) := by decide +kernel
theorem dX8_laysPoints_25 : decode cX8_laysPoints 25 = .ok (.aload_n 0, 1) := by decide +kernel
theorem dX8_laysPoints_26 : decode cX8_laysPoints 26 = .ok (.getfield 13, 3) := by decide +kernel
theorem dX8_laysPoints_29 : decode cX8_laysPoints 29 = .ok (.iconst 2, 1) := by decide +kernel
theorem dX8_laysPoints_30 : decode cX8_laysPoints 30 = .ok (.laload, 1) := by decide +kernel
theorem dX8_laysPoints_31 : decode cX8_laysPoints 31 = .ok (.ladd, 1) := by decide +kernel
theorem dX8_laysPoints_32 : decode cX8_laysPoints 32 = .ok (.lstore_n 3, 1) := by decide +kernel
theorem dX8_laysPoints_33 : decode cX8_laysPoints 33 = .ok (.lload_n 3, 1) := by decide +kernel
theorem dX8_laysPoints_34 : decode cX8_laysPoints 34 = .ok (.lload_n 3, 1) := by decide +kernel
theorem dX8_laysPoints_35 : decode cX8_laysPoints 35 = .ok (.lmul, 1) := by decide +kernel
theorem dX8_laysPoints_36 : decode cX8_laysPoints 36 = .ok (.ldc2_w 48, 3) := by decide +kernel
theorem dX8_laysPoints_39 : decode cX8_laysPoints 39 = .ok (.lload_n 1, 1) := by decide +kernel
theorem dX8_laysPoints_40 : decode cX8_laysPoints 40 = .ok (.lload_n 1, 1) := by decide +kernel
theorem dX8_laysPoints_41 : decode cX8_laysPoints 41 = .ok (.lmul, 1) := by decide +kernel
theorem dX8_laysPoints_42 : decode cX8_laysPoints 42 = .ok (.lload_n 1, 1) := by decide +kernel
theorem dX8_laysPoints_43 : decode cX8_laysPoints 43 = .ok (.lmul, 1) := by decide +kernel
theorem dX8_laysPoints_44 : decode cX8_laysPoints 44 = .ok (.aload_n 0, 1) := by decide +kernel
theorem dX8_laysPoints_45 : decode cX8_laysPoints 45 = .ok (.getfield 13, 3) := by decide +kernel
theorem dX8_laysPoints_48 : decode cX8_laysPoints 48 = .ok (.iconst 1, 1) := by decide +kernel
theorem dX8_laysPoints_49 : decode cX8_laysPoints 49 = .ok (.laload, 1) := by decide +kernel
theorem dX8_laysPoints_50 : decode cX8_laysPoints 50 = .ok (.lload_n 1, 1) := by decide +kernel
theorem dX8_laysPoints_51 : decode cX8_laysPoints 51 = .ok (.lmul, 1) := by decide +kernel
theorem dX8_laysPoints_52 : decode cX8_laysPoints 52 = .ok (.lload_n 1, 1) := by decide +kernel
theorem dX8_laysPoints_53 : decode cX8_laysPoints 53 = .ok (.lmul, 1) := by decide +kernel
theorem dX8_laysPoints_54 : decode cX8_laysPoints 54 = .ok (.ladd, 1) := by decide +kernel
theorem dX8_laysPoints_55 : decode cX8_laysPoints 55 = .ok (.aload_n 0, 1) := by decide +kernel
theorem dX8_laysPoints_56 : decode cX8_laysPoints 56 = .ok (.getfield 13, 3) := by decide +kernel
theorem dX8_laysPoints_59 : decode cX8_laysPoints 59 = .ok (.iconst 3, 1) := by decide +kernel
theorem dX8_laysPoints_60 : decode cX8_laysPoints 60 = .ok (.laload, 1) := by decide +kernel
theorem dX8_laysPoints_61 : decode cX8_laysPoints 61 = .ok (.lload_n 1, 1) := by decide +kernel
theorem dX8_laysPoints_62 : decode cX8_laysPoints 62 = .ok (.lmul, 1) := by decide +kernel
theorem dX8_laysPoints_63 : decode cX8_laysPoints 63 = .ok (.ladd, 1) := by decide +kernel
theorem dX8_laysPoints_64 : decode cX8_laysPoints 64 = .ok (.aload_n 0, 1) := by decide +kernel
theorem dX8_laysPoints_65 : decode cX8_laysPoints 65 = .ok (.getfield 13, 3) := by decide +kernel
theorem dX8_laysPoints_68 : decode cX8_laysPoints 68 = .ok (.iconst 4, 1) := by decide +kernel
theorem dX8_laysPoints_69 : decode cX8_laysPoints 69 = .ok (.laload, 1) := by decide +kernel
theorem dX8_laysPoints_70 : decode cX8_laysPoints 70 = .ok (.ladd, 1) := by decide +kernel
theorem dX8_laysPoints_71 : decode cX8_laysPoints 71 = .ok (.lmul, 1) := by decide +kernel
theorem dX8_laysPoints_72 : decode cX8_laysPoints 72 = .ok (.ladd, 1) := by decide +kernel
theorem dX8_laysPoints_73 : decode cX8_laysPoints 73 = .ok (.lstore 5, 2) := by decide +kernel
theorem dX8_laysPoints_75 : decode cX8_laysPoints 75 = .ok (.lload 5, 2) := by decide +kernel
theorem dX8_laysPoints_77 : decode cX8_laysPoints 77 = .ok (.lconst 0, 1) := by decide +kernel
theorem dX8_laysPoints_78 : decode cX8_laysPoints 78 = .ok (.lcmp, 1) := by decide +kernel
theorem dX8_laysPoints_79 : decode cX8_laysPoints 79 = .ok (.ifCond .ge 7, 3) := by decide +kernel
theorem dX8_laysPoints_82 : decode cX8_laysPoints 82 = .ok (.lconst 0, 1) := by decide +kernel
theorem dX8_laysPoints_83 : decode cX8_laysPoints 83 = .ok (.goto 8, 3) := by decide +kernel
theorem dX8_laysPoints_86 : decode cX8_laysPoints 86 = .ok (.lload 5, 2) := by decide +kernel
theorem dX8_laysPoints_88 : decode cX8_laysPoints 88 = .ok (.invokestatic 328, 3) := by decide +kernel
theorem dX8_laysPoints_91 : decode cX8_laysPoints 91 = .ok (.lstore 7, 2) := by decide +kernel
theorem dX8_laysPoints_93 : decode cX8_laysPoints 93 = .ok (.lload 5, 2) := by decide +kernel
theorem dX8_laysPoints_95 : decode cX8_laysPoints 95 = .ok (.lconst 0, 1) := by decide +kernel
theorem dX8_laysPoints_96 : decode cX8_laysPoints 96 = .ok (.lcmp, 1) := by decide +kernel
theorem dX8_laysPoints_97 : decode cX8_laysPoints 97 = .ok (.ifCond .lt 48, 3) := by decide +kernel
theorem dX8_laysPoints_100 : decode cX8_laysPoints 100 = .ok (.lload 7, 2) := by decide +kernel
theorem dX8_laysPoints_102 : decode cX8_laysPoints 102 = .ok (.lload 7, 2) := by decide +kernel
theorem dX8_laysPoints_104 : decode cX8_laysPoints 104 = .ok (.lmul, 1) := by decide +kernel
theorem dX8_laysPoints_105 : decode cX8_laysPoints 105 = .ok (.lload 5, 2) := by decide +kernel
theorem dX8_laysPoints_107 : decode cX8_laysPoints 107 = .ok (.lcmp, 1) := by decide +kernel
theorem dX8_laysPoints_108 : decode cX8_laysPoints 108 = .ok (.ifCond .ne 37, 3) := by decide +kernel
theorem dX8_laysPoints_111 : decode cX8_laysPoints 111 = .ok (.aload_n 0, 1) := by decide +kernel
theorem dX8_laysPoints_112 : decode cX8_laysPoints 112 = .ok (.lload_n 1, 1) := by decide +kernel
theorem dX8_laysPoints_113 : decode cX8_laysPoints 113 = .ok (.lload_n 3, 1) := by decide +kernel
theorem dX8_laysPoints_114 : decode cX8_laysPoints 114 = .ok (.lneg, 1) := by decide +kernel
theorem dX8_laysPoints_115 : decode cX8_laysPoints 115 = .ok (.lload 7, 2) := by decide +kernel
theorem dX8_laysPoints_117 : decode cX8_laysPoints 117 = .ok (.lsub, 1) := by decide +kernel
theorem dX8_laysPoints_118 : decode cX8_laysPoints 118 = .ok (.ldc2_w 50, 3) := by decide +kernel
theorem dX8_laysPoints_121 : decode cX8_laysPoints 121 = .ok (.ldiv, 1) := by decide +kernel
theorem dX8_laysPoints_122 : decode cX8_laysPoints 122 = .ok (.invokevirtual 331, 3) := by decide +kernel
theorem dX8_laysPoints_125 : decode cX8_laysPoints 125 = .ok (.lload 7, 2) := by decide +kernel
theorem dX8_laysPoints_127 : decode cX8_laysPoints 127 = .ok (.lconst 0, 1) := by decide +kernel
theorem dX8_laysPoints_128 : decode cX8_laysPoints 128 = .ok (.lcmp, 1) := by decide +kernel
theorem dX8_laysPoints_129 : decode cX8_laysPoints 129 = .ok (.ifCond .le 16, 3) := by decide +kernel
theorem dX8_laysPoints_132 : decode cX8_laysPoints 132 = .ok (.aload_n 0, 1) := by decide +kernel
theorem dX8_laysPoints_133 : decode cX8_laysPoints 133 = .ok (.lload_n 1, 1) := by decide +kernel
theorem dX8_laysPoints_134 : decode cX8_laysPoints 134 = .ok (.lload 7, 2) := by decide +kernel
theorem dX8_laysPoints_136 : decode cX8_laysPoints 136 = .ok (.lload_n 3, 1) := by decide +kernel
theorem dX8_laysPoints_137 : decode cX8_laysPoints 137 = .ok (.lsub, 1) := by decide +kernel
theorem dX8_laysPoints_138 : decode cX8_laysPoints 138 = .ok (.ldc2_w 50, 3) := by decide +kernel
theorem dX8_laysPoints_141 : decode cX8_laysPoints 141 = .ok (.ldiv, 1) := by decide +kernel
theorem dX8_laysPoints_142 : decode cX8_laysPoints 142 = .ok (.invokevirtual 331, 3) := by decide +kernel
theorem dX8_laysPoints_145 : decode cX8_laysPoints 145 = .ok (.lload_n 1, 1) := by decide +kernel
theorem dX8_laysPoints_146 : decode cX8_laysPoints 146 = .ok (.lconst 1, 1) := by decide +kernel
theorem dX8_laysPoints_147 : decode cX8_laysPoints 147 = .ok (.ladd, 1) := by decide +kernel
theorem dX8_laysPoints_148 : decode cX8_laysPoints 148 = .ok (.lstore_n 1, 1) := by decide +kernel
theorem dX8_laysPoints_149 : decode cX8_laysPoints 149 = .ok (.goto (-140), 3) := by decide +kernel
theorem dX8_laysPoints_152 : decode cX8_laysPoints 152 = .ok (.return_, 1) := by decide +kernel
theorem dX8_small_0 : decode cX8_small 0 = .ok (.aload_n 0, 1) := by decide +kernel
theorem dX8_small_1 : decode cX8_small 1 = .ok (.iconst 0, 1) := by decide +kernel
theorem dX8_small_2 : decode cX8_small 2 = .ok (.putfield 41, 3) := by decide +kernel
theorem dX8_small_5 : decode cX8_small 5 = .ok (.aload_n 0, 1) := by decide +kernel
theorem dX8_small_6 : decode cX8_small 6 = .ok (.iload_n 1, 1) := by decide +kernel
theorem dX8_small_7 : decode cX8_small 7 = .ok (.invokevirtual 116, 3) := by decide +kernel
theorem dX8_small_10 : decode cX8_small 10 = .ok (.ifCond .ne 5, 3) := by decide +kernel
theorem dX8_small_13 : decode cX8_small 13 = .ok (.iconst (-1), 1) := by decide +kernel
theorem dX8_small_14 : decode cX8_small 14 = .ok (.ireturn, 1) := by decide +kernel
theorem dX8_small_15 : decode cX8_small 15 = .ok (.aload_n 0, 1) := by decide +kernel
theorem dX8_small_16 : decode cX8_small 16 = .ok (.iload_n 1, 1) := by decide +kernel
theorem dX8_small_17 : decode cX8_small 17 = .ok (.invokevirtual 120, 3) := by decide +kernel
theorem dX8_small_20 : decode cX8_small 20 = .ok (.aload_n 0, 1) := by decide +kernel
theorem dX8_small_21 : decode cX8_small 21 = .ok (.invokevirtual 334, 3) := by decide +kernel
theorem dX8_small_24 : decode cX8_small 24 = .ok (.aload_n 0, 1) := by decide +kernel
theorem dX8_small_25 : decode cX8_small 25 = .ok (.getfield 321, 3) := by decide +kernel
theorem dX8_small_28 : decode cX8_small 28 = .ok (.ireturn, 1) := by decide +kernel
theorem dX8_point_0 : decode cX8_point 0 = .ok (.aload_n 0, 1) := by decide +kernel
theorem dX8_point_1 : decode cX8_point 1 = .ok (.iconst 0, 1) := by decide +kernel
theorem dX8_point_2 : decode cX8_point 2 = .ok (.putfield 321, 3) := by decide +kernel
theorem dX8_point_5 : decode cX8_point 5 = .ok (.aload_n 0, 1) := by decide +kernel
theorem dX8_point_6 : decode cX8_point 6 = .ok (.iload_n 1, 1) := by decide +kernel
theorem dX8_point_7 : decode cX8_point 7 = .ok (.invokevirtual 116, 3) := by decide +kernel
theorem dX8_point_10 : decode cX8_point 10 = .ok (.ifCond .eq 12, 3) := by decide +kernel
theorem dX8_point_13 : decode cX8_point 13 = .ok (.aload_n 0, 1) := by decide +kernel
theorem dX8_point_14 : decode cX8_point 14 = .ok (.iload_n 1, 1) := by decide +kernel
theorem dX8_point_15 : decode cX8_point 15 = .ok (.invokevirtual 120, 3) := by decide +kernel
theorem dX8_point_18 : decode cX8_point 18 = .ok (.aload_n 0, 1) := by decide +kernel
theorem dX8_point_19 : decode cX8_point 19 = .ok (.invokevirtual 334, 3) := by decide +kernel
theorem dX8_point_22 : decode cX8_point 22 = .ok (.aload_n 0, 1) := by decide +kernel
theorem dX8_point_23 : decode cX8_point 23 = .ok (.iload_n 2, 1) := by decide +kernel
theorem dX8_point_24 : decode cX8_point 24 = .ok (.ifCond .lt 25, 3) := by decide +kernel
theorem dX8_point_27 : decode cX8_point 27 = .ok (.iload_n 2, 1) := by decide +kernel
theorem dX8_point_28 : decode cX8_point 28 = .ok (.aload_n 0, 1) := by decide +kernel
theorem dX8_point_29 : decode cX8_point 29 = .ok (.getfield 321, 3) := by decide +kernel
theorem dX8_point_32 : decode cX8_point 32 = .ok (.if_icmp .ge 17, 3) := by decide +kernel
theorem dX8_point_35 : decode cX8_point 35 = .ok (.iload_n 3, 1) := by decide +kernel
theorem dX8_point_36 : decode cX8_point 36 = .ok (.i2l, 1) := by decide +kernel
theorem dX8_point_37 : decode cX8_point 37 = .ok (.lconst 0, 1) := by decide +kernel
theorem dX8_point_38 : decode cX8_point 38 = .ok (.lconst 1, 1) := by decide +kernel
theorem dX8_point_39 : decode cX8_point 39 = .ok (.invokestatic 104, 3) := by decide +kernel
theorem dX8_point_42 : decode cX8_point 42 = .ok (.ifCond .eq 7, 3) := by decide +kernel
theorem dX8_point_45 : decode cX8_point 45 = .ok (.iconst 0, 1) := by decide +kernel
theorem dX8_point_46 : decode cX8_point 46 = .ok (.goto 4, 3) := by decide +kernel
theorem dX8_point_49 : decode cX8_point 49 = .ok (.iconst 1, 1) := by decide +kernel
theorem dX8_point_50 : decode cX8_point 50 = .ok (.putfield 41, 3) := by decide +kernel
theorem dX8_point_53 : decode cX8_point 53 = .ok (.aload_n 0, 1) := by decide +kernel
theorem dX8_point_54 : decode cX8_point 54 = .ok (.getfield 41, 3) := by decide +kernel
theorem dX8_point_57 : decode cX8_point 57 = .ok (.ifCond .le 7, 3) := by decide +kernel
theorem dX8_point_60 : decode cX8_point 60 = .ok (.iconst 0, 1) := by decide +kernel
theorem dX8_point_61 : decode cX8_point 61 = .ok (.goto 14, 3) := by decide +kernel
theorem dX8_point_64 : decode cX8_point 64 = .ok (.aload_n 0, 1) := by decide +kernel
theorem dX8_point_65 : decode cX8_point 65 = .ok (.getfield 38, 3) := by decide +kernel
theorem dX8_point_68 : decode cX8_point 68 = .ok (.iconst 2, 1) := by decide +kernel
theorem dX8_point_69 : decode cX8_point 69 = .ok (.iload_n 2, 1) := by decide +kernel
theorem dX8_point_70 : decode cX8_point 70 = .ok (.imul, 1) := by decide +kernel
theorem dX8_point_71 : decode cX8_point 71 = .ok (.iload_n 3, 1) := by decide +kernel
theorem dX8_point_72 : decode cX8_point 72 = .ok (.iadd, 1) := by decide +kernel
theorem dX8_point_73 : decode cX8_point 73 = .ok (.laload, 1) := by decide +kernel
theorem dX8_point_74 : decode cX8_point 74 = .ok (.l2i, 1) := by decide +kernel
theorem dX8_point_75 : decode cX8_point 75 = .ok (.ireturn, 1) := by decide +kernel
theorem dX8_minus_0 : decode cX8_minus 0 = .ok (.aload_n 0, 1) := by decide +kernel
theorem dX8_minus_1 : decode cX8_minus 1 = .ok (.iconst 0, 1) := by decide +kernel
theorem dX8_minus_2 : decode cX8_minus 2 = .ok (.putfield 41, 3) := by decide +kernel
theorem dX8_minus_5 : decode cX8_minus 5 = .ok (.aload_n 0, 1) := by decide +kernel
theorem dX8_minus_6 : decode cX8_minus 6 = .ok (.iload_n 1, 1) := by decide +kernel
theorem dX8_minus_7 : decode cX8_minus 7 = .ok (.invokevirtual 116, 3) := by decide +kernel
theorem dX8_minus_10 : decode cX8_minus 10 = .ok (.ifCond .ne 5, 3) := by decide +kernel
theorem dX8_minus_13 : decode cX8_minus 13 = .ok (.iconst (-1), 1) := by decide +kernel
theorem dX8_minus_14 : decode cX8_minus 14 = .ok (.ireturn, 1) := by decide +kernel
theorem dX8_minus_15 : decode cX8_minus 15 = .ok (.aload_n 0, 1) := by decide +kernel
theorem dX8_minus_16 : decode cX8_minus 16 = .ok (.iload_n 1, 1) := by decide +kernel
theorem dX8_minus_17 : decode cX8_minus 17 = .ok (.invokevirtual 120, 3) := by decide +kernel
theorem dX8_minus_20 : decode cX8_minus 20 = .ok (.aload_n 0, 1) := by decide +kernel
theorem dX8_minus_21 : decode cX8_minus 21 = .ok (.invokevirtual 334, 3) := by decide +kernel
theorem dX8_minus_24 : decode cX8_minus 24 = .ok (.iload_n 2, 1) := by decide +kernel
theorem dX8_minus_25 : decode cX8_minus 25 = .ok (.ifCond .lt 11, 3) := by decide +kernel
theorem dX8_minus_28 : decode cX8_minus 28 = .ok (.iload_n 2, 1) := by decide +kernel
theorem dX8_minus_29 : decode cX8_minus 29 = .ok (.aload_n 0, 1) := by decide +kernel
theorem dX8_minus_30 : decode cX8_minus 30 = .ok (.getfield 321, 3) := by decide +kernel
theorem dX8_minus_33 : decode cX8_minus 33 = .ok (.if_icmp .lt 5, 3) := by decide +kernel
theorem dX8_minus_36 : decode cX8_minus 36 = .ok (.iconst (-1), 1) := by decide +kernel
theorem dX8_minus_37 : decode cX8_minus 37 = .ok (.ireturn, 1) := by decide +kernel
theorem dX8_minus_38 : decode cX8_minus 38 = .ok (.iconst (-1), 1) := by decide +kernel
theorem dX8_minus_39 : decode cX8_minus 39 = .ok (.istore_n 3, 1) := by decide +kernel
theorem dX8_minus_40 : decode cX8_minus 40 = .ok (.iconst 0, 1) := by decide +kernel
theorem dX8_minus_41 : decode cX8_minus 41 = .ok (.istore 4, 2) := by decide +kernel
theorem dX8_minus_43 : decode cX8_minus 43 = .ok (.iload 4, 2) := by decide +kernel
theorem dX8_minus_45 : decode cX8_minus 45 = .ok (.aload_n 0, 1) := by decide +kernel
theorem dX8_minus_46 : decode cX8_minus 46 = .ok (.getfield 321, 3) := by decide +kernel
theorem dX8_minus_49 : decode cX8_minus 49 = .ok (.if_icmp .ge 98, 3) := by decide +kernel
theorem dX8_minus_52 : decode cX8_minus 52 = .ok (.aload_n 0, 1) := by decide +kernel
theorem dX8_minus_53 : decode cX8_minus 53 = .ok (.getfield 38, 3) := by decide +kernel
theorem dX8_minus_56 : decode cX8_minus 56 = .ok (.iconst 2, 1) := by decide +kernel
theorem dX8_minus_57 : decode cX8_minus 57 = .ok (.iload 4, 2) := by decide +kernel
theorem dX8_minus_59 : decode cX8_minus 59 = .ok (.imul, 1) := by decide +kernel
theorem dX8_minus_60 : decode cX8_minus 60 = .ok (.laload, 1) := by decide +kernel
theorem dX8_minus_61 : decode cX8_minus 61 = .ok (.aload_n 0, 1) := by decide +kernel
theorem dX8_minus_62 : decode cX8_minus 62 = .ok (.getfield 38, 3) := by decide +kernel
theorem dX8_minus_65 : decode cX8_minus 65 = .ok (.iconst 2, 1) := by decide +kernel
theorem dX8_minus_66 : decode cX8_minus 66 = .ok (.iload_n 2, 1) := by decide +kernel
theorem dX8_minus_67 : decode cX8_minus 67 = .ok (.imul, 1) := by decide +kernel
theorem dX8_minus_68 : decode cX8_minus 68 = .ok (.laload, 1) := by decide +kernel
theorem dX8_minus_69 : decode cX8_minus 69 = .ok (.lcmp, 1) := by decide +kernel
theorem dX8_minus_70 : decode cX8_minus 70 = .ok (.ifCond .ne 56, 3) := by decide +kernel
theorem dX8_minus_73 : decode cX8_minus 73 = .ok (.aload_n 0, 1) := by decide +kernel
theorem dX8_minus_74 : decode cX8_minus 74 = .ok (.getfield 38, 3) := by decide +kernel
theorem dX8_minus_77 : decode cX8_minus 77 = .ok (.iconst 2, 1) := by decide +kernel
theorem dX8_minus_78 : decode cX8_minus 78 = .ok (.iload 4, 2) := by decide +kernel
theorem dX8_minus_80 : decode cX8_minus 80 = .ok (.imul, 1) := by decide +kernel
theorem dX8_minus_81 : decode cX8_minus 81 = .ok (.iconst 1, 1) := by decide +kernel
theorem dX8_minus_82 : decode cX8_minus 82 = .ok (.iadd, 1) := by decide +kernel
theorem dX8_minus_83 : decode cX8_minus 83 = .ok (.laload, 1) := by decide +kernel
theorem dX8_minus_84 : decode cX8_minus 84 = .ok (.aload_n 0, 1) := by decide +kernel
theorem dX8_minus_85 : decode cX8_minus 85 = .ok (.getfield 38, 3) := by decide +kernel
theorem dX8_minus_88 : decode cX8_minus 88 = .ok (.iconst 2, 1) := by decide +kernel
theorem dX8_minus_89 : decode cX8_minus 89 = .ok (.iload_n 2, 1) := by decide +kernel
theorem dX8_minus_90 : decode cX8_minus 90 = .ok (.imul, 1) := by decide +kernel
theorem dX8_minus_91 : decode cX8_minus 91 = .ok (.iconst 1, 1) := by decide +kernel
theorem dX8_minus_92 : decode cX8_minus 92 = .ok (.iadd, 1) := by decide +kernel
theorem dX8_minus_93 : decode cX8_minus 93 = .ok (.laload, 1) := by decide +kernel
theorem dX8_minus_94 : decode cX8_minus 94 = .ok (.lneg, 1) := by decide +kernel
theorem dX8_minus_95 : decode cX8_minus 95 = .ok (.aload_n 0, 1) := by decide +kernel
theorem dX8_minus_96 : decode cX8_minus 96 = .ok (.getfield 13, 3) := by decide +kernel
theorem dX8_minus_99 : decode cX8_minus 99 = .ok (.iconst 0, 1) := by decide +kernel
theorem dX8_minus_100 : decode cX8_minus 100 = .ok (.laload, 1) := by decide +kernel
theorem dX8_minus_101 : decode cX8_minus 101 = .ok (.aload_n 0, 1) := by decide +kernel
theorem dX8_minus_102 : decode cX8_minus 102 = .ok (.getfield 38, 3) := by decide +kernel
theorem dX8_minus_105 : decode cX8_minus 105 = .ok (.iconst 2, 1) := by decide +kernel
theorem dX8_minus_106 : decode cX8_minus 106 = .ok (.iload_n 2, 1) := by decide +kernel
theorem dX8_minus_107 : decode cX8_minus 107 = .ok (.imul, 1) := by decide +kernel
theorem dX8_minus_108 : decode cX8_minus 108 = .ok (.laload, 1) := by decide +kernel
theorem dX8_minus_109 : decode cX8_minus 109 = .ok (.lmul, 1) := by decide +kernel
theorem dX8_minus_110 : decode cX8_minus 110 = .ok (.lsub, 1) := by decide +kernel
theorem dX8_minus_111 : decode cX8_minus 111 = .ok (.aload_n 0, 1) := by decide +kernel
theorem dX8_minus_112 : decode cX8_minus 112 = .ok (.getfield 13, 3) := by decide +kernel
theorem dX8_minus_115 : decode cX8_minus 115 = .ok (.iconst 2, 1) := by decide +kernel
theorem dX8_minus_116 : decode cX8_minus 116 = .ok (.laload, 1) := by decide +kernel
