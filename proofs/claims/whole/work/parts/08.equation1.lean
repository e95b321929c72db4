def g_X0_put (ev : EV) (z : PS) (th : Nat) (l1 : Int64) (l3 : Int64) (l5 : Int64) (l7 : Int64) (l9 : Int64) : Option PS := bd (w64 z 0 th l1) (fun z1 => bd (w64 z1 1 th l3) (fun z2 => bd (w64 z2 2 th l5) (fun z3 => bd (w64 z3 3 th l7) (fun z4 => bd (w64 z4 4 th l9) (fun z5 => bd ((((r64 z5 0 th) * (r64 z5 0 th)) + ((4 : Int64) * (r64 z5 1 th)))) (fun v6 => bd (w64 z5 5 th v6) (fun z7 => bd ((((r64 z7 0 th) * (r64 z7 2 th)) + ((2 : Int64) * (r64 z7 3 th)))) (fun v8 => bd (w64 z7 6 th v8) (fun z9 => bd ((((r64 z9 2 th) * (r64 z9 2 th)) + ((4 : Int64) * (r64 z9 4 th)))) (fun v10 => bd (w64 z9 7 th v10) (fun z11 => bd ((((((((r64 z11 0 th) * (r64 z11 0 th)) * (r64 z11 4 th)) + (((4 : Int64) * (r64 z11 1 th)) * (r64 z11 4 th))) - (((r64 z11 0 th) * (r64 z11 2 th)) * (r64 z11 3 th))) + (((r64 z11 1 th) * (r64 z11 2 th)) * (r64 z11 2 th))) - ((r64 z11 3 th) * (r64 z11 3 th)))) (fun v12 => bd (w64 z11 8 th v12) (fun z13 => bd ((((r64 z13 5 th) * (r64 z13 5 th)) - ((24 : Int64) * (r64 z13 6 th)))) (fun v14 => bd (w64 z13 9 th v14) (fun z15 => bd ((((((-(r64 z15 5 th)) * (r64 z15 5 th)) * (r64 z15 5 th)) + (((36 : Int64) * (r64 z15 5 th)) * (r64 z15 6 th))) - ((216 : Int64) * (r64 z15 7 th)))) (fun v16 => bd (w64 z15 10 th v16) (fun z17 => bd (((((((-(r64 z17 5 th)) * (r64 z17 5 th)) * (r64 z17 8 th)) - ((((8 : Int64) * (r64 z17 6 th)) * (r64 z17 6 th)) * (r64 z17 6 th))) - (((27 : Int64) * (r64 z17 7 th)) * (r64 z17 7 th))) + ((((9 : Int64) * (r64 z17 5 th)) * (r64 z17 6 th)) * (r64 z17 7 th)))) (fun v18 => bd (w64 z17 11 th v18) (fun z19 => some z19)))))))))))))))))))
set_option maxRecDepth 20000 in
set_option maxHeartbeats 4000000 in
theorem c_X0_put (l : Launch) (ev : EV) (z : PS) (E : EWF ev) {th : Nat} (hth : isK ev 0 th) (th_ : Nat) (l1 : Int64) (l3 : Int64) (l5 : Int64) (l7 : Int64) (l9 : Int64) (z9 : PS) (h : g_X0_put ev z th l1 l3 l5 l7 l9 = some z9) : Met l yX0_put (pWs yX0_put cX0_put 11 none) (pR 0 0) (va_Pc [.ref th, .long l1, .long l3, .long l5, .long l7, .long l9] (pPe ev z)) (pQv ev z9) 0 0 (eA ev) := by
  refine pm_of (by decide) (Nat.le_of_ble_eq_true rfl) ?_
  intro p e s m below meth c S hr hlk hv ls hl
  obtain ⟨hP, hK, hX⟩ := hv
  have hS : SS ev s s.heap [] := va_S.rf
  have hl : lv_has ls 11 [(0, .ref th), (1, .long l1), (3, .long l3), (5, .long l5), (7, .long l7), (9, .long l9)] := hl
  unfold g_X0_put at h
  refine lv_aload_n S.1 S.2.1 dX0_put_0 rfl (lv_at hl 0 rfl) ?_
  refine lv_lload_n S.1 S.2.1 dX0_put_1 rfl (lv_at hl 1 rfl) ?_
  obtain ⟨z1, ez1, h⟩ := bd_s h
  refine pf_0_0 S E hK hP hS hth mw_1_36 dX0_put_2 (fun H locs hP hS => ?_)
  rw [← ez1] at hP
  refine lv_aload_n S.1 S.2.1 dX0_put_5 rfl (lv_at hl 0 rfl) ?_
  refine lv_lload_n S.1 S.2.1 dX0_put_6 rfl (lv_at hl 2 rfl) ?_
  obtain ⟨z2, ez2, h⟩ := bd_s h
  refine pf_0_1 S E hK hP hS hth mw_1_38 dX0_put_7 (fun H locs hP hS => ?_)
  rw [← ez2] at hP
  refine lv_aload_n S.1 S.2.1 dX0_put_10 rfl (lv_at hl 0 rfl) ?_
  refine lv_lload S.1 S.2.1 dX0_put_11 (lv_at hl 3 rfl) ?_
  obtain ⟨z3, ez3, h⟩ := bd_s h
  refine pf_0_2 S E hK hP hS hth mw_1_40 dX0_put_13 (fun H locs hP hS => ?_)
  rw [← ez3] at hP
  refine lv_aload_n S.1 S.2.1 dX0_put_16 rfl (lv_at hl 0 rfl) ?_
  refine lv_lload S.1 S.2.1 dX0_put_17 (lv_at hl 4 rfl) ?_
  obtain ⟨z4, ez4, h⟩ := bd_s h
  refine pf_0_3 S E hK hP hS hth mw_1_42 dX0_put_19 (fun H locs hP hS => ?_)
  rw [← ez4] at hP
  refine lv_aload_n S.1 S.2.1 dX0_put_22 rfl (lv_at hl 0 rfl) ?_
  refine lv_lload S.1 S.2.1 dX0_put_23 (lv_at hl 5 rfl) ?_
  obtain ⟨z5, ez5, h⟩ := bd_s h
  refine pf_0_4 S E hK hP hS hth mw_1_44 dX0_put_25 (fun H locs hP hS => ?_)
  rw [← ez5] at hP
  refine lv_aload_n S.1 S.2.1 dX0_put_28 rfl (lv_at hl 0 rfl) ?_
  refine lv_aload_n S.1 S.2.1 dX0_put_29 rfl (lv_at hl 0 rfl) ?_
  refine gf_0_0 S hK hP hth mw_1_36 dX0_put_30 ?_
  refine lv_aload_n S.1 S.2.1 dX0_put_33 rfl (lv_at hl 0 rfl) ?_
  refine gf_0_0 S hK hP hth mw_1_36 dX0_put_34 ?_
  refine lv_lmul S.1 S.2.1 dX0_put_37 ?_
  refine pm_ldc2 S mw_1_220 dX0_put_38 ?_
  refine lv_aload_n S.1 S.2.1 dX0_put_41 rfl (lv_at hl 0 rfl) ?_
  refine gf_0_1 S hK hP hth mw_1_38 dX0_put_42 ?_
  refine lv_lmul S.1 S.2.1 dX0_put_45 ?_
  refine lv_ladd S.1 S.2.1 dX0_put_46 ?_
  obtain ⟨v6, ev6, h⟩ := bd_s h
  refine pm_nmL ev6 ?_
  obtain ⟨z7, ez7, h⟩ := bd_s h
  refine pf_0_5 S E hK hP hS hth mw_1_46 dX0_put_47 (fun H locs hP hS => ?_)
  rw [← ez7] at hP
  refine lv_aload_n S.1 S.2.1 dX0_put_50 rfl (lv_at hl 0 rfl) ?_
  refine lv_aload_n S.1 S.2.1 dX0_put_51 rfl (lv_at hl 0 rfl) ?_
  refine gf_0_0 S hK hP hth mw_1_36 dX0_put_52 ?_
  refine lv_aload_n S.1 S.2.1 dX0_put_55 rfl (lv_at hl 0 rfl) ?_
  refine gf_0_2 S hK hP hth mw_1_40 dX0_put_56 ?_
  refine lv_lmul S.1 S.2.1 dX0_put_59 ?_
  refine pm_ldc2 S mw_1_221 dX0_put_60 ?_
  refine lv_aload_n S.1 S.2.1 dX0_put_63 rfl (lv_at hl 0 rfl) ?_
  refine gf_0_3 S hK hP hth mw_1_42 dX0_put_64 ?_
  refine lv_lmul S.1 S.2.1 dX0_put_67 ?_
  refine lv_ladd S.1 S.2.1 dX0_put_68 ?_
  obtain ⟨v8, ev8, h⟩ := bd_s h
  refine pm_nmL ev8 ?_
  obtain ⟨z9, ez9, h⟩ := bd_s h
  refine pf_0_6 S E hK hP hS hth mw_1_48 dX0_put_69 (fun H locs hP hS => ?_)
  rw [← ez9] at hP
  refine lv_aload_n S.1 S.2.1 dX0_put_72 rfl (lv_at hl 0 rfl) ?_
  refine lv_aload_n S.1 S.2.1 dX0_put_73 rfl (lv_at hl 0 rfl) ?_
  refine gf_0_2 S hK hP hth mw_1_40 dX0_put_74 ?_
  refine lv_aload_n S.1 S.2.1 dX0_put_77 rfl (lv_at hl 0 rfl) ?_
  refine gf_0_2 S hK hP hth mw_1_40 dX0_put_78 ?_
  refine lv_lmul S.1 S.2.1 dX0_put_81 ?_
  refine pm_ldc2 S mw_1_220 dX0_put_82 ?_
  refine lv_aload_n S.1 S.2.1 dX0_put_85 rfl (lv_at hl 0 rfl) ?_
  refine gf_0_4 S hK hP hth mw_1_44 dX0_put_86 ?_
  refine lv_lmul S.1 S.2.1 dX0_put_89 ?_
  refine lv_ladd S.1 S.2.1 dX0_put_90 ?_
  obtain ⟨v10, ev10, h⟩ := bd_s h
  refine pm_nmL ev10 ?_
  obtain ⟨z11, ez11, h⟩ := bd_s h
  refine pf_0_7 S E hK hP hS hth mw_1_49 dX0_put_91 (fun H locs hP hS => ?_)
  rw [← ez11] at hP
  refine lv_aload_n S.1 S.2.1 dX0_put_94 rfl (lv_at hl 0 rfl) ?_
  refine lv_aload_n S.1 S.2.1 dX0_put_95 rfl (lv_at hl 0 rfl) ?_
  refine gf_0_0 S hK hP hth mw_1_36 dX0_put_96 ?_
  refine lv_aload_n S.1 S.2.1 dX0_put_99 rfl (lv_at hl 0 rfl) ?_
  refine gf_0_0 S hK hP hth mw_1_36 dX0_put_100 ?_
  refine lv_lmul S.1 S.2.1 dX0_put_103 ?_
  refine lv_aload_n S.1 S.2.1 dX0_put_104 rfl (lv_at hl 0 rfl) ?_
  refine gf_0_4 S hK hP hth mw_1_44 dX0_put_105 ?_
  refine lv_lmul S.1 S.2.1 dX0_put_108 ?_
  refine pm_ldc2 S mw_1_220 dX0_put_109 ?_
  refine lv_aload_n S.1 S.2.1 dX0_put_112 rfl (lv_at hl 0 rfl) ?_
  refine gf_0_1 S hK hP hth mw_1_38 dX0_put_113 ?_
  refine lv_lmul S.1 S.2.1 dX0_put_116 ?_
  refine lv_aload_n S.1 S.2.1 dX0_put_117 rfl (lv_at hl 0 rfl) ?_
  refine gf_0_4 S hK hP hth mw_1_44 dX0_put_118 ?_
  refine lv_lmul S.1 S.2.1 dX0_put_121 ?_
  refine lv_ladd S.1 S.2.1 dX0_put_122 ?_
  refine lv_aload_n S.1 S.2.1 dX0_put_123 rfl (lv_at hl 0 rfl) ?_
  refine gf_0_0 S hK hP hth mw_1_36 dX0_put_124 ?_
  refine lv_aload_n S.1 S.2.1 dX0_put_127 rfl (lv_at hl 0 rfl) ?_
  refine gf_0_2 S hK hP hth mw_1_40 dX0_put_128 ?_
  refine lv_lmul S.1 S.2.1 dX0_put_131 ?_
  refine lv_aload_n S.1 S.2.1 dX0_put_132 rfl (lv_at hl 0 rfl) ?_
  refine gf_0_3 S hK hP hth mw_1_42 dX0_put_133 ?_
  refine lv_lmul S.1 S.2.1 dX0_put_136 ?_
  refine lv_lsub S.1 S.2.1 dX0_put_137 ?_
  refine lv_aload_n S.1 S.2.1 dX0_put_138 rfl (lv_at hl 0 rfl) ?_
  refine gf_0_1 S hK hP hth mw_1_38 dX0_put_139 ?_
  refine lv_aload_n S.1 S.2.1 dX0_put_142 rfl (lv_at hl 0 rfl) ?_
  refine gf_0_2 S hK hP hth mw_1_40 dX0_put_143 ?_
  refine lv_lmul S.1 S.2.1 dX0_put_146 ?_
  refine lv_aload_n S.1 S.2.1 dX0_put_147 rfl (lv_at hl 0 rfl) ?_
  refine gf_0_2 S hK hP hth mw_1_40 dX0_put_148 ?_
  refine lv_lmul S.1 S.2.1 dX0_put_151 ?_
  refine lv_ladd S.1 S.2.1 dX0_put_152 ?_
  refine lv_aload_n S.1 S.2.1 dX0_put_153 rfl (lv_at hl 0 rfl) ?_
  refine gf_0_3 S hK hP hth mw_1_42 dX0_put_154 ?_
  refine lv_aload_n S.1 S.2.1 dX0_put_157 rfl (lv_at hl 0 rfl) ?_
  refine gf_0_3 S hK hP hth mw_1_42 dX0_put_158 ?_
  refine lv_lmul S.1 S.2.1 dX0_put_161 ?_
  refine lv_lsub S.1 S.2.1 dX0_put_162 ?_
  obtain ⟨v12, ev12, h⟩ := bd_s h
  refine pm_nmL ev12 ?_
  obtain ⟨z13, ez13, h⟩ := bd_s h
  refine pf_0_8 S E hK hP hS hth mw_1_51 dX0_put_163 (fun H locs hP hS => ?_)
  rw [← ez13] at hP
  refine lv_aload_n S.1 S.2.1 dX0_put_166 rfl (lv_at hl 0 rfl) ?_
  refine lv_aload_n S.1 S.2.1 dX0_put_167 rfl (lv_at hl 0 rfl) ?_
  refine gf_0_5 S hK hP hth mw_1_46 dX0_put_168 ?_
  refine lv_aload_n S.1 S.2.1 dX0_put_171 rfl (lv_at hl 0 rfl) ?_
  refine gf_0_5 S hK hP hth mw_1_46 dX0_put_172 ?_
  refine lv_lmul S.1 S.2.1 dX0_put_175 ?_
  refine pm_ldc2 S mw_1_222 dX0_put_176 ?_
  refine lv_aload_n S.1 S.2.1 dX0_put_179 rfl (lv_at hl 0 rfl) ?_
  refine gf_0_6 S hK hP hth mw_1_48 dX0_put_180 ?_
  refine lv_lmul S.1 S.2.1 dX0_put_183 ?_
  refine lv_lsub S.1 S.2.1 dX0_put_184 ?_
  obtain ⟨v14, ev14, h⟩ := bd_s h
  refine pm_nmL ev14 ?_
  obtain ⟨z15, ez15, h⟩ := bd_s h
  refine pf_0_9 S E hK hP hS hth mw_1_54 dX0_put_185 (fun H locs hP hS => ?_)
  rw [← ez15] at hP
  refine lv_aload_n S.1 S.2.1 dX0_put_188 rfl (lv_at hl 0 rfl) ?_
  refine lv_aload_n S.1 S.2.1 dX0_put_189 rfl (lv_at hl 0 rfl) ?_
  refine gf_0_5 S hK hP hth mw_1_46 dX0_put_190 ?_
  refine lv_lneg S.1 S.2.1 dX0_put_193 ?_
  refine lv_aload_n S.1 S.2.1 dX0_put_194 rfl (lv_at hl 0 rfl) ?_
  refine gf_0_5 S hK hP hth mw_1_46 dX0_put_195 ?_
  refine lv_lmul S.1 S.2.1 dX0_put_198 ?_
  refine lv_aload_n S.1 S.2.1 dX0_put_199 rfl (lv_at hl 0 rfl) ?_
  refine gf_0_5 S hK hP hth mw_1_46 dX0_put_200 ?_
  refine lv_lmul S.1 S.2.1 dX0_put_203 ?_
  refine pm_ldc2 S mw_1_223 dX0_put_204 ?_
  refine lv_aload_n S.1 S.2.1 dX0_put_207 rfl (lv_at hl 0 rfl) ?_
  refine gf_0_5 S hK hP hth mw_1_46 dX0_put_208 ?_
  refine lv_lmul S.1 S.2.1 dX0_put_211 ?_
  refine lv_aload_n S.1 S.2.1 dX0_put_212 rfl (lv_at hl 0 rfl) ?_
  refine gf_0_6 S hK hP hth mw_1_48 dX0_put_213 ?_
  refine lv_lmul S.1 S.2.1 dX0_put_216 ?_
  refine lv_ladd S.1 S.2.1 dX0_put_217 ?_
  refine pm_ldc2 S mw_1_224 dX0_put_218 ?_
  refine lv_aload_n S.1 S.2.1 dX0_put_221 rfl (lv_at hl 0 rfl) ?_
  refine gf_0_7 S hK hP hth mw_1_49 dX0_put_222 ?_
  refine lv_lmul S.1 S.2.1 dX0_put_225 ?_
  refine lv_lsub S.1 S.2.1 dX0_put_226 ?_
  obtain ⟨v16, ev16, h⟩ := bd_s h
  refine pm_nmL ev16 ?_
  obtain ⟨z17, ez17, h⟩ := bd_s h
  refine pf_0_10 S E hK hP hS hth mw_1_58 dX0_put_227 (fun H locs hP hS => ?_)
  rw [← ez17] at hP
  refine lv_aload_n S.1 S.2.1 dX0_put_230 rfl (lv_at hl 0 rfl) ?_
  refine lv_aload_n S.1 S.2.1 dX0_put_231 rfl (lv_at hl 0 rfl) ?_
  refine gf_0_5 S hK hP hth mw_1_46 dX0_put_232 ?_
  refine lv_lneg S.1 S.2.1 dX0_put_235 ?_
  refine lv_aload_n S.1 S.2.1 dX0_put_236 rfl (lv_at hl 0 rfl) ?_
  refine gf_0_5 S hK hP hth mw_1_46 dX0_put_237 ?_
  refine lv_lmul S.1 S.2.1 dX0_put_240 ?_
  refine lv_aload_n S.1 S.2.1 dX0_put_241 rfl (lv_at hl 0 rfl) ?_
  refine gf_0_8 S hK hP hth mw_1_51 dX0_put_242 ?_
  refine lv_lmul S.1 S.2.1 dX0_put_245 ?_
  refine pm_ldc2 S mw_1_225 dX0_put_246 ?_
  refine lv_aload_n S.1 S.2.1 dX0_put_249 rfl (lv_at hl 0 rfl) ?_
  refine gf_0_6 S hK hP hth mw_1_48 dX0_put_250 ?_
  refine lv_lmul S.1 S.2.1 dX0_put_253 ?_
  refine lv_aload_n S.1 S.2.1 dX0_put_254 rfl (lv_at hl 0 rfl) ?_
  refine gf_0_6 S hK hP hth mw_1_48 dX0_put_255 ?_
  refine lv_lmul S.1 S.2.1 dX0_put_258 ?_
  refine lv_aload_n S.1 S.2.1 dX0_put_259 rfl (lv_at hl 0 rfl) ?_
  refine gf_0_6 S hK hP hth mw_1_48 dX0_put_260 ?_
  refine lv_lmul S.1 S.2.1 dX0_put_263 ?_
  refine lv_lsub S.1 S.2.1 dX0_put_264 ?_
  refine pm_ldc2 S mw_1_226 dX0_put_265 ?_
  refine lv_aload_n S.1 S.2.1 dX0_put_268 rfl (lv_at hl 0 rfl) ?_
  refine gf_0_7 S hK hP hth mw_1_49 dX0_put_269 ?_
  refine lv_lmul S.1 S.2.1 dX0_put_272 ?_
  refine lv_aload_n S.1 S.2.1 dX0_put_273 rfl (lv_at hl 0 rfl) ?_
  refine gf_0_7 S hK hP hth mw_1_49 dX0_put_274 ?_
  refine lv_lmul S.1 S.2.1 dX0_put_277 ?_
  refine lv_lsub S.1 S.2.1 dX0_put_278 ?_
  refine pm_ldc2 S mw_1_227 dX0_put_279 ?_
  refine lv_aload_n S.1 S.2.1 dX0_put_282 rfl (lv_at hl 0 rfl) ?_
  refine gf_0_5 S hK hP hth mw_1_46 dX0_put_283 ?_
  refine lv_lmul S.1 S.2.1 dX0_put_286 ?_
  refine lv_aload_n S.1 S.2.1 dX0_put_287 rfl (lv_at hl 0 rfl) ?_
  refine gf_0_6 S hK hP hth mw_1_48 dX0_put_288 ?_
  refine lv_lmul S.1 S.2.1 dX0_put_291 ?_
  refine lv_aload_n S.1 S.2.1 dX0_put_292 rfl (lv_at hl 0 rfl) ?_
  refine gf_0_7 S hK hP hth mw_1_49 dX0_put_293 ?_
  refine lv_lmul S.1 S.2.1 dX0_put_296 ?_
  refine lv_ladd S.1 S.2.1 dX0_put_297 ?_
  obtain ⟨v18, ev18, h⟩ := bd_s h
  refine pm_nmL ev18 ?_
  obtain ⟨z19, ez19, h⟩ := bd_s h
  refine pf_0_11 S E hK hP hS hth mw_1_63 dX0_put_298 (fun H locs hP hS => ?_)
  rw [← ez19] at hP
  exact pm_vretW S hr hlk hP hS (Option.some.inj h) dX0_put_301
theorem vm_X0_put : pm_Vm yX0_put cX0_put 11 none 5 := ⟨mw_1_219, mw_1_217, mw_1_218, mw_1_3, by decide, by decide⟩
def g_X0_isWithinBounds (ev : EV) (z : PS) (th : Nat) : Option Int32 := ob (g_X7_within (r64 z 0 th) (100000 : Int64)) (fun v1 => if v1 = 0 then (some (0 : Int32)) else (ob (g_X7_within (r64 z 1 th) (100000 : Int64)) (fun v3 => if v3 = 0 then (some (0 : Int32)) else (ob (g_X7_within (r64 z 2 th) (100000 : Int64)) (fun v5 => if v5 = 0 then (some (0 : Int32)) else (ob (g_X7_within (r64 z 3 th) (100000 : Int64)) (fun v7 => if v7 = 0 then (some (0 : Int32)) else (ob (g_X7_within (r64 z 4 th) (100000 : Int64)) (fun v9 => if v9 = 0 then (some (0 : Int32)) else (ob (g_X7_within (r64 z 11 th) (1000000000000000000 : Int64)) (fun v11 => if v11 = 0 then (some (0 : Int32)) else (some (1 : Int32)))))))))))))
set_option maxRecDepth 20000 in
set_option maxHeartbeats 4000000 in
theorem c_X0_isWithinBounds (l : Launch) (ev : EV) (z : PS) (E : EWF ev) {th : Nat} (hth : isK ev 0 th) (th_ : Nat) (r : Int32) (h : g_X0_isWithinBounds ev z th = some r) : Met l yX0_isWithinBounds (pWs yX0_isWithinBounds cX0_isWithinBounds 1 (some .boolean)) (pR 1 35) (va_Pc [.ref th] (pPe ev z)) (k2_QcV (.int r)) 0 0 (fun _ => False) := by
  refine pm_of (by decide) (Nat.le_of_ble_eq_true rfl) ?_
  intro p e s m below meth c S hr hlk hv ls hl
  obtain ⟨hP, hK, hX⟩ := hv
  have hl : lv_has ls 1 [(0, .ref th)] := hl
  unfold g_X0_isWithinBounds at h
  refine lv_aload_n S.1 S.2.1 dX0_isWithinBounds_0 rfl (lv_at hl 0 rfl) ?_
  refine gf_0_0 S hK hP hth mw_1_36 dX0_isWithinBounds_1 ?_
  refine pm_ldc2 S mw_1_236 dX0_isWithinBounds_4 ?_
  obtain ⟨v1, ev1, h⟩ := ob_s h
  refine pm_cSN (As := [.long (r64 z 0 th), .long (100000 : Int64)]) (rest := []) S (c_X7_within l (r64 z 0 th) (100000 : Int64) v1 ev1) sm_X7_within hX.1.1 ⟨⟨rfl, rfl⟩, by decide, by decide⟩ rfl hl.1 rfl (Nat.le_of_ble_eq_true rfl) ⟨Nat.zero_le _, Nat.zero_le _⟩ dX0_isWithinBounds_7 ?_
  refine lv_if_eq (tgt := 82) S.1 S.2.1 dX0_isWithinBounds_10 (by decide) (fun c2 => ?_) (fun c2 => ?_)
  · rw [if_pos c2] at h
    refine lv_iconst (v := 0) S.1 S.2.1 dX0_isWithinBounds_82 (by decide) ?_
    exact pm_zretR S hr hlk (Or.inl rfl) (Option.some.inj h) dX0_isWithinBounds_83
  · rw [if_neg c2] at h
    refine lv_aload_n S.1 S.2.1 dX0_isWithinBounds_13 rfl (lv_at hl 0 rfl) ?_
    refine gf_0_1 S hK hP hth mw_1_38 dX0_isWithinBounds_14 ?_
    refine pm_ldc2 S mw_1_236 dX0_isWithinBounds_17 ?_
    obtain ⟨v3, ev3, h⟩ := ob_s h
    refine pm_cSN (As := [.long (r64 z 1 th), .long (100000 : Int64)]) (rest := []) S (c_X7_within l (r64 z 1 th) (100000 : Int64) v3 ev3) sm_X7_within hX.1.1 ⟨⟨rfl, rfl⟩, by decide, by decide⟩ rfl hl.1 rfl (Nat.le_of_ble_eq_true rfl) ⟨Nat.zero_le _, Nat.zero_le _⟩ dX0_isWithinBounds_20 ?_
    refine lv_if_eq (tgt := 82) S.1 S.2.1 dX0_isWithinBounds_23 (by decide) (fun c4 => ?_) (fun c4 => ?_)
    · rw [if_pos c4] at h
      refine lv_iconst (v := 0) S.1 S.2.1 dX0_isWithinBounds_82 (by decide) ?_
      exact pm_zretR S hr hlk (Or.inl rfl) (Option.some.inj h) dX0_isWithinBounds_83
    · rw [if_neg c4] at h
      refine lv_aload_n S.1 S.2.1 dX0_isWithinBounds_26 rfl (lv_at hl 0 rfl) ?_
      refine gf_0_2 S hK hP hth mw_1_40 dX0_isWithinBounds_27 ?_
      refine pm_ldc2 S mw_1_236 dX0_isWithinBounds_30 ?_
      obtain ⟨v5, ev5, h⟩ := ob_s h
      refine pm_cSN (As := [.long (r64 z 2 th), .long (100000 : Int64)]) (rest := []) S (c_X7_within l (r64 z 2 th) (100000 : Int64) v5 ev5) sm_X7_within hX.1.1 ⟨⟨rfl, rfl⟩, by decide, by decide⟩ rfl hl.1 rfl (Nat.le_of_ble_eq_true rfl) ⟨Nat.zero_le _, Nat.zero_le _⟩ dX0_isWithinBounds_33 ?_
      refine lv_if_eq (tgt := 82) S.1 S.2.1 dX0_isWithinBounds_36 (by decide) (fun c6 => ?_) (fun c6 => ?_)
      · rw [if_pos c6] at h
        refine lv_iconst (v := 0) S.1 S.2.1 dX0_isWithinBounds_82 (by decide) ?_
        exact pm_zretR S hr hlk (Or.inl rfl) (Option.some.inj h) dX0_isWithinBounds_83
      · rw [if_neg c6] at h
        refine lv_aload_n S.1 S.2.1 dX0_isWithinBounds_39 rfl (lv_at hl 0 rfl) ?_
        refine gf_0_3 S hK hP hth mw_1_42 dX0_isWithinBounds_40 ?_
        refine pm_ldc2 S mw_1_236 dX0_isWithinBounds_43 ?_
        obtain ⟨v7, ev7, h⟩ := ob_s h
        refine pm_cSN (As := [.long (r64 z 3 th), .long (100000 : Int64)]) (rest := []) S (c_X7_within l (r64 z 3 th) (100000 : Int64) v7 ev7) sm_X7_within hX.1.1 ⟨⟨rfl, rfl⟩, by decide, by decide⟩ rfl hl.1 rfl (Nat.le_of_ble_eq_true rfl) ⟨Nat.zero_le _, Nat.zero_le _⟩ dX0_isWithinBounds_46 ?_
        refine lv_if_eq (tgt := 82) S.1 S.2.1 dX0_isWithinBounds_49 (by decide) (fun c8 => ?_) (fun c8 => ?_)
        · rw [if_pos c8] at h
          refine lv_iconst (v := 0) S.1 S.2.1 dX0_isWithinBounds_82 (by decide) ?_
          exact pm_zretR S hr hlk (Or.inl rfl) (Option.some.inj h) dX0_isWithinBounds_83
        · rw [if_neg c8] at h
          refine lv_aload_n S.1 S.2.1 dX0_isWithinBounds_52 rfl (lv_at hl 0 rfl) ?_
          refine gf_0_4 S hK hP hth mw_1_44 dX0_isWithinBounds_53 ?_
          refine pm_ldc2 S mw_1_236 dX0_isWithinBounds_56 ?_
          obtain ⟨v9, ev9, h⟩ := ob_s h
          refine pm_cSN (As := [.long (r64 z 4 th), .long (100000 : Int64)]) (rest := []) S (c_X7_within l (r64 z 4 th) (100000 : Int64) v9 ev9) sm_X7_within hX.1.1 ⟨⟨rfl, rfl⟩, by decide, by decide⟩ rfl hl.1 rfl (Nat.le_of_ble_eq_true rfl) ⟨Nat.zero_le _, Nat.zero_le _⟩ dX0_isWithinBounds_59 ?_
          refine lv_if_eq (tgt := 82) S.1 S.2.1 dX0_isWithinBounds_62 (by decide) (fun c10 => ?_) (fun c10 => ?_)
          · rw [if_pos c10] at h
            refine lv_iconst (v := 0) S.1 S.2.1 dX0_isWithinBounds_82 (by decide) ?_
            exact pm_zretR S hr hlk (Or.inl rfl) (Option.some.inj h) dX0_isWithinBounds_83
          · rw [if_neg c10] at h
            refine lv_aload_n S.1 S.2.1 dX0_isWithinBounds_65 rfl (lv_at hl 0 rfl) ?_
            refine gf_0_11 S hK hP hth mw_1_63 dX0_isWithinBounds_66 ?_
            refine pm_ldc2 S mw_1_238 dX0_isWithinBounds_69 ?_
            obtain ⟨v11, ev11, h⟩ := ob_s h
            refine pm_cSN (As := [.long (r64 z 11 th), .long (1000000000000000000 : Int64)]) (rest := []) S (c_X7_within l (r64 z 11 th) (1000000000000000000 : Int64) v11 ev11) sm_X7_within hX.1.1 ⟨⟨rfl, rfl⟩, by decide, by decide⟩ rfl hl.1 rfl (Nat.le_of_ble_eq_true rfl) ⟨Nat.zero_le _, Nat.zero_le _⟩ dX0_isWithinBounds_72 ?_
            refine lv_if_eq (tgt := 82) S.1 S.2.1 dX0_isWithinBounds_75 (by decide) (fun c12 => ?_) (fun c12 => ?_)
            · rw [if_pos c12] at h
              refine lv_iconst (v := 0) S.1 S.2.1 dX0_isWithinBounds_82 (by decide) ?_
              exact pm_zretR S hr hlk (Or.inl rfl) (Option.some.inj h) dX0_isWithinBounds_83
            · rw [if_neg c12] at h
              refine lv_iconst (v := 1) S.1 S.2.1 dX0_isWithinBounds_78 (by decide) ?_
              refine lv_goto (tgt := 83) S.1 S.2.1 dX0_isWithinBounds_79 (by decide) ?_
              exact pm_zretR S hr hlk (Or.inr rfl) (Option.some.inj h) dX0_isWithinBounds_83
theorem vm_X0_isWithinBounds : pm_Vm yX0_isWithinBounds cX0_isWithinBounds 1 (some .boolean) 0 := ⟨mw_1_235, mw_1_233, mw_1_234, mw_1_3, by decide, by decide⟩
def g_X0_take (ev : EV) (z : PS) (th : Nat) (l1 : Nat) : Option PS := ob (g_X0_put ev z th (r64 z 0 l1) (r64 z 1 l1) (r64 z 2 l1) (r64 z 3 l1) (r64 z 4 l1)) (fun z1 => some z1)
set_option maxRecDepth 20000 in
set_option maxHeartbeats 4000000 in
theorem c_X0_take (l : Launch) (ev : EV) (z : PS) (E : EWF ev) {th : Nat} (hth : isK ev 0 th) {l1 : Nat} (hl1 : isK ev 0 l1) (th_ : Nat) (l1_ : Nat) (z9 : PS) (h : g_X0_take ev z th l1 = some z9) : Met l yX0_take (pWs yX0_take cX0_take 2 none) (pR 1 42) (va_Pc [.ref th, .ref l1] (pPe ev z)) (pQv ev z9) 0 0 (eA ev) := by
  refine pm_of (by decide) (Nat.le_of_ble_eq_true rfl) ?_
  intro p e s m below meth c S hr hlk hv ls hl
  obtain ⟨hP, hK, hX⟩ := hv
  have hS : SS ev s s.heap [] := va_S.rf
  have hl : lv_has ls 2 [(0, .ref th), (1, .ref l1)] := hl
  unfold g_X0_take at h
  refine lv_aload_n S.1 S.2.1 dX0_take_0 rfl (lv_at hl 0 rfl) ?_
  refine lv_aload_n S.1 S.2.1 dX0_take_1 rfl (lv_at hl 1 rfl) ?_
  refine gf_0_0 S hK hP hl1 mw_1_36 dX0_take_2 ?_
  refine lv_aload_n S.1 S.2.1 dX0_take_5 rfl (lv_at hl 1 rfl) ?_
  refine gf_0_1 S hK hP hl1 mw_1_38 dX0_take_6 ?_
  refine lv_aload_n S.1 S.2.1 dX0_take_9 rfl (lv_at hl 1 rfl) ?_
  refine gf_0_2 S hK hP hl1 mw_1_40 dX0_take_10 ?_
  refine lv_aload_n S.1 S.2.1 dX0_take_13 rfl (lv_at hl 1 rfl) ?_
  refine gf_0_3 S hK hP hl1 mw_1_42 dX0_take_14 ?_
  refine lv_aload_n S.1 S.2.1 dX0_take_17 rfl (lv_at hl 1 rfl) ?_
  refine gf_0_4 S hK hP hl1 mw_1_44 dX0_take_18 ?_
  obtain ⟨z1, ez1, h⟩ := ob_s h
  refine pm_cVv (As := [.long (r64 z 0 l1), .long (r64 z 1 l1), .long (r64 z 2 l1), .long (r64 z 3 l1), .long (r64 z 4 l1)]) (rest := []) S hK hX hP hS (c_X0_put l ev z E hth th (r64 z 0 l1) (r64 z 1 l1) (r64 z 2 l1) (r64 z 3 l1) (r64 z 4 l1) z1 ez1) vm_X0_put mw_2_7 (rc_0 hK hP hth) ⟨⟨rfl, rfl⟩, by decide, by decide⟩ rfl hl.1 rfl (Nat.le_of_ble_eq_true rfl) ⟨Nat.zero_le _, Nat.zero_le _⟩ dX0_take_21 (fun H locs hP hS => ?_)
  exact pm_vretW S hr hlk hP hS (Option.some.inj h) dX0_take_24
theorem vm_X0_take : pm_Vm yX0_take cX0_take 2 none 1 := ⟨mw_2_6, mw_2_4, mw_2_5, mw_1_3, by decide, by decide⟩
def g_X3_mostShrinks (l0 : Int64) (l2 : Int64) (l4 : Int64) (l6 : Int64) : Option Int32 := ob (g_X4_times l4 l6) (fun v1 => bd ((v1 / (12 : Int32))) (fun v2 => if l0 = (0 : Int64) then (if l2 = (0 : Int64) then (some v2) else (ob (g_X4_times l2 l6) (fun v5 => bd ((if (v5 / (6 : Int32)) < v2 then (v5 / (6 : Int32)) else v2)) (fun v6 => some v6)))) else (ob (g_X4_times l0 l6) (fun v7 => bd ((if (v7 / (4 : Int32)) < v2 then (v7 / (4 : Int32)) else v2)) (fun v8 => if l2 = (0 : Int64) then (some v8) else (ob (g_X4_times l2 l6) (fun v10 => bd ((if (v10 / (6 : Int32)) < v8 then (v10 / (6 : Int32)) else v8)) (fun v11 => some v11))))))))
set_option maxRecDepth 20000 in
set_option maxHeartbeats 4000000 in
theorem c_X3_mostShrinks (l : Launch) (l0 : Int64) (l2 : Int64) (l4 : Int64) (l6 : Int64) (r : Int32) (h : g_X3_mostShrinks l0 l2 l4 l6 = some r) : Met l yX3_mostShrinks (pWs yX3_mostShrinks cX3_mostShrinks 9 (some .int)) (pR 1 38) (va_Pc [.long l0, .long l2, .long l4, .long l6] (fun _ => True)) (k2_QcV (.int r)) 0 0 (fun _ => False) := by
  refine pm_of (by decide) (Nat.le_of_ble_eq_true rfl) ?_
  intro p e s m below meth c S hr hlk hv ls hl
  have hl : lv_has ls 9 [(0, .long l0), (2, .long l2), (4, .long l4), (6, .long l6)] := hl
  unfold g_X3_mostShrinks at h
  refine lv_lload S.1 S.2.1 dX3_mostShrinks_0 (lv_at hl 2 rfl) ?_
  refine lv_lload S.1 S.2.1 dX3_mostShrinks_2 (lv_at hl 3 rfl) ?_
  obtain ⟨v1, ev1, h⟩ := ob_s h
  refine pm_cS (As := [.long l4, .long l6]) (rest := []) S (c_X4_times l l4 l6 v1 ev1) sm_X4_times mw_2_16 ⟨⟨rfl, rfl⟩, by decide, by decide⟩ rfl hl.1 rfl (Nat.le_of_ble_eq_true rfl) ⟨Nat.zero_le _, Nat.zero_le _⟩ dX3_mostShrinks_4 ?_
  refine lv_bipush (v := 12) S.1 S.2.1 dX3_mostShrinks_7 (by decide) ?_
  refine lv_idiv S.1 S.2.1 dX3_mostShrinks_9 (by decide) ?_
  obtain ⟨v2, ev2, h⟩ := bd_s h
  refine pm_nmI ev2 ?_
  refine lv_istore (lv' := [(8, .int v2), (0, .long l0), (2, .long l2), (4, .long l4), (6, .long l6)]) S.1 S.2.1 dX3_mostShrinks_10 hl (by decide) rfl (fun ls hl => ?_)
  refine lv_lload_n S.1 S.2.1 dX3_mostShrinks_12 rfl (lv_at hl 1 rfl) ?_
  refine lv_lconst (v := 0) S.1 S.2.1 dX3_mostShrinks_13 (by decide) ?_
  refine pm_leq (tgt := 33) S dX3_mostShrinks_14 dX3_mostShrinks_15 (by decide) (fun c3 => ?_) (fun c3 => ?_)
  · rw [if_pos c3] at h
    refine lv_lload_n S.1 S.2.1 dX3_mostShrinks_33 rfl (lv_at hl 2 rfl) ?_
    refine lv_lconst (v := 0) S.1 S.2.1 dX3_mostShrinks_34 (by decide) ?_
    refine pm_leq (tgt := 55) S dX3_mostShrinks_35 dX3_mostShrinks_36 (by decide) (fun c4 => ?_) (fun c4 => ?_)
    · rw [if_pos c4] at h
      refine lv_iload S.1 S.2.1 dX3_mostShrinks_55 (lv_at hl 0 rfl) ?_
      exact pm_iretR S hr hlk (Option.some.inj h) dX3_mostShrinks_57
    · rw [if_neg c4] at h
      refine lv_iload S.1 S.2.1 dX3_mostShrinks_39 (lv_at hl 0 rfl) ?_
      refine lv_lload_n S.1 S.2.1 dX3_mostShrinks_41 rfl (lv_at hl 2 rfl) ?_
      refine lv_lload S.1 S.2.1 dX3_mostShrinks_42 (lv_at hl 4 rfl) ?_
      obtain ⟨v5, ev5, h⟩ := ob_s h
      refine pm_cS (As := [.long l2, .long l6]) (rest := [.int v2]) S (c_X4_times l l2 l6 v5 ev5) sm_X4_times mw_2_16 ⟨⟨rfl, rfl⟩, by decide, by decide⟩ rfl hl.1 rfl (Nat.le_of_ble_eq_true rfl) ⟨Nat.zero_le _, Nat.zero_le _⟩ dX3_mostShrinks_44 ?_
      refine lv_bipush (v := 6) S.1 S.2.1 dX3_mostShrinks_47 (by decide) ?_
      refine lv_idiv S.1 S.2.1 dX3_mostShrinks_49 (by decide) ?_
      refine va_mmin S.1 S.2.1 (S.2.2.1.trans hl.1.symm) S.2.2.2.1 (S.2.2.2.2 _ mw_2_20) (S.2.2.2.2 _ mw_2_21) (S.2.2.2.2 _ mw_1_10) (S.2.2.2.2 _ mw_2_22) (by decide) (Nat.le_of_ble_eq_true rfl) (Nat.zero_le _) (Nat.zero_le _) dX3_mostShrinks_50 ?_
      obtain ⟨v6, ev6, h⟩ := bd_s h
      refine pm_nmI ev6 ?_
      refine lv_istore (lv' := [(8, .int v6), (0, .long l0), (2, .long l2), (4, .long l4), (6, .long l6)]) S.1 S.2.1 dX3_mostShrinks_53 hl (by decide) rfl (fun ls hl => ?_)
      refine lv_iload S.1 S.2.1 dX3_mostShrinks_55 (lv_at hl 0 rfl) ?_
      exact pm_iretR S hr hlk (Option.some.inj h) dX3_mostShrinks_57
  · rw [if_neg c3] at h
    refine lv_iload S.1 S.2.1 dX3_mostShrinks_18 (lv_at hl 0 rfl) ?_
    refine lv_lload_n S.1 S.2.1 dX3_mostShrinks_20 rfl (lv_at hl 1 rfl) ?_
    refine lv_lload S.1 S.2.1 dX3_mostShrinks_21 (lv_at hl 4 rfl) ?_
    obtain ⟨v7, ev7, h⟩ := ob_s h
    refine pm_cS (As := [.long l0, .long l6]) (rest := [.int v2]) S (c_X4_times l l0 l6 v7 ev7) sm_X4_times mw_2_16 ⟨⟨rfl, rfl⟩, by decide, by decide⟩ rfl hl.1 rfl (Nat.le_of_ble_eq_true rfl) ⟨Nat.zero_le _, Nat.zero_le _⟩ dX3_mostShrinks_23 ?_
    refine lv_iconst (v := 4) S.1 S.2.1 dX3_mostShrinks_26 (by decide) ?_
    refine lv_idiv S.1 S.2.1 dX3_mostShrinks_27 (by decide) ?_
    refine va_mmin S.1 S.2.1 (S.2.2.1.trans hl.1.symm) S.2.2.2.1 (S.2.2.2.2 _ mw_2_20) (S.2.2.2.2 _ mw_2_21) (S.2.2.2.2 _ mw_1_10) (S.2.2.2.2 _ mw_2_22) (by decide) (Nat.le_of_ble_eq_true rfl) (Nat.zero_le _) (Nat.zero_le _) dX3_mostShrinks_28 ?_
    obtain ⟨v8, ev8, h⟩ := bd_s h
    refine pm_nmI ev8 ?_
    refine lv_istore (lv' := [(8, .int v8), (0, .long l0), (2, .long l2), (4, .long l4), (6, .long l6)]) S.1 S.2.1 dX3_mostShrinks_31 hl (by decide) rfl (fun ls hl => ?_)
    refine lv_lload_n S.1 S.2.1 dX3_mostShrinks_33 rfl (lv_at hl 2 rfl) ?_
    refine lv_lconst (v := 0) S.1 S.2.1 dX3_mostShrinks_34 (by decide) ?_
    refine pm_leq (tgt := 55) S dX3_mostShrinks_35 dX3_mostShrinks_36 (by decide) (fun c9 => ?_) (fun c9 => ?_)
    · rw [if_pos c9] at h
      refine lv_iload S.1 S.2.1 dX3_mostShrinks_55 (lv_at hl 0 rfl) ?_
      exact pm_iretR S hr hlk (Option.some.inj h) dX3_mostShrinks_57
    · rw [if_neg c9] at h
      refine lv_iload S.1 S.2.1 dX3_mostShrinks_39 (lv_at hl 0 rfl) ?_
      refine lv_lload_n S.1 S.2.1 dX3_mostShrinks_41 rfl (lv_at hl 2 rfl) ?_
      refine lv_lload S.1 S.2.1 dX3_mostShrinks_42 (lv_at hl 4 rfl) ?_
      obtain ⟨v10, ev10, h⟩ := ob_s h
      refine pm_cS (As := [.long l2, .long l6]) (rest := [.int v8]) S (c_X4_times l l2 l6 v10 ev10) sm_X4_times mw_2_16 ⟨⟨rfl, rfl⟩, by decide, by decide⟩ rfl hl.1 rfl (Nat.le_of_ble_eq_true rfl) ⟨Nat.zero_le _, Nat.zero_le _⟩ dX3_mostShrinks_44 ?_
      refine lv_bipush (v := 6) S.1 S.2.1 dX3_mostShrinks_47 (by decide) ?_
      refine lv_idiv S.1 S.2.1 dX3_mostShrinks_49 (by decide) ?_
      refine va_mmin S.1 S.2.1 (S.2.2.1.trans hl.1.symm) S.2.2.2.1 (S.2.2.2.2 _ mw_2_20) (S.2.2.2.2 _ mw_2_21) (S.2.2.2.2 _ mw_1_10) (S.2.2.2.2 _ mw_2_22) (by decide) (Nat.le_of_ble_eq_true rfl) (Nat.zero_le _) (Nat.zero_le _) dX3_mostShrinks_50 ?_
      obtain ⟨v11, ev11, h⟩ := bd_s h
      refine pm_nmI ev11 ?_
      refine lv_istore (lv' := [(8, .int v11), (0, .long l0), (2, .long l2), (4, .long l4), (6, .long l6)]) S.1 S.2.1 dX3_mostShrinks_53 hl (by decide) rfl (fun ls hl => ?_)
      refine lv_iload S.1 S.2.1 dX3_mostShrinks_55 (lv_at hl 0 rfl) ?_
      exact pm_iretR S hr hlk (Option.some.inj h) dX3_mostShrinks_57
theorem sm_X3_mostShrinks : pm_Sm yX3_mostShrinks cX3_mostShrinks 9 (some .int) 4 := ⟨mw_2_15, mw_2_14, mw_1_8, by decide, by decide⟩
def g_X3_shrunk (l0 : Int64) (l2 : Int64) (l4 : Int32) : Option Int64 := ob (g_X4_power l2 l4) (fun v1 => ob (g_X4_quotient l0 v1) (fun v2 => some v2))
set_option maxRecDepth 20000 in
set_option maxHeartbeats 4000000 in
theorem c_X3_shrunk (l : Launch) (l0 : Int64) (l2 : Int64) (l4 : Int32) (r : Int64) (h : g_X3_shrunk l0 l2 l4 = some r) : Met l yX3_shrunk (pWs yX3_shrunk cX3_shrunk 5 (some .long)) (pR 1 37) (va_Pc [.long l0, .long l2, .int l4] (fun _ => True)) (k2_QcV (.long r)) 0 0 (fun _ => False) := by
  refine pm_of (by decide) (Nat.le_of_ble_eq_true rfl) ?_
  intro p e s m below meth c S hr hlk hv ls hl
  have hl : lv_has ls 5 [(0, .long l0), (2, .long l2), (4, .int l4)] := hl
  unfold g_X3_shrunk at h
  refine lv_lload_n S.1 S.2.1 dX3_shrunk_0 rfl (lv_at hl 0 rfl) ?_
  refine lv_lload_n S.1 S.2.1 dX3_shrunk_1 rfl (lv_at hl 1 rfl) ?_
  refine lv_iload S.1 S.2.1 dX3_shrunk_2 (lv_at hl 2 rfl) ?_
  obtain ⟨v1, ev1, h⟩ := ob_s h
  refine pm_cS (As := [.long l2, .int l4]) (rest := [.long l0]) S (c_X4_power l l2 l4 v1 ev1) sm_X4_power mw_2_26 ⟨⟨rfl, rfl⟩, by decide, by decide⟩ rfl hl.1 rfl (Nat.le_of_ble_eq_true rfl) ⟨Nat.zero_le _, Nat.zero_le _⟩ dX3_shrunk_4 ?_
  obtain ⟨v2, ev2, h⟩ := ob_s h
  refine pm_cS (As := [.long l0, .long v1]) (rest := []) S (c_X4_quotient l l0 v1 v2 ev2) sm_X4_quotient mw_2_29 ⟨⟨rfl, rfl⟩, by decide, by decide⟩ rfl hl.1 rfl (Nat.le_of_ble_eq_true rfl) ⟨Nat.zero_le _, Nat.zero_le _⟩ dX3_shrunk_7 ?_
  exact pm_lretR S hr hlk (Option.some.inj h) dX3_shrunk_10
theorem sm_X3_shrunk : pm_Sm yX3_shrunk cX3_shrunk 5 (some .long) 3 := ⟨mw_2_25, mw_2_24, mw_1_8, by decide, by decide⟩
def g_X3_isWhole (l0 : Int64) (l2 : Int64) (l4 : Int32) : Option Int32 := if l4 = (2 : Int32) then (ob (g_X4_rest l2 (32 : Int64)) (fun v7 => ob (g_X4_rest l2 (4 : Int64)) (fun v8 => if v8 = (3 : Int64) then (some (1 : Int32)) else (ob (g_X4_rest l0 (16 : Int64)) (fun v10 => if v10 = (0 : Int64) then (if v7 = (0 : Int64) then (some (1 : Int32)) else (if v7 = (8 : Int64) then (some (1 : Int32)) else (some (0 : Int32)))) else (some (0 : Int32))))))) else (if l4 = (3 : Int32) then (ob (g_X4_rest l2 (9 : Int64)) (fun v3 => if v3 = (0 : Int64) then (ob (g_X4_rest l2 (27 : Int64)) (fun v5 => if v5 = (0 : Int64) then (some (1 : Int32)) else (some (0 : Int32)))) else (some (1 : Int32)))) else (some (1 : Int32)))
set_option maxRecDepth 20000 in
set_option maxHeartbeats 4000000 in
theorem c_X3_isWhole (l : Launch) (l0 : Int64) (l2 : Int64) (l4 : Int32) (r : Int32) (h : g_X3_isWhole l0 l2 l4 = some r) : Met l yX3_isWhole (pWs yX3_isWhole cX3_isWhole 7 (some .boolean)) (pR 1 37) (va_Pc [.long l0, .long l2, .int l4] (fun _ => True)) (k2_QcV (.int r)) 0 0 (fun _ => False) := by
  refine pm_of (by decide) (Nat.le_of_ble_eq_true rfl) ?_
  intro p e s m below meth c S hr hlk hv ls hl
  have hl : lv_has ls 7 [(0, .long l0), (2, .long l2), (4, .int l4)] := hl
  unfold g_X3_isWhole at h
  refine lv_iload S.1 S.2.1 dX3_isWhole_0 (lv_at hl 2 rfl) ?_
  refine lv_iconst (v := 2) S.1 S.2.1 dX3_isWhole_2 (by decide) ?_
  refine lv_icmp_ne (tgt := 63) S.1 S.2.1 dX3_isWhole_3 (by decide) (fun c1 => ?_) (fun c1 => ?_)
  · rw [if_neg c1] at h
    refine lv_iload S.1 S.2.1 dX3_isWhole_63 (lv_at hl 2 rfl) ?_
    refine lv_iconst (v := 3) S.1 S.2.1 dX3_isWhole_65 (by decide) ?_
    refine lv_icmp_ne (tgt := 93) S.1 S.2.1 dX3_isWhole_66 (by decide) (fun c2 => ?_) (fun c2 => ?_)
    · rw [if_neg c2] at h
      refine lv_iconst (v := 1) S.1 S.2.1 dX3_isWhole_93 (by decide) ?_
      refine lv_goto (tgt := 98) S.1 S.2.1 dX3_isWhole_94 (by decide) ?_
      exact pm_zretR S hr hlk (Or.inr rfl) (Option.some.inj h) dX3_isWhole_98
    · rw [if_pos c2] at h
      refine lv_lload_n S.1 S.2.1 dX3_isWhole_69 rfl (lv_at hl 1 rfl) ?_
      refine pm_ldc2 S mw_2_43 dX3_isWhole_70 ?_
      obtain ⟨v3, ev3, h⟩ := ob_s h
      refine pm_cS (As := [.long l2, .long (9 : Int64)]) (rest := []) S (c_X4_rest l l2 (9 : Int64) v3 ev3) sm_X4_rest mw_2_36 ⟨⟨rfl, rfl⟩, by decide, by decide⟩ rfl hl.1 rfl (Nat.le_of_ble_eq_true rfl) ⟨Nat.zero_le _, Nat.zero_le _⟩ dX3_isWhole_73 ?_
      refine lv_lconst (v := 0) S.1 S.2.1 dX3_isWhole_76 (by decide) ?_
      refine pm_lne (tgt := 93) S dX3_isWhole_77 dX3_isWhole_78 (by decide) (fun c4 => ?_) (fun c4 => ?_)
      · rw [if_neg c4] at h
        refine lv_iconst (v := 1) S.1 S.2.1 dX3_isWhole_93 (by decide) ?_
        refine lv_goto (tgt := 98) S.1 S.2.1 dX3_isWhole_94 (by decide) ?_
        exact pm_zretR S hr hlk (Or.inr rfl) (Option.some.inj h) dX3_isWhole_98
      · rw [if_pos c4] at h
        refine lv_lload_n S.1 S.2.1 dX3_isWhole_81 rfl (lv_at hl 1 rfl) ?_
        refine pm_ldc2 S mw_2_44 dX3_isWhole_82 ?_
        obtain ⟨v5, ev5, h⟩ := ob_s h
        refine pm_cS (As := [.long l2, .long (27 : Int64)]) (rest := []) S (c_X4_rest l l2 (27 : Int64) v5 ev5) sm_X4_rest mw_2_36 ⟨⟨rfl, rfl⟩, by decide, by decide⟩ rfl hl.1 rfl (Nat.le_of_ble_eq_true rfl) ⟨Nat.zero_le _, Nat.zero_le _⟩ dX3_isWhole_85 ?_
        refine lv_lconst (v := 0) S.1 S.2.1 dX3_isWhole_88 (by decide) ?_
        refine pm_lne (tgt := 97) S dX3_isWhole_89 dX3_isWhole_90 (by decide) (fun c6 => ?_) (fun c6 => ?_)
        · rw [if_neg c6] at h
          refine lv_iconst (v := 0) S.1 S.2.1 dX3_isWhole_97 (by decide) ?_
          exact pm_zretR S hr hlk (Or.inl rfl) (Option.some.inj h) dX3_isWhole_98
        · rw [if_pos c6] at h
          refine lv_iconst (v := 1) S.1 S.2.1 dX3_isWhole_93 (by decide) ?_
          refine lv_goto (tgt := 98) S.1 S.2.1 dX3_isWhole_94 (by decide) ?_
          exact pm_zretR S hr hlk (Or.inr rfl) (Option.some.inj h) dX3_isWhole_98
  · rw [if_pos c1] at h
    refine lv_lload_n S.1 S.2.1 dX3_isWhole_6 rfl (lv_at hl 1 rfl) ?_
    refine pm_ldc2 S mw_2_35 dX3_isWhole_7 ?_
    obtain ⟨v7, ev7, h⟩ := ob_s h
    refine pm_cS (As := [.long l2, .long (32 : Int64)]) (rest := []) S (c_X4_rest l l2 (32 : Int64) v7 ev7) sm_X4_rest mw_2_36 ⟨⟨rfl, rfl⟩, by decide, by decide⟩ rfl hl.1 rfl (Nat.le_of_ble_eq_true rfl) ⟨Nat.zero_le _, Nat.zero_le _⟩ dX3_isWhole_10 ?_
    refine lv_lstore (lv' := [(5, .long v7), (0, .long l0), (2, .long l2), (4, .int l4)]) S.1 S.2.1 dX3_isWhole_13 hl (by decide) rfl (fun ls hl => ?_)
    refine lv_lload_n S.1 S.2.1 dX3_isWhole_15 rfl (lv_at hl 2 rfl) ?_
    refine pm_ldc2 S mw_2_39 dX3_isWhole_16 ?_
    obtain ⟨v8, ev8, h⟩ := ob_s h
    refine pm_cS (As := [.long l2, .long (4 : Int64)]) (rest := []) S (c_X4_rest l l2 (4 : Int64) v8 ev8) sm_X4_rest mw_2_36 ⟨⟨rfl, rfl⟩, by decide, by decide⟩ rfl hl.1 rfl (Nat.le_of_ble_eq_true rfl) ⟨Nat.zero_le _, Nat.zero_le _⟩ dX3_isWhole_19 ?_
    refine pm_ldc2 S mw_2_40 dX3_isWhole_22 ?_
    refine pm_leq (tgt := 57) S dX3_isWhole_25 dX3_isWhole_26 (by decide) (fun c9 => ?_) (fun c9 => ?_)
    · rw [if_pos c9] at h
      refine lv_iconst (v := 1) S.1 S.2.1 dX3_isWhole_57 (by decide) ?_
      refine lv_goto (tgt := 62) S.1 S.2.1 dX3_isWhole_58 (by decide) ?_
      exact pm_zretR S hr hlk (Or.inr rfl) (Option.some.inj h) dX3_isWhole_62
    · rw [if_neg c9] at h
      refine lv_lload_n S.1 S.2.1 dX3_isWhole_29 rfl (lv_at hl 1 rfl) ?_
      refine pm_ldc2 S mw_2_41 dX3_isWhole_30 ?_
      obtain ⟨v10, ev10, h⟩ := ob_s h
      refine pm_cS (As := [.long l0, .long (16 : Int64)]) (rest := []) S (c_X4_rest l l0 (16 : Int64) v10 ev10) sm_X4_rest mw_2_36 ⟨⟨rfl, rfl⟩, by decide, by decide⟩ rfl hl.1 rfl (Nat.le_of_ble_eq_true rfl) ⟨Nat.zero_le _, Nat.zero_le _⟩ dX3_isWhole_33 ?_
      refine lv_lconst (v := 0) S.1 S.2.1 dX3_isWhole_36 (by decide) ?_
      refine pm_lne (tgt := 61) S dX3_isWhole_37 dX3_isWhole_38 (by decide) (fun c11 => ?_) (fun c11 => ?_)
      · rw [if_neg c11] at h
        refine lv_iconst (v := 0) S.1 S.2.1 dX3_isWhole_61 (by decide) ?_
        exact pm_zretR S hr hlk (Or.inl rfl) (Option.some.inj h) dX3_isWhole_62
      · rw [if_pos c11] at h
        refine lv_lload S.1 S.2.1 dX3_isWhole_41 (lv_at hl 0 rfl) ?_
        refine lv_lconst (v := 0) S.1 S.2.1 dX3_isWhole_43 (by decide) ?_
        refine pm_leq (tgt := 57) S dX3_isWhole_44 dX3_isWhole_45 (by decide) (fun c12 => ?_) (fun c12 => ?_)
        · rw [if_pos c12] at h
          refine lv_iconst (v := 1) S.1 S.2.1 dX3_isWhole_57 (by decide) ?_
          refine lv_goto (tgt := 62) S.1 S.2.1 dX3_isWhole_58 (by decide) ?_
          exact pm_zretR S hr hlk (Or.inr rfl) (Option.some.inj h) dX3_isWhole_62
        · rw [if_neg c12] at h
          refine lv_lload S.1 S.2.1 dX3_isWhole_48 (lv_at hl 0 rfl) ?_
          refine pm_ldc2 S mw_2_42 dX3_isWhole_50 ?_
          refine pm_lne (tgt := 61) S dX3_isWhole_53 dX3_isWhole_54 (by decide) (fun c13 => ?_) (fun c13 => ?_)
          · rw [if_neg c13] at h
            refine lv_iconst (v := 0) S.1 S.2.1 dX3_isWhole_61 (by decide) ?_
            exact pm_zretR S hr hlk (Or.inl rfl) (Option.some.inj h) dX3_isWhole_62
          · rw [if_pos c13] at h
            refine lv_iconst (v := 1) S.1 S.2.1 dX3_isWhole_57 (by decide) ?_
            refine lv_goto (tgt := 62) S.1 S.2.1 dX3_isWhole_58 (by decide) ?_
            exact pm_zretR S hr hlk (Or.inr rfl) (Option.some.inj h) dX3_isWhole_62
theorem sm_X3_isWhole : pm_Sm yX3_isWhole cX3_isWhole 7 (some .boolean) 3 := ⟨mw_2_34, mw_2_33, mw_1_8, by decide, by decide⟩
def q_X3_build_27 (ev : EV) (l4 : Nat) (l0 : Int64) (l2 : Int64) (l5 : Int64) (z : PS) : Option PS := ob (g_X4_quotient ((l5 * l5) - l0) (24 : Int64)) (fun v4 => ob (g_X4_quotient (((((-l5) * l5) * l5) + (((36 : Int64) * l5) * v4)) - l2) (216 : Int64)) (fun v5 => ob (g_X4_rest l5 (2 : Int64)) (fun v6 => ob (g_X4_rest v5 (2 : Int64)) (fun v7 => ob (g_X4_quotient (l5 - v6) (4 : Int64)) (fun v8 => ob (g_X4_quotient (v4 - (v6 * v7)) (2 : Int64)) (fun v9 => ob (g_X4_quotient (v5 - v7) (4 : Int64)) (fun v10 => ob (g_X0_put ev z l4 v6 v8 v7 v9 v10) (fun z11 => some z11))))))))
set_option maxRecDepth 20000 in
set_option maxHeartbeats 4000000 in
theorem w_X3_build_27 {ev : EV} {l4 : Nat} {p : Program} {l : Launch} {e : Env} {s : State} {m : MethodId} {args : Array Value} {below : List Frame} {meth : Method} {c : Code} {z9 : PS} (S : CallFix p m c cX3_build 15 s args gT RX3) (hr : meth.sig.returnType = none) (hlk : meth.locks = false) (E : EWF ev) (hK : KK ev s) (hX : pXt ev s) (hl4 : isK ev 0 l4) : ∀ (l0 : Int64) (l2 : Int64) (l5 : Int64) (z : PS) (ls : Array Slot) (H : Heap) (locs : List Loc), q_X3_build_27 ev l4 l0 l2 l5 z = some z9 → lv_has ls 15 [(0, .long l0), (2, .long l2), (4, .ref l4), (5, .long l5)] → Wd ev z H → SS ev s H locs → W p l e (pR 1 42) s m args below meth c H locs 0 0 (MQ below (pQv ev z9) args s 0 0 (eA ev)) (F0 m 27 ls []) := by
  intro l0 l2 l5 z ls H locs h hl hP hS
  unfold q_X3_build_27 at h
  refine lv_lload S.1 S.2.1 dX3_build_27 (lv_at hl 3 rfl) ?_
  refine lv_lload S.1 S.2.1 dX3_build_29 (lv_at hl 3 rfl) ?_
  refine lv_lmul S.1 S.2.1 dX3_build_31 ?_
  refine lv_lload_n S.1 S.2.1 dX3_build_32 rfl (lv_at hl 0 rfl) ?_
  refine lv_lsub S.1 S.2.1 dX3_build_33 ?_
  refine pm_ldc2 S mw_2_50 dX3_build_34 ?_
  obtain ⟨v4, ev4, h⟩ := ob_s h
  refine pm_cS (As := [.long ((l5 * l5) - l0), .long (24 : Int64)]) (rest := []) S (c_X4_quotient l ((l5 * l5) - l0) (24 : Int64) v4 ev4) sm_X4_quotient mw_2_29 ⟨⟨rfl, rfl⟩, by decide, by decide⟩ rfl hl.1 rfl (Nat.le_of_ble_eq_true rfl) ⟨Nat.zero_le _, Nat.zero_le _⟩ dX3_build_37 ?_
  refine lv_lstore (lv' := [(7, .long v4), (0, .long l0), (2, .long l2), (4, .ref l4), (5, .long l5)]) S.1 S.2.1 dX3_build_40 hl (by decide) rfl (fun ls hl => ?_)
  refine lv_lload S.1 S.2.1 dX3_build_42 (lv_at hl 4 rfl) ?_
  refine lv_lneg S.1 S.2.1 dX3_build_44 ?_
  refine lv_lload S.1 S.2.1 dX3_build_45 (lv_at hl 4 rfl) ?_
  refine lv_lmul S.1 S.2.1 dX3_build_47 ?_
  refine lv_lload S.1 S.2.1 dX3_build_48 (lv_at hl 4 rfl) ?_
  refine lv_lmul S.1 S.2.1 dX3_build_50 ?_
  refine pm_ldc2 S mw_2_51 dX3_build_51 ?_
  refine lv_lload S.1 S.2.1 dX3_build_54 (lv_at hl 4 rfl) ?_
  refine lv_lmul S.1 S.2.1 dX3_build_56 ?_
  refine lv_lload S.1 S.2.1 dX3_build_57 (lv_at hl 0 rfl) ?_
  refine lv_lmul S.1 S.2.1 dX3_build_59 ?_
  refine lv_ladd S.1 S.2.1 dX3_build_60 ?_
  refine lv_lload_n S.1 S.2.1 dX3_build_61 rfl (lv_at hl 2 rfl) ?_
  refine lv_lsub S.1 S.2.1 dX3_build_62 ?_
  refine pm_ldc2 S mw_2_52 dX3_build_63 ?_
  obtain ⟨v5, ev5, h⟩ := ob_s h
  refine pm_cS (As := [.long (((((-l5) * l5) * l5) + (((36 : Int64) * l5) * v4)) - l2), .long (216 : Int64)]) (rest := []) S (c_X4_quotient l (((((-l5) * l5) * l5) + (((36 : Int64) * l5) * v4)) - l2) (216 : Int64) v5 ev5) sm_X4_quotient mw_2_29 ⟨⟨rfl, rfl⟩, by decide, by decide⟩ rfl hl.1 rfl (Nat.le_of_ble_eq_true rfl) ⟨Nat.zero_le _, Nat.zero_le _⟩ dX3_build_66 ?_
  refine lv_lstore (lv' := [(9, .long v5), (7, .long v4), (0, .long l0), (2, .long l2), (4, .ref l4), (5, .long l5)]) S.1 S.2.1 dX3_build_69 hl (by decide) rfl (fun ls hl => ?_)
  refine lv_lload S.1 S.2.1 dX3_build_71 (lv_at hl 5 rfl) ?_
  refine pm_ldc2 S mw_2_53 dX3_build_73 ?_
  obtain ⟨v6, ev6, h⟩ := ob_s h
  refine pm_cS (As := [.long l5, .long (2 : Int64)]) (rest := []) S (c_X4_rest l l5 (2 : Int64) v6 ev6) sm_X4_rest mw_2_36 ⟨⟨rfl, rfl⟩, by decide, by decide⟩ rfl hl.1 rfl (Nat.le_of_ble_eq_true rfl) ⟨Nat.zero_le _, Nat.zero_le _⟩ dX3_build_76 ?_
  refine lv_lstore (lv' := [(11, .long v6), (9, .long v5), (7, .long v4), (0, .long l0), (2, .long l2), (4, .ref l4), (5, .long l5)]) S.1 S.2.1 dX3_build_79 hl (by decide) rfl (fun ls hl => ?_)
  refine lv_lload S.1 S.2.1 dX3_build_81 (lv_at hl 1 rfl) ?_
  refine pm_ldc2 S mw_2_53 dX3_build_83 ?_
  obtain ⟨v7, ev7, h⟩ := ob_s h
  refine pm_cS (As := [.long v5, .long (2 : Int64)]) (rest := []) S (c_X4_rest l v5 (2 : Int64) v7 ev7) sm_X4_rest mw_2_36 ⟨⟨rfl, rfl⟩, by decide, by decide⟩ rfl hl.1 rfl (Nat.le_of_ble_eq_true rfl) ⟨Nat.zero_le _, Nat.zero_le _⟩ dX3_build_86 ?_
  refine lv_lstore (lv' := [(13, .long v7), (11, .long v6), (9, .long v5), (7, .long v4), (0, .long l0), (2, .long l2), (4, .ref l4), (5, .long l5)]) S.1 S.2.1 dX3_build_89 hl (by decide) rfl (fun ls hl => ?_)
  refine lv_aload S.1 S.2.1 dX3_build_91 (lv_at hl 6 rfl) ?_
  refine lv_lload S.1 S.2.1 dX3_build_93 (lv_at hl 1 rfl) ?_
  refine lv_lload S.1 S.2.1 dX3_build_95 (lv_at hl 7 rfl) ?_
  refine lv_lload S.1 S.2.1 dX3_build_97 (lv_at hl 1 rfl) ?_
  refine lv_lsub S.1 S.2.1 dX3_build_99 ?_
  refine pm_ldc2 S mw_2_39 dX3_build_100 ?_
  obtain ⟨v8, ev8, h⟩ := ob_s h
  refine pm_cS (As := [.long (l5 - v6), .long (4 : Int64)]) (rest := [.long v6, .ref l4]) S (c_X4_quotient l (l5 - v6) (4 : Int64) v8 ev8) sm_X4_quotient mw_2_29 ⟨⟨rfl, rfl⟩, by decide, by decide⟩ rfl hl.1 rfl (Nat.le_of_ble_eq_true rfl) ⟨Nat.zero_le _, Nat.zero_le _⟩ dX3_build_103 ?_
  refine lv_lload S.1 S.2.1 dX3_build_106 (lv_at hl 0 rfl) ?_
  refine lv_lload S.1 S.2.1 dX3_build_108 (lv_at hl 3 rfl) ?_
  refine lv_lload S.1 S.2.1 dX3_build_110 (lv_at hl 1 rfl) ?_
  refine lv_lload S.1 S.2.1 dX3_build_112 (lv_at hl 0 rfl) ?_
  refine lv_lmul S.1 S.2.1 dX3_build_114 ?_
  refine lv_lsub S.1 S.2.1 dX3_build_115 ?_
  refine pm_ldc2 S mw_2_53 dX3_build_116 ?_
  obtain ⟨v9, ev9, h⟩ := ob_s h
  refine pm_cS (As := [.long (v4 - (v6 * v7)), .long (2 : Int64)]) (rest := [.long v7, .long v8, .long v6, .ref l4]) S (c_X4_quotient l (v4 - (v6 * v7)) (2 : Int64) v9 ev9) sm_X4_quotient mw_2_29 ⟨⟨rfl, rfl⟩, by decide, by decide⟩ rfl hl.1 rfl (Nat.le_of_ble_eq_true rfl) ⟨Nat.zero_le _, Nat.zero_le _⟩ dX3_build_119 ?_
  refine lv_lload S.1 S.2.1 dX3_build_122 (lv_at hl 2 rfl) ?_
  refine lv_lload S.1 S.2.1 dX3_build_124 (lv_at hl 0 rfl) ?_
  refine lv_lsub S.1 S.2.1 dX3_build_126 ?_
  refine pm_ldc2 S mw_2_39 dX3_build_127 ?_
  obtain ⟨v10, ev10, h⟩ := ob_s h
  refine pm_cS (As := [.long (v5 - v7), .long (4 : Int64)]) (rest := [.long v9, .long v7, .long v8, .long v6, .ref l4]) S (c_X4_quotient l (v5 - v7) (4 : Int64) v10 ev10) sm_X4_quotient mw_2_29 ⟨⟨rfl, rfl⟩, by decide, by decide⟩ rfl hl.1 rfl (Nat.le_of_ble_eq_true rfl) ⟨Nat.zero_le _, Nat.zero_le _⟩ dX3_build_130 ?_
  obtain ⟨z11, ez11, h⟩ := ob_s h
  refine pm_cVv (As := [.long v6, .long v8, .long v7, .long v9, .long v10]) (rest := []) S hK hX hP hS (c_X0_put l ev z E hl4 l4 v6 v8 v7 v9 v10 z11 ez11) vm_X0_put mw_2_54 (rc_0 hK hP hl4) ⟨⟨rfl, rfl⟩, by decide, by decide⟩ rfl hl.1 rfl (Nat.le_of_ble_eq_true rfl) ⟨Nat.zero_le _, Nat.zero_le _⟩ dX3_build_133 (fun H locs hP hS => ?_)
  exact pm_vretW S hr hlk hP hS (Option.some.inj h) dX3_build_136
def g_X3_build (ev : EV) (z : PS) (l0 : Int64) (l2 : Int64) (l4 : Nat) : Option PS := ob (g_X4_rest (-l2) (12 : Int64)) (fun v1 => if v1 ≤ (6 : Int64) then (q_X3_build_27 ev l4 l0 l2 v1 z) else (bd ((v1 - (12 : Int64))) (fun v3 => q_X3_build_27 ev l4 l0 l2 v3 z)))
set_option maxRecDepth 20000 in
set_option maxHeartbeats 4000000 in
theorem c_X3_build (l : Launch) (ev : EV) (z : PS) (E : EWF ev) {l4 : Nat} (hl4 : isK ev 0 l4) (l0 : Int64) (l2 : Int64) (l4_ : Nat) (z9 : PS) (h : g_X3_build ev z l0 l2 l4 = some z9) : Met l yX3_build (pWs yX3_build cX3_build 15 none) (pR 1 42) (va_Pc [.long l0, .long l2, .ref l4] (pPe ev z)) (pQv ev z9) 0 0 (eA ev) := by
  refine pm_of (by decide) (Nat.le_of_ble_eq_true rfl) ?_
  intro p e s m below meth c S hr hlk hv ls hl
  obtain ⟨hP, hK, hX⟩ := hv
  have hS : SS ev s s.heap [] := va_S.rf
  have hl : lv_has ls 15 [(0, .long l0), (2, .long l2), (4, .ref l4)] := hl
  unfold g_X3_build at h
  refine lv_lload_n S.1 S.2.1 dX3_build_0 rfl (lv_at hl 1 rfl) ?_
  refine lv_lneg S.1 S.2.1 dX3_build_1 ?_
  refine pm_ldc2 S mw_2_48 dX3_build_2 ?_
  obtain ⟨v1, ev1, h⟩ := ob_s h
  refine pm_cS (As := [.long (-l2), .long (12 : Int64)]) (rest := []) S (c_X4_rest l (-l2) (12 : Int64) v1 ev1) sm_X4_rest mw_2_36 ⟨⟨rfl, rfl⟩, by decide, by decide⟩ rfl hl.1 rfl (Nat.le_of_ble_eq_true rfl) ⟨Nat.zero_le _, Nat.zero_le _⟩ dX3_build_5 ?_
  refine lv_lstore (lv' := [(5, .long v1), (0, .long l0), (2, .long l2), (4, .ref l4)]) S.1 S.2.1 dX3_build_8 hl (by decide) rfl (fun ls hl => ?_)
  refine lv_lload S.1 S.2.1 dX3_build_10 (lv_at hl 0 rfl) ?_
  refine pm_ldc2 S mw_2_49 dX3_build_12 ?_
  refine pm_lle (tgt := 27) S dX3_build_15 dX3_build_16 (by decide) (fun c2 => ?_) (fun c2 => ?_)
  · rw [if_pos c2] at h
    exact w_X3_build_27 S hr hlk E hK hX hl4 l0 l2 v1 z ls _ _ h (lv_sub hl [1, 2, 3, 0] rfl) hP hS
  · rw [if_neg c2] at h
    refine lv_lload S.1 S.2.1 dX3_build_19 (lv_at hl 0 rfl) ?_
    refine pm_ldc2 S mw_2_48 dX3_build_21 ?_
    refine lv_lsub S.1 S.2.1 dX3_build_24 ?_
    obtain ⟨v3, ev3, h⟩ := bd_s h
    refine pm_nmL ev3 ?_
    refine lv_lstore (lv' := [(5, .long v3), (0, .long l0), (2, .long l2), (4, .ref l4)]) S.1 S.2.1 dX3_build_25 hl (by decide) rfl (fun ls hl => ?_)
    exact w_X3_build_27 S hr hlk E hK hX hl4 l0 l2 v3 z ls _ _ h (lv_sub hl [1, 2, 3, 0] rfl) hP hS
theorem sm_X3_build : pm_Sm yX3_build cX3_build 15 none 3 := ⟨mw_2_47, mw_2_46, mw_1_8, by decide, by decide⟩
def q_X3_lower_94 (ev : EV) (l6 : Nat) (k22 : (Int64 → Int64 → Int64 → Int64 → Int32 → Int32 → PS → Option (Int64 × PS))) (l4 : Int64) (l7 : Int64) (l9 : Int64) (l11 : Int64) (l14 : Int32) (l15 : Int32) (l16 : Int32) (l17 : Int32) (z : PS) : Option (Int64 × PS) := ob (g_X3_shrunk l9 (l16.toInt64) ((4 : Int32) * l17)) (fun v12 => ob (g_X3_shrunk l11 (l16.toInt64) ((6 : Int32) * l17)) (fun v13 => ob (g_X4_power (l16.toInt64) l17) (fun v14 => bd ((l7 * v14)) (fun v15 => bd (l15 + (1 : Int32)) (fun v16 => k22 l4 v15 v12 v13 l14 v16 z)))))
set_option maxRecDepth 20000 in
set_option maxHeartbeats 4000000 in
theorem w_X3_lower_94 {ev : EV} {l6 : Nat} {p : Program} {l : Launch} {e : Env} {s : State} {m : MethodId} {args : Array Value} {below : List Frame} {meth : Method} {c : Code} {r : Int64} {z9 : PS} (S : CallFix p m c cX3_lower 18 s args gT RX3) (hr : meth.sig.returnType = (some .long)) (hlk : meth.locks = false) (E : EWF ev) (hK : KK ev s) (hX : pXt ev s) (hl6 : isK ev 0 l6) (k22 : (Int64 → Int64 → Int64 → Int64 → Int32 → Int32 → PS → Option (Int64 × PS))) (hk22 : ∀ (l4 : Int64) (l7 : Int64) (l9 : Int64) (l11 : Int64) (l14 : Int32) (l15 : Int32) (z : PS) (ls : Array Slot) (H : Heap) (locs : List Loc), k22 l4 l7 l9 l11 l14 l15 z = some (r, z9) → lv_has ls 18 [(4, .long l4), (6, .ref l6), (7, .long l7), (9, .long l9), (11, .long l11), (13, .ref (rf ev 902 0)), (14, .int l14), (15, .int l15)] → Wd ev z H → SS ev s H locs → W p l e (pR 2 88) s m args below meth c H locs 0 0 (MQ below (pQl ev r z9) args s 0 0 (eA ev)) (F0 m 22 ls [])) : ∀ (l4 : Int64) (l7 : Int64) (l9 : Int64) (l11 : Int64) (l14 : Int32) (l15 : Int32) (l16 : Int32) (l17 : Int32) (z : PS) (ls : Array Slot) (H : Heap) (locs : List Loc), q_X3_lower_94 ev l6 k22 l4 l7 l9 l11 l14 l15 l16 l17 z = some (r, z9) → lv_has ls 18 [(4, .long l4), (6, .ref l6), (7, .long l7), (9, .long l9), (11, .long l11), (13, .ref (rf ev 902 0)), (14, .int l14), (15, .int l15), (16, .int l16), (17, .int l17)] → Wd ev z H → SS ev s H locs → W p l e (pR 2 88) s m args below meth c H locs 0 0 (MQ below (pQl ev r z9) args s 0 0 (eA ev)) (F0 m 94 ls []) := by
  intro l4 l7 l9 l11 l14 l15 l16 l17 z ls H locs h hl hP hS
  unfold q_X3_lower_94 at h
  refine lv_lload S.1 S.2.1 dX3_lower_94 (lv_at hl 3 rfl) ?_
  refine lv_iload S.1 S.2.1 dX3_lower_96 (lv_at hl 8 rfl) ?_
  refine lv_i2l S.1 S.2.1 dX3_lower_98 rfl ?_
  refine lv_iconst (v := 4) S.1 S.2.1 dX3_lower_99 (by decide) ?_
  refine lv_iload S.1 S.2.1 dX3_lower_100 (lv_at hl 9 rfl) ?_
  refine lv_imul S.1 S.2.1 dX3_lower_102 ?_
  obtain ⟨v12, ev12, h⟩ := ob_s h
  refine pm_cS (As := [.long l9, .long (l16.toInt64), .int ((4 : Int32) * l17)]) (rest := []) S (c_X3_shrunk l l9 (l16.toInt64) ((4 : Int32) * l17) v12 ev12) sm_X3_shrunk mw_2_23 ⟨⟨rfl, rfl⟩, by decide, by decide⟩ rfl hl.1 rfl (Nat.le_of_ble_eq_true rfl) ⟨Nat.zero_le _, Nat.zero_le _⟩ dX3_lower_103 ?_
  refine lv_lstore (lv' := [(9, .long v12), (4, .long l4), (6, .ref l6), (7, .long l7), (11, .long l11), (13, .ref (rf ev 902 0)), (14, .int l14), (15, .int l15), (16, .int l16), (17, .int l17)]) S.1 S.2.1 dX3_lower_106 hl (by decide) rfl (fun ls hl => ?_)
  refine lv_lload S.1 S.2.1 dX3_lower_108 (lv_at hl 4 rfl) ?_
  refine lv_iload S.1 S.2.1 dX3_lower_110 (lv_at hl 8 rfl) ?_
  refine lv_i2l S.1 S.2.1 dX3_lower_112 rfl ?_
  refine lv_bipush (v := 6) S.1 S.2.1 dX3_lower_113 (by decide) ?_
  refine lv_iload S.1 S.2.1 dX3_lower_115 (lv_at hl 9 rfl) ?_
  refine lv_imul S.1 S.2.1 dX3_lower_117 ?_
  obtain ⟨v13, ev13, h⟩ := ob_s h
  refine pm_cS (As := [.long l11, .long (l16.toInt64), .int ((6 : Int32) * l17)]) (rest := []) S (c_X3_shrunk l l11 (l16.toInt64) ((6 : Int32) * l17) v13 ev13) sm_X3_shrunk mw_2_23 ⟨⟨rfl, rfl⟩, by decide, by decide⟩ rfl hl.1 rfl (Nat.le_of_ble_eq_true rfl) ⟨Nat.zero_le _, Nat.zero_le _⟩ dX3_lower_118 ?_
  refine lv_lstore (lv' := [(11, .long v13), (9, .long v12), (4, .long l4), (6, .ref l6), (7, .long l7), (13, .ref (rf ev 902 0)), (14, .int l14), (15, .int l15), (16, .int l16), (17, .int l17)]) S.1 S.2.1 dX3_lower_121 hl (by decide) rfl (fun ls hl => ?_)
  refine lv_lload S.1 S.2.1 dX3_lower_123 (lv_at hl 4 rfl) ?_
  refine lv_iload S.1 S.2.1 dX3_lower_125 (lv_at hl 8 rfl) ?_
  refine lv_i2l S.1 S.2.1 dX3_lower_127 rfl ?_
  refine lv_iload S.1 S.2.1 dX3_lower_128 (lv_at hl 9 rfl) ?_
  obtain ⟨v14, ev14, h⟩ := ob_s h
  refine pm_cS (As := [.long (l16.toInt64), .int l17]) (rest := [.long l7]) S (c_X4_power l (l16.toInt64) l17 v14 ev14) sm_X4_power mw_2_26 ⟨⟨rfl, rfl⟩, by decide, by decide⟩ rfl hl.1 rfl (Nat.le_of_ble_eq_true rfl) ⟨Nat.zero_le _, Nat.zero_le _⟩ dX3_lower_130 ?_
  refine lv_lmul S.1 S.2.1 dX3_lower_133 ?_
  obtain ⟨v15, ev15, h⟩ := bd_s h
  refine pm_nmL ev15 ?_
  refine lv_lstore (lv' := [(7, .long v15), (11, .long v13), (9, .long v12), (4, .long l4), (6, .ref l6), (13, .ref (rf ev 902 0)), (14, .int l14), (15, .int l15), (16, .int l16), (17, .int l17)]) S.1 S.2.1 dX3_lower_134 hl (by decide) rfl (fun ls hl => ?_)
  obtain ⟨v16, ev16, h⟩ := bd_s h
  refine lv_iinc (v := v16) (lv' := [(15, .int v16), (7, .long v15), (11, .long v13), (9, .long v12), (4, .long l4), (6, .ref l6), (13, .ref (rf ev 902 0)), (14, .int l14), (16, .int l16), (17, .int l17)]) S.1 S.2.1 dX3_lower_136 hl (k := 7) rfl (by rw [ev16]; rfl) (by decide) rfl (fun ls hl => ?_)
  refine lv_goto (tgt := 22) S.1 S.2.1 dX3_lower_139 (by decide) ?_
  exact hk22 l4 v15 v12 v13 l14 v16 z ls _ _ h (lv_sub hl [4, 5, 1, 3, 2, 6, 7, 0] rfl) hP hS
def q_X3_lower_50 (ev : EV) (l6 : Nat) (k22 : (Int64 → Int64 → Int64 → Int64 → Int32 → Int32 → PS → Option (Int64 × PS))) : Nat → Int64 → Int64 → Int64 → Int64 → Int32 → Int32 → Int32 → Int32 → PS → Option (Int64 × PS)
  | 0, _, _, _, _, _, _, _, _, _ => none
  | n + 1, l4, l7, l9, l11, l14, l15, l16, l17, z => if l17 ≤ 0 then (q_X3_lower_94 ev l6 k22 l4 l7 l9 l11 l14 l15 l16 l17 z) else (ob (g_X3_shrunk l9 (l16.toInt64) ((4 : Int32) * l17)) (fun v7 => ob (g_X3_shrunk l11 (l16.toInt64) ((6 : Int32) * l17)) (fun v8 => ob (g_X3_isWhole v7 v8 l16) (fun v9 => if v9 = 0 then (bd (l17 + (-1 : Int32)) (fun v11 => q_X3_lower_50 ev l6 k22 n l4 l7 l9 l11 l14 l15 l16 v11 z)) else (q_X3_lower_94 ev l6 k22 l4 l7 l9 l11 l14 l15 l16 l17 z)))))
set_option maxRecDepth 20000 in
set_option maxHeartbeats 4000000 in
theorem w_X3_lower_50 {ev : EV} {l6 : Nat} {p : Program} {l : Launch} {e : Env} {s : State} {m : MethodId} {args : Array Value} {below : List Frame} {meth : Method} {c : Code} {r : Int64} {z9 : PS} (S : CallFix p m c cX3_lower 18 s args gT RX3) (hr : meth.sig.returnType = (some .long)) (hlk : meth.locks = false) (E : EWF ev) (hK : KK ev s) (hX : pXt ev s) (hl6 : isK ev 0 l6) (k22 : (Int64 → Int64 → Int64 → Int64 → Int32 → Int32 → PS → Option (Int64 × PS))) (hk22 : ∀ (l4 : Int64) (l7 : Int64) (l9 : Int64) (l11 : Int64) (l14 : Int32) (l15 : Int32) (z : PS) (ls : Array Slot) (H : Heap) (locs : List Loc), k22 l4 l7 l9 l11 l14 l15 z = some (r, z9) → lv_has ls 18 [(4, .long l4), (6, .ref l6), (7, .long l7), (9, .long l9), (11, .long l11), (13, .ref (rf ev 902 0)), (14, .int l14), (15, .int l15)] → Wd ev z H → SS ev s H locs → W p l e (pR 2 88) s m args below meth c H locs 0 0 (MQ below (pQl ev r z9) args s 0 0 (eA ev)) (F0 m 22 ls [])) : ∀ (n : Nat), ∀ (l4 : Int64) (l7 : Int64) (l9 : Int64) (l11 : Int64) (l14 : Int32) (l15 : Int32) (l16 : Int32) (l17 : Int32) (z : PS) (ls : Array Slot) (H : Heap) (locs : List Loc), q_X3_lower_50 ev l6 k22 n l4 l7 l9 l11 l14 l15 l16 l17 z = some (r, z9) → lv_has ls 18 [(4, .long l4), (6, .ref l6), (7, .long l7), (9, .long l9), (11, .long l11), (13, .ref (rf ev 902 0)), (14, .int l14), (15, .int l15), (16, .int l16), (17, .int l17)] → Wd ev z H → SS ev s H locs → W p l e (pR 2 88) s m args below meth c H locs 0 0 (MQ below (pQl ev r z9) args s 0 0 (eA ev)) (F0 m 50 ls []) := by
  intro n
  induction n with
  | zero => intro l4 l7 l9 l11 l14 l15 l16 l17 z ls H locs h; cases h
  | succ n ih =>
    intro l4 l7 l9 l11 l14 l15 l16 l17 z ls H locs h hl hP hS
    rw [q_X3_lower_50] at h
    refine lv_iload S.1 S.2.1 dX3_lower_50 (lv_at hl 9 rfl) ?_
    refine lv_if_le (tgt := 94) S.1 S.2.1 dX3_lower_52 (by decide) (fun c6 => ?_) (fun c6 => ?_)
    · rw [if_pos c6] at h
      exact w_X3_lower_94 S hr hlk E hK hX hl6 k22 hk22 l4 l7 l9 l11 l14 l15 l16 l17 z ls _ _ h (lv_sub hl [0, 1, 2, 3, 4, 5, 6, 7, 8, 9] rfl) hP hS
    · rw [if_neg c6] at h
      refine lv_lload S.1 S.2.1 dX3_lower_55 (lv_at hl 3 rfl) ?_
      refine lv_iload S.1 S.2.1 dX3_lower_57 (lv_at hl 8 rfl) ?_
      refine lv_i2l S.1 S.2.1 dX3_lower_59 rfl ?_
      refine lv_iconst (v := 4) S.1 S.2.1 dX3_lower_60 (by decide) ?_
      refine lv_iload S.1 S.2.1 dX3_lower_61 (lv_at hl 9 rfl) ?_
      refine lv_imul S.1 S.2.1 dX3_lower_63 ?_
      obtain ⟨v7, ev7, h⟩ := ob_s h
      refine pm_cS (As := [.long l9, .long (l16.toInt64), .int ((4 : Int32) * l17)]) (rest := []) S (c_X3_shrunk l l9 (l16.toInt64) ((4 : Int32) * l17) v7 ev7) sm_X3_shrunk mw_2_23 ⟨⟨rfl, rfl⟩, by decide, by decide⟩ rfl hl.1 rfl (Nat.le_of_ble_eq_true rfl) ⟨Nat.zero_le _, Nat.zero_le _⟩ dX3_lower_64 ?_
      refine lv_lload S.1 S.2.1 dX3_lower_67 (lv_at hl 4 rfl) ?_
      refine lv_iload S.1 S.2.1 dX3_lower_69 (lv_at hl 8 rfl) ?_
      refine lv_i2l S.1 S.2.1 dX3_lower_71 rfl ?_
      refine lv_bipush (v := 6) S.1 S.2.1 dX3_lower_72 (by decide) ?_
      refine lv_iload S.1 S.2.1 dX3_lower_74 (lv_at hl 9 rfl) ?_
      refine lv_imul S.1 S.2.1 dX3_lower_76 ?_
      obtain ⟨v8, ev8, h⟩ := ob_s h
      refine pm_cS (As := [.long l11, .long (l16.toInt64), .int ((6 : Int32) * l17)]) (rest := [.long v7]) S (c_X3_shrunk l l11 (l16.toInt64) ((6 : Int32) * l17) v8 ev8) sm_X3_shrunk mw_2_23 ⟨⟨rfl, rfl⟩, by decide, by decide⟩ rfl hl.1 rfl (Nat.le_of_ble_eq_true rfl) ⟨Nat.zero_le _, Nat.zero_le _⟩ dX3_lower_77 ?_
      refine lv_iload S.1 S.2.1 dX3_lower_80 (lv_at hl 8 rfl) ?_
      obtain ⟨v9, ev9, h⟩ := ob_s h
      refine pm_cS (As := [.long v7, .long v8, .int l16]) (rest := []) S (c_X3_isWhole l v7 v8 l16 v9 ev9) sm_X3_isWhole mw_2_32 ⟨⟨rfl, rfl⟩, by decide, by decide⟩ rfl hl.1 rfl (Nat.le_of_ble_eq_true rfl) ⟨Nat.zero_le _, Nat.zero_le _⟩ dX3_lower_82 ?_
      refine lv_if_ne (tgt := 94) S.1 S.2.1 dX3_lower_85 (by decide) (fun c10 => ?_) (fun c10 => ?_)
      · rw [if_neg c10] at h
        exact w_X3_lower_94 S hr hlk E hK hX hl6 k22 hk22 l4 l7 l9 l11 l14 l15 l16 l17 z ls _ _ h (lv_sub hl [0, 1, 2, 3, 4, 5, 6, 7, 8, 9] rfl) hP hS
      · rw [if_pos c10] at h
        obtain ⟨v11, ev11, h⟩ := bd_s h
        refine lv_iinc (v := v11) (lv' := [(17, .int v11), (4, .long l4), (6, .ref l6), (7, .long l7), (9, .long l9), (11, .long l11), (13, .ref (rf ev 902 0)), (14, .int l14), (15, .int l15), (16, .int l16)]) S.1 S.2.1 dX3_lower_88 hl (k := 9) rfl (by rw [ev11]; rfl) (by decide) rfl (fun ls hl => ?_)
        refine lv_goto (tgt := 50) S.1 S.2.1 dX3_lower_91 (by decide) ?_
        exact ih l4 l7 l9 l11 l14 l15 l16 v11 z ls _ _ h (lv_sub hl [1, 2, 3, 4, 5, 6, 7, 8, 9, 0] rfl) hP hS
def q_X3_lower_22 (ev : EV) (l6 : Nat) : Nat → Int64 → Int64 → Int64 → Int64 → Int32 → Int32 → PS → Option (Int64 × PS)
  | 0, _, _, _, _, _, _, _ => none
  | n + 1, l4, l7, l9, l11, l14, l15, z => if l14 ≤ l15 then (ob (g_X3_build ev z l9 l11 l6) (fun z2 => some (l7, z2))) else (ck (inB l15 11) (bd ((tw3 l15.toNatClampNeg)) (fun v4 => ob (g_X3_mostShrinks l9 l11 l4 (v4.toInt64)) (fun v5 => q_X3_lower_50 ev l6 (q_X3_lower_22 ev l6 n) FU l4 l7 l9 l11 l14 l15 v4 v5 z))))
set_option maxRecDepth 20000 in
set_option maxHeartbeats 4000000 in
theorem w_X3_lower_22 {ev : EV} {l6 : Nat} {p : Program} {l : Launch} {e : Env} {s : State} {m : MethodId} {args : Array Value} {below : List Frame} {meth : Method} {c : Code} {r : Int64} {z9 : PS} (S : CallFix p m c cX3_lower 18 s args gT RX3) (hr : meth.sig.returnType = (some .long)) (hlk : meth.locks = false) (E : EWF ev) (hK : KK ev s) (hX : pXt ev s) (hl6 : isK ev 0 l6) : ∀ (n : Nat), ∀ (l4 : Int64) (l7 : Int64) (l9 : Int64) (l11 : Int64) (l14 : Int32) (l15 : Int32) (z : PS) (ls : Array Slot) (H : Heap) (locs : List Loc), q_X3_lower_22 ev l6 n l4 l7 l9 l11 l14 l15 z = some (r, z9) → lv_has ls 18 [(4, .long l4), (6, .ref l6), (7, .long l7), (9, .long l9), (11, .long l11), (13, .ref (rf ev 902 0)), (14, .int l14), (15, .int l15)] → Wd ev z H → SS ev s H locs → W p l e (pR 2 88) s m args below meth c H locs 0 0 (MQ below (pQl ev r z9) args s 0 0 (eA ev)) (F0 m 22 ls []) := by
  intro n
  induction n with
  | zero => intro l4 l7 l9 l11 l14 l15 z ls H locs h; cases h
  | succ n ih =>
    intro l4 l7 l9 l11 l14 l15 z ls H locs h hl hP hS
    rw [q_X3_lower_22] at h
    refine lv_iload S.1 S.2.1 dX3_lower_22 (lv_at hl 7 rfl) ?_
    refine lv_iload S.1 S.2.1 dX3_lower_24 (lv_at hl 6 rfl) ?_
    refine lv_icmp_ge (tgt := 142) S.1 S.2.1 dX3_lower_26 (by decide) (fun c1 => ?_) (fun c1 => ?_)
    · rw [if_pos c1] at h
      refine lv_lload S.1 S.2.1 dX3_lower_142 (lv_at hl 3 rfl) ?_
      refine lv_lload S.1 S.2.1 dX3_lower_144 (lv_at hl 4 rfl) ?_
      refine lv_aload S.1 S.2.1 dX3_lower_146 (lv_at hl 1 rfl) ?_
      obtain ⟨z2, ez2, h⟩ := ob_s h
      refine pm_cSv (As := [.long l9, .long l11, .ref l6]) (rest := []) S hK hX hP hS (c_X3_build l ev z E hl6 l9 l11 l6 z2 ez2) sm_X3_build mw_2_45 ⟨⟨rfl, rfl⟩, by decide, by decide⟩ rfl hl.1 rfl (Nat.le_of_ble_eq_true rfl) ⟨Nat.zero_le _, Nat.zero_le _⟩ dX3_lower_148 (fun H locs hP hS => ?_)
      refine lv_lload S.1 S.2.1 dX3_lower_151 (lv_at hl 2 rfl) ?_
      have h9 := Option.some.inj h
      exact pm_lretW S hr hlk hP hS (congrArg Prod.fst h9) (congrArg Prod.snd h9) dX3_lower_153
    · rw [if_neg c1] at h
      refine lv_aload S.1 S.2.1 dX3_lower_29 (lv_at hl 5 rfl) ?_
      refine lv_iload S.1 S.2.1 dX3_lower_31 (lv_at hl 7 rfl) ?_
      obtain ⟨hc3, h⟩ := ck_s h
      refine va_ti S.1 S.2.1 hX.2.2.2.2 hS hc3 (v := .int (tw3 l15.toNatClampNeg)) rfl dX3_lower_33 ?_
      obtain ⟨v4, ev4, h⟩ := bd_s h
      refine pm_nmI ev4 ?_
      refine lv_istore (lv' := [(16, .int v4), (4, .long l4), (6, .ref l6), (7, .long l7), (9, .long l9), (11, .long l11), (13, .ref (rf ev 902 0)), (14, .int l14), (15, .int l15)]) S.1 S.2.1 dX3_lower_34 hl (by decide) rfl (fun ls hl => ?_)
      refine lv_lload S.1 S.2.1 dX3_lower_36 (lv_at hl 4 rfl) ?_
      refine lv_lload S.1 S.2.1 dX3_lower_38 (lv_at hl 5 rfl) ?_
      refine lv_lload S.1 S.2.1 dX3_lower_40 (lv_at hl 1 rfl) ?_
      refine lv_iload S.1 S.2.1 dX3_lower_42 (lv_at hl 0 rfl) ?_
      refine lv_i2l S.1 S.2.1 dX3_lower_44 rfl ?_
      obtain ⟨v5, ev5, h⟩ := ob_s h
      refine pm_cS (As := [.long l9, .long l11, .long l4, .long (v4.toInt64)]) (rest := []) S (c_X3_mostShrinks l l9 l11 l4 (v4.toInt64) v5 ev5) sm_X3_mostShrinks mw_2_13 ⟨⟨rfl, rfl⟩, by decide, by decide⟩ rfl hl.1 rfl (Nat.le_of_ble_eq_true rfl) ⟨Nat.zero_le _, Nat.zero_le _⟩ dX3_lower_45 ?_
      refine lv_istore (lv' := [(17, .int v5), (16, .int v4), (4, .long l4), (6, .ref l6), (7, .long l7), (9, .long l9), (11, .long l11), (13, .ref (rf ev 902 0)), (14, .int l14), (15, .int l15)]) S.1 S.2.1 dX3_lower_48 hl (by decide) rfl (fun ls hl => ?_)
      exact w_X3_lower_50 S hr hlk E hK hX hl6 (q_X3_lower_22 ev l6 n) ih FU l4 l7 l9 l11 l14 l15 v4 v5 z ls _ _ h (lv_sub hl [2, 3, 4, 5, 6, 7, 8, 9, 1, 0] rfl) hP hS
def g_X3_lower (ev : EV) (z : PS) (l0 : Int64) (l2 : Int64) (l4 : Int64) (l6 : Nat) : Option (Int64 × PS) := q_X3_lower_22 ev l6 FU l4 (1 : Int64) l0 l2 (11 : Int32) (0 : Int32) z
set_option maxRecDepth 20000 in
set_option maxHeartbeats 4000000 in
theorem c_X3_lower (l : Launch) (ev : EV) (z : PS) (E : EWF ev) {l6 : Nat} (hl6 : isK ev 0 l6) (l0 : Int64) (l2 : Int64) (l4 : Int64) (l6_ : Nat) (r : Int64) (z9 : PS) (h : g_X3_lower ev z l0 l2 l4 l6 = some (r, z9)) : Met l yX3_lower (pWs yX3_lower cX3_lower 18 (some .long)) (pR 2 88) (va_Pc [.long l0, .long l2, .long l4, .ref l6] (pPe ev z)) (pQl ev r z9) 0 0 (eA ev) := by
  refine pm_of (by decide) (Nat.le_of_ble_eq_true rfl) ?_
  intro p e s m below meth c S hr hlk hv ls hl
  obtain ⟨hP, hK, hX⟩ := hv
  have hS : SS ev s s.heap [] := va_S.rf
  have hl : lv_has ls 18 [(0, .long l0), (2, .long l2), (4, .long l4), (6, .ref l6)] := hl
  unfold g_X3_lower at h
  refine lv_lconst (v := 1) S.1 S.2.1 dX3_lower_0 (by decide) ?_
  refine lv_lstore (lv' := [(7, .long (1 : Int64)), (0, .long l0), (2, .long l2), (4, .long l4), (6, .ref l6)]) S.1 S.2.1 dX3_lower_1 hl (by decide) rfl (fun ls hl => ?_)
  refine lv_lload_n S.1 S.2.1 dX3_lower_3 rfl (lv_at hl 1 rfl) ?_
  refine lv_lstore (lv' := [(9, .long l0), (7, .long (1 : Int64)), (0, .long l0), (2, .long l2), (4, .long l4), (6, .ref l6)]) S.1 S.2.1 dX3_lower_4 hl (by decide) rfl (fun ls hl => ?_)
  refine lv_lload_n S.1 S.2.1 dX3_lower_6 rfl (lv_at hl 3 rfl) ?_
  refine lv_lstore (lv' := [(11, .long l2), (9, .long l0), (7, .long (1 : Int64)), (0, .long l0), (2, .long l2), (4, .long l4), (6, .ref l6)]) S.1 S.2.1 dX3_lower_7 hl (by decide) rfl (fun ls hl => ?_)
  refine va_getsN S.1 S.2.1 hX.2.2.2.1 hS S.2.2.2.1 (va_Nw.use rfl hX.1.2) (fun x h9 => h9) dX3_lower_9 ?_
  refine lv_astore (lv' := [(13, .ref (rf ev 902 0)), (11, .long l2), (9, .long l0), (7, .long (1 : Int64)), (0, .long l0), (2, .long l2), (4, .long l4), (6, .ref l6)]) S.1 S.2.1 dX3_lower_12 hl (by decide) rfl (fun ls hl => ?_)
  refine lv_aload S.1 S.2.1 dX3_lower_14 (lv_at hl 0 rfl) ?_
  refine va_tlen (v := 11) S.1 S.2.1 hX.2.2.2.2 hS (by decide) dX3_lower_16 ?_
  refine lv_istore (lv' := [(14, .int (11 : Int32)), (13, .ref (rf ev 902 0)), (11, .long l2), (9, .long l0), (7, .long (1 : Int64)), (0, .long l0), (2, .long l2), (4, .long l4), (6, .ref l6)]) S.1 S.2.1 dX3_lower_17 hl (by decide) rfl (fun ls hl => ?_)
  refine lv_iconst (v := 0) S.1 S.2.1 dX3_lower_19 (by decide) ?_
  refine lv_istore (lv' := [(15, .int (0 : Int32)), (14, .int (11 : Int32)), (13, .ref (rf ev 902 0)), (11, .long l2), (9, .long l0), (7, .long (1 : Int64)), (0, .long l0), (2, .long l2), (4, .long l4), (6, .ref l6)]) S.1 S.2.1 dX3_lower_20 hl (by decide) rfl (fun ls hl => ?_)
  exact w_X3_lower_22 S hr hlk E hK hX hl6 FU l4 (1 : Int64) l0 l2 (11 : Int32) (0 : Int32) z ls _ _ h (lv_sub hl [8, 9, 5, 4, 3, 2, 1, 0] rfl) hP hS
theorem sm_X3_lower : pm_Sm yX3_lower cX3_lower 18 (some .long) 4 := ⟨mw_2_10, mw_2_9, mw_1_8, by decide, by decide⟩
def g_X0_shift (ev : EV) (z : PS) (th : Nat) (l1 : Int64) (l3 : Int64) (l5 : Int64) : Option PS := ob (g_X0_put ev z th ((r64 z 0 th) + ((2 : Int64) * l3)) ((((r64 z 1 th) - (l3 * (r64 z 0 th))) + ((3 : Int64) * l1)) - (l3 * l3)) (((r64 z 2 th) + (l1 * (r64 z 0 th))) + ((2 : Int64) * l5)) ((((((r64 z 3 th) - (l3 * (r64 z 2 th))) + (((2 : Int64) * l1) * (r64 z 1 th))) - ((l5 + (l1 * l3)) * (r64 z 0 th))) + (((3 : Int64) * l1) * l1)) - (((2 : Int64) * l3) * l5)) (((((((r64 z 4 th) + (l1 * (r64 z 3 th))) + ((l1 * l1) * (r64 z 1 th))) + ((l1 * l1) * l1)) - (l5 * (r64 z 2 th))) - (l5 * l5)) - ((l1 * l5) * (r64 z 0 th)))) (fun z1 => some z1)
set_option maxRecDepth 20000 in
set_option maxHeartbeats 4000000 in
theorem c_X0_shift (l : Launch) (ev : EV) (z : PS) (E : EWF ev) {th : Nat} (hth : isK ev 0 th) (th_ : Nat) (l1 : Int64) (l3 : Int64) (l5 : Int64) (z9 : PS) (h : g_X0_shift ev z th l1 l3 l5 = some z9) : Met l yX0_shift (pWs yX0_shift cX0_shift 7 none) (pR 1 42) (va_Pc [.ref th, .long l1, .long l3, .long l5] (pPe ev z)) (pQv ev z9) 0 0 (eA ev) := by
  refine pm_of (by decide) (Nat.le_of_ble_eq_true rfl) ?_
  intro p e s m below meth c S hr hlk hv ls hl
  obtain ⟨hP, hK, hX⟩ := hv
  have hS : SS ev s s.heap [] := va_S.rf
  have hl : lv_has ls 7 [(0, .ref th), (1, .long l1), (3, .long l3), (5, .long l5)] := hl
  unfold g_X0_shift at h
  refine lv_aload_n S.1 S.2.1 dX0_shift_0 rfl (lv_at hl 0 rfl) ?_
  refine lv_aload_n S.1 S.2.1 dX0_shift_1 rfl (lv_at hl 0 rfl) ?_
  refine gf_0_0 S hK hP hth mw_1_36 dX0_shift_2 ?_
  refine pm_ldc2 S mw_1_221 dX0_shift_5 ?_
  refine lv_lload_n S.1 S.2.1 dX0_shift_8 rfl (lv_at hl 2 rfl) ?_
  refine lv_lmul S.1 S.2.1 dX0_shift_9 ?_
  refine lv_ladd S.1 S.2.1 dX0_shift_10 ?_
  refine lv_aload_n S.1 S.2.1 dX0_shift_11 rfl (lv_at hl 0 rfl) ?_
  refine gf_0_1 S hK hP hth mw_1_38 dX0_shift_12 ?_
  refine lv_lload_n S.1 S.2.1 dX0_shift_15 rfl (lv_at hl 2 rfl) ?_
  refine lv_aload_n S.1 S.2.1 dX0_shift_16 rfl (lv_at hl 0 rfl) ?_
  refine gf_0_0 S hK hP hth mw_1_36 dX0_shift_17 ?_
  refine lv_lmul S.1 S.2.1 dX0_shift_20 ?_
  refine lv_lsub S.1 S.2.1 dX0_shift_21 ?_
  refine pm_ldc2 S mw_2_68 dX0_shift_22 ?_
  refine lv_lload_n S.1 S.2.1 dX0_shift_25 rfl (lv_at hl 1 rfl) ?_
  refine lv_lmul S.1 S.2.1 dX0_shift_26 ?_
  refine lv_ladd S.1 S.2.1 dX0_shift_27 ?_
  refine lv_lload_n S.1 S.2.1 dX0_shift_28 rfl (lv_at hl 2 rfl) ?_
  refine lv_lload_n S.1 S.2.1 dX0_shift_29 rfl (lv_at hl 2 rfl) ?_
  refine lv_lmul S.1 S.2.1 dX0_shift_30 ?_
  refine lv_lsub S.1 S.2.1 dX0_shift_31 ?_
  refine lv_aload_n S.1 S.2.1 dX0_shift_32 rfl (lv_at hl 0 rfl) ?_
  refine gf_0_2 S hK hP hth mw_1_40 dX0_shift_33 ?_
  refine lv_lload_n S.1 S.2.1 dX0_shift_36 rfl (lv_at hl 1 rfl) ?_
  refine lv_aload_n S.1 S.2.1 dX0_shift_37 rfl (lv_at hl 0 rfl) ?_
  refine gf_0_0 S hK hP hth mw_1_36 dX0_shift_38 ?_
  refine lv_lmul S.1 S.2.1 dX0_shift_41 ?_
  refine lv_ladd S.1 S.2.1 dX0_shift_42 ?_
  refine pm_ldc2 S mw_1_221 dX0_shift_43 ?_
  refine lv_lload S.1 S.2.1 dX0_shift_46 (lv_at hl 3 rfl) ?_
  refine lv_lmul S.1 S.2.1 dX0_shift_48 ?_
  refine lv_ladd S.1 S.2.1 dX0_shift_49 ?_
  refine lv_aload_n S.1 S.2.1 dX0_shift_50 rfl (lv_at hl 0 rfl) ?_
  refine gf_0_3 S hK hP hth mw_1_42 dX0_shift_51 ?_
  refine lv_lload_n S.1 S.2.1 dX0_shift_54 rfl (lv_at hl 2 rfl) ?_
  refine lv_aload_n S.1 S.2.1 dX0_shift_55 rfl (lv_at hl 0 rfl) ?_
  refine gf_0_2 S hK hP hth mw_1_40 dX0_shift_56 ?_
  refine lv_lmul S.1 S.2.1 dX0_shift_59 ?_
  refine lv_lsub S.1 S.2.1 dX0_shift_60 ?_
  refine pm_ldc2 S mw_1_221 dX0_shift_61 ?_
  refine lv_lload_n S.1 S.2.1 dX0_shift_64 rfl (lv_at hl 1 rfl) ?_
  refine lv_lmul S.1 S.2.1 dX0_shift_65 ?_
  refine lv_aload_n S.1 S.2.1 dX0_shift_66 rfl (lv_at hl 0 rfl) ?_
  refine gf_0_1 S hK hP hth mw_1_38 dX0_shift_67 ?_
  refine lv_lmul S.1 S.2.1 dX0_shift_70 ?_
  refine lv_ladd S.1 S.2.1 dX0_shift_71 ?_
  refine lv_lload S.1 S.2.1 dX0_shift_72 (lv_at hl 3 rfl) ?_
  refine lv_lload_n S.1 S.2.1 dX0_shift_74 rfl (lv_at hl 1 rfl) ?_
  refine lv_lload_n S.1 S.2.1 dX0_shift_75 rfl (lv_at hl 2 rfl) ?_
  refine lv_lmul S.1 S.2.1 dX0_shift_76 ?_
  refine lv_ladd S.1 S.2.1 dX0_shift_77 ?_
  refine lv_aload_n S.1 S.2.1 dX0_shift_78 rfl (lv_at hl 0 rfl) ?_
  refine gf_0_0 S hK hP hth mw_1_36 dX0_shift_79 ?_
  refine lv_lmul S.1 S.2.1 dX0_shift_82 ?_
  refine lv_lsub S.1 S.2.1 dX0_shift_83 ?_
  refine pm_ldc2 S mw_2_68 dX0_shift_84 ?_
  refine lv_lload_n S.1 S.2.1 dX0_shift_87 rfl (lv_at hl 1 rfl) ?_
  refine lv_lmul S.1 S.2.1 dX0_shift_88 ?_
  refine lv_lload_n S.1 S.2.1 dX0_shift_89 rfl (lv_at hl 1 rfl) ?_
  refine lv_lmul S.1 S.2.1 dX0_shift_90 ?_
  refine lv_ladd S.1 S.2.1 dX0_shift_91 ?_
  refine pm_ldc2 S mw_1_221 dX0_shift_92 ?_
  refine lv_lload_n S.1 S.2.1 dX0_shift_95 rfl (lv_at hl 2 rfl) ?_
  refine lv_lmul S.1 S.2.1 dX0_shift_96 ?_
  refine lv_lload S.1 S.2.1 dX0_shift_97 (lv_at hl 3 rfl) ?_
  refine lv_lmul S.1 S.2.1 dX0_shift_99 ?_
  refine lv_lsub S.1 S.2.1 dX0_shift_100 ?_
  refine lv_aload_n S.1 S.2.1 dX0_shift_101 rfl (lv_at hl 0 rfl) ?_
  refine gf_0_4 S hK hP hth mw_1_44 dX0_shift_102 ?_
  refine lv_lload_n S.1 S.2.1 dX0_shift_105 rfl (lv_at hl 1 rfl) ?_
  refine lv_aload_n S.1 S.2.1 dX0_shift_106 rfl (lv_at hl 0 rfl) ?_
  refine gf_0_3 S hK hP hth mw_1_42 dX0_shift_107 ?_
  refine lv_lmul S.1 S.2.1 dX0_shift_110 ?_
  refine lv_ladd S.1 S.2.1 dX0_shift_111 ?_
  refine lv_lload_n S.1 S.2.1 dX0_shift_112 rfl (lv_at hl 1 rfl) ?_
  refine lv_lload_n S.1 S.2.1 dX0_shift_113 rfl (lv_at hl 1 rfl) ?_
  refine lv_lmul S.1 S.2.1 dX0_shift_114 ?_
  refine lv_aload_n S.1 S.2.1 dX0_shift_115 rfl (lv_at hl 0 rfl) ?_
  refine gf_0_1 S hK hP hth mw_1_38 dX0_shift_116 ?_
  refine lv_lmul S.1 S.2.1 dX0_shift_119 ?_
  refine lv_ladd S.1 S.2.1 dX0_shift_120 ?_
  refine lv_lload_n S.1 S.2.1 dX0_shift_121 rfl (lv_at hl 1 rfl) ?_
  refine lv_lload_n S.1 S.2.1 dX0_shift_122 rfl (lv_at hl 1 rfl) ?_
  refine lv_lmul S.1 S.2.1 dX0_shift_123 ?_
  refine lv_lload_n S.1 S.2.1 dX0_shift_124 rfl (lv_at hl 1 rfl) ?_
  refine lv_lmul S.1 S.2.1 dX0_shift_125 ?_
  refine lv_ladd S.1 S.2.1 dX0_shift_126 ?_
  refine lv_lload S.1 S.2.1 dX0_shift_127 (lv_at hl 3 rfl) ?_
  refine lv_aload_n S.1 S.2.1 dX0_shift_129 rfl (lv_at hl 0 rfl) ?_
  refine gf_0_2 S hK hP hth mw_1_40 dX0_shift_130 ?_
  refine lv_lmul S.1 S.2.1 dX0_shift_133 ?_
  refine lv_lsub S.1 S.2.1 dX0_shift_134 ?_
  refine lv_lload S.1 S.2.1 dX0_shift_135 (lv_at hl 3 rfl) ?_
  refine lv_lload S.1 S.2.1 dX0_shift_137 (lv_at hl 3 rfl) ?_
  refine lv_lmul S.1 S.2.1 dX0_shift_139 ?_
  refine lv_lsub S.1 S.2.1 dX0_shift_140 ?_
  refine lv_lload_n S.1 S.2.1 dX0_shift_141 rfl (lv_at hl 1 rfl) ?_
  refine lv_lload S.1 S.2.1 dX0_shift_142 (lv_at hl 3 rfl) ?_
  refine lv_lmul S.1 S.2.1 dX0_shift_144 ?_
  refine lv_aload_n S.1 S.2.1 dX0_shift_145 rfl (lv_at hl 0 rfl) ?_
  refine gf_0_0 S hK hP hth mw_1_36 dX0_shift_146 ?_
  refine lv_lmul S.1 S.2.1 dX0_shift_149 ?_
  refine lv_lsub S.1 S.2.1 dX0_shift_150 ?_
  obtain ⟨z1, ez1, h⟩ := ob_s h
  refine pm_cVv (As := [.long ((r64 z 0 th) + ((2 : Int64) * l3)), .long ((((r64 z 1 th) - (l3 * (r64 z 0 th))) + ((3 : Int64) * l1)) - (l3 * l3)), .long (((r64 z 2 th) + (l1 * (r64 z 0 th))) + ((2 : Int64) * l5)), .long ((((((r64 z 3 th) - (l3 * (r64 z 2 th))) + (((2 : Int64) * l1) * (r64 z 1 th))) - ((l5 + (l1 * l3)) * (r64 z 0 th))) + (((3 : Int64) * l1) * l1)) - (((2 : Int64) * l3) * l5)), .long (((((((r64 z 4 th) + (l1 * (r64 z 3 th))) + ((l1 * l1) * (r64 z 1 th))) + ((l1 * l1) * l1)) - (l5 * (r64 z 2 th))) - (l5 * l5)) - ((l1 * l5) * (r64 z 0 th)))]) (rest := []) S hK hX hP hS (c_X0_put l ev z E hth th ((r64 z 0 th) + ((2 : Int64) * l3)) ((((r64 z 1 th) - (l3 * (r64 z 0 th))) + ((3 : Int64) * l1)) - (l3 * l3)) (((r64 z 2 th) + (l1 * (r64 z 0 th))) + ((2 : Int64) * l5)) ((((((r64 z 3 th) - (l3 * (r64 z 2 th))) + (((2 : Int64) * l1) * (r64 z 1 th))) - ((l5 + (l1 * l3)) * (r64 z 0 th))) + (((3 : Int64) * l1) * l1)) - (((2 : Int64) * l3) * l5)) (((((((r64 z 4 th) + (l1 * (r64 z 3 th))) + ((l1 * l1) * (r64 z 1 th))) + ((l1 * l1) * l1)) - (l5 * (r64 z 2 th))) - (l5 * l5)) - ((l1 * l5) * (r64 z 0 th))) z1 ez1) vm_X0_put mw_2_7 (rc_0 hK hP hth) ⟨⟨rfl, rfl⟩, by decide, by decide⟩ rfl hl.1 rfl (Nat.le_of_ble_eq_true rfl) ⟨Nat.zero_le _, Nat.zero_le _⟩ dX0_shift_151 (fun H locs hP hS => ?_)
  exact pm_vretW S hr hlk hP hS (Option.some.inj h) dX0_shift_154
theorem vm_X0_shift : pm_Vm yX0_shift cX0_shift 7 none 3 := ⟨mw_2_67, mw_2_65, mw_2_66, mw_1_3, by decide, by decide⟩
def g_X0_grow (ev : EV) (z : PS) (th : Nat) (l1 : Nat) (l2 : Int64) : Option PS := bd ((l2 * l2)) (fun v1 => ob (g_X0_put ev z th ((r64 z 0 l1) * l2) ((r64 z 1 l1) * v1) (((r64 z 2 l1) * v1) * l2) (((r64 z 3 l1) * v1) * v1) ((((r64 z 4 l1) * v1) * v1) * v1)) (fun z2 => some z2))
set_option maxRecDepth 20000 in
set_option maxHeartbeats 4000000 in
theorem c_X0_grow (l : Launch) (ev : EV) (z : PS) (E : EWF ev) {th : Nat} (hth : isK ev 0 th) {l1 : Nat} (hl1 : isK ev 0 l1) (th_ : Nat) (l1_ : Nat) (l2 : Int64) (z9 : PS) (h : g_X0_grow ev z th l1 l2 = some z9) : Met l yX0_grow (pWs yX0_grow cX0_grow 6 none) (pR 1 42) (va_Pc [.ref th, .ref l1, .long l2] (pPe ev z)) (pQv ev z9) 0 0 (eA ev) := by
  refine pm_of (by decide) (Nat.le_of_ble_eq_true rfl) ?_
  intro p e s m below meth c S hr hlk hv ls hl
  obtain ⟨hP, hK, hX⟩ := hv
  have hS : SS ev s s.heap [] := va_S.rf
  have hl : lv_has ls 6 [(0, .ref th), (1, .ref l1), (2, .long l2)] := hl
  unfold g_X0_grow at h
  refine lv_lload_n S.1 S.2.1 dX0_grow_0 rfl (lv_at hl 2 rfl) ?_
  refine lv_lload_n S.1 S.2.1 dX0_grow_1 rfl (lv_at hl 2 rfl) ?_
  refine lv_lmul S.1 S.2.1 dX0_grow_2 ?_
  obtain ⟨v1, ev1, h⟩ := bd_s h
  refine pm_nmL ev1 ?_
  refine lv_lstore (lv' := [(4, .long v1), (0, .ref th), (1, .ref l1), (2, .long l2)]) S.1 S.2.1 dX0_grow_3 hl (by decide) rfl (fun ls hl => ?_)
  refine lv_aload_n S.1 S.2.1 dX0_grow_5 rfl (lv_at hl 1 rfl) ?_
  refine lv_aload_n S.1 S.2.1 dX0_grow_6 rfl (lv_at hl 2 rfl) ?_
  refine gf_0_0 S hK hP hl1 mw_1_36 dX0_grow_7 ?_
  refine lv_lload_n S.1 S.2.1 dX0_grow_10 rfl (lv_at hl 3 rfl) ?_
  refine lv_lmul S.1 S.2.1 dX0_grow_11 ?_
  refine lv_aload_n S.1 S.2.1 dX0_grow_12 rfl (lv_at hl 2 rfl) ?_
  refine gf_0_1 S hK hP hl1 mw_1_38 dX0_grow_13 ?_
  refine lv_lload S.1 S.2.1 dX0_grow_16 (lv_at hl 0 rfl) ?_
  refine lv_lmul S.1 S.2.1 dX0_grow_18 ?_
  refine lv_aload_n S.1 S.2.1 dX0_grow_19 rfl (lv_at hl 2 rfl) ?_
  refine gf_0_2 S hK hP hl1 mw_1_40 dX0_grow_20 ?_
  refine lv_lload S.1 S.2.1 dX0_grow_23 (lv_at hl 0 rfl) ?_
  refine lv_lmul S.1 S.2.1 dX0_grow_25 ?_
  refine lv_lload_n S.1 S.2.1 dX0_grow_26 rfl (lv_at hl 3 rfl) ?_
  refine lv_lmul S.1 S.2.1 dX0_grow_27 ?_
  refine lv_aload_n S.1 S.2.1 dX0_grow_28 rfl (lv_at hl 2 rfl) ?_
  refine gf_0_3 S hK hP hl1 mw_1_42 dX0_grow_29 ?_
  refine lv_lload S.1 S.2.1 dX0_grow_32 (lv_at hl 0 rfl) ?_
  refine lv_lmul S.1 S.2.1 dX0_grow_34 ?_
  refine lv_lload S.1 S.2.1 dX0_grow_35 (lv_at hl 0 rfl) ?_
  refine lv_lmul S.1 S.2.1 dX0_grow_37 ?_
  refine lv_aload_n S.1 S.2.1 dX0_grow_38 rfl (lv_at hl 2 rfl) ?_
  refine gf_0_4 S hK hP hl1 mw_1_44 dX0_grow_39 ?_
  refine lv_lload S.1 S.2.1 dX0_grow_42 (lv_at hl 0 rfl) ?_
  refine lv_lmul S.1 S.2.1 dX0_grow_44 ?_
  refine lv_lload S.1 S.2.1 dX0_grow_45 (lv_at hl 0 rfl) ?_
  refine lv_lmul S.1 S.2.1 dX0_grow_47 ?_
  refine lv_lload S.1 S.2.1 dX0_grow_48 (lv_at hl 0 rfl) ?_
  refine lv_lmul S.1 S.2.1 dX0_grow_50 ?_
  obtain ⟨z2, ez2, h⟩ := ob_s h
  refine pm_cVv (As := [.long ((r64 z 0 l1) * l2), .long ((r64 z 1 l1) * v1), .long (((r64 z 2 l1) * v1) * l2), .long (((r64 z 3 l1) * v1) * v1), .long ((((r64 z 4 l1) * v1) * v1) * v1)]) (rest := []) S hK hX hP hS (c_X0_put l ev z E hth th ((r64 z 0 l1) * l2) ((r64 z 1 l1) * v1) (((r64 z 2 l1) * v1) * l2) (((r64 z 3 l1) * v1) * v1) ((((r64 z 4 l1) * v1) * v1) * v1) z2 ez2) vm_X0_put mw_2_7 (rc_0 hK hP hth) ⟨⟨rfl, rfl⟩, by decide, by decide⟩ rfl hl.1 rfl (Nat.le_of_ble_eq_true rfl) ⟨Nat.zero_le _, Nat.zero_le _⟩ dX0_grow_51 (fun H locs hP hS => ?_)
  exact pm_vretW S hr hlk hP hS (Option.some.inj h) dX0_grow_54
theorem vm_X0_grow : pm_Vm yX0_grow cX0_grow 6 none 2 := ⟨mw_2_82, mw_2_80, mw_2_81, mw_1_3, by decide, by decide⟩
def g_X0_canShrink (ev : EV) (z : PS) (th : Nat) (l1 : Int64) : Option Int32 := ob (g_X4_rest (r64 z 0 th) l1) (fun v1 => if v1 = (0 : Int64) then (ob (g_X4_power l1 (2 : Int32)) (fun v3 => ob (g_X4_rest (r64 z 1 th) v3) (fun v4 => if v4 = (0 : Int64) then (ob (g_X4_power l1 (3 : Int32)) (fun v6 => ob (g_X4_rest (r64 z 2 th) v6) (fun v7 => if v7 = (0 : Int64) then (ob (g_X4_power l1 (4 : Int32)) (fun v9 => ob (g_X4_rest (r64 z 3 th) v9) (fun v10 => if v10 = (0 : Int64) then (ob (g_X4_power l1 (6 : Int32)) (fun v12 => ob (g_X4_rest (r64 z 4 th) v12) (fun v13 => if v13 = (0 : Int64) then (some (1 : Int32)) else (some (0 : Int32))))) else (some (0 : Int32))))) else (some (0 : Int32))))) else (some (0 : Int32))))) else (some (0 : Int32)))
set_option maxRecDepth 20000 in
set_option maxHeartbeats 4000000 in
theorem c_X0_canShrink (l : Launch) (ev : EV) (z : PS) (E : EWF ev) {th : Nat} (hth : isK ev 0 th) (th_ : Nat) (l1 : Int64) (r : Int32) (h : g_X0_canShrink ev z th l1 = some r) : Met l yX0_canShrink (pWs yX0_canShrink cX0_canShrink 3 (some .boolean)) (pR 1 37) (va_Pc [.ref th, .long l1] (pPe ev z)) (k2_QcV (.int r)) 0 0 (fun _ => False) := by
  refine pm_of (by decide) (Nat.le_of_ble_eq_true rfl) ?_
  intro p e s m below meth c S hr hlk hv ls hl
  obtain ⟨hP, hK, hX⟩ := hv
  have hl : lv_has ls 3 [(0, .ref th), (1, .long l1)] := hl
  unfold g_X0_canShrink at h
  refine lv_aload_n S.1 S.2.1 dX0_canShrink_0 rfl (lv_at hl 0 rfl) ?_
  refine gf_0_0 S hK hP hth mw_1_36 dX0_canShrink_1 ?_
  refine lv_lload_n S.1 S.2.1 dX0_canShrink_4 rfl (lv_at hl 1 rfl) ?_
  obtain ⟨v1, ev1, h⟩ := ob_s h
  refine pm_cS (As := [.long (r64 z 0 th), .long l1]) (rest := []) S (c_X4_rest l (r64 z 0 th) l1 v1 ev1) sm_X4_rest mw_2_87 ⟨⟨rfl, rfl⟩, by decide, by decide⟩ rfl hl.1 rfl (Nat.le_of_ble_eq_true rfl) ⟨Nat.zero_le _, Nat.zero_le _⟩ dX0_canShrink_5 ?_
  refine lv_lconst (v := 0) S.1 S.2.1 dX0_canShrink_8 (by decide) ?_
  refine pm_lne (tgt := 86) S dX0_canShrink_9 dX0_canShrink_10 (by decide) (fun c2 => ?_) (fun c2 => ?_)
  · rw [if_neg c2] at h
    refine lv_iconst (v := 0) S.1 S.2.1 dX0_canShrink_86 (by decide) ?_
    exact pm_zretR S hr hlk (Or.inl rfl) (Option.some.inj h) dX0_canShrink_87
  · rw [if_pos c2] at h
    refine lv_aload_n S.1 S.2.1 dX0_canShrink_13 rfl (lv_at hl 0 rfl) ?_
    refine gf_0_1 S hK hP hth mw_1_38 dX0_canShrink_14 ?_
    refine lv_lload_n S.1 S.2.1 dX0_canShrink_17 rfl (lv_at hl 1 rfl) ?_
    refine lv_iconst (v := 2) S.1 S.2.1 dX0_canShrink_18 (by decide) ?_
    obtain ⟨v3, ev3, h⟩ := ob_s h
    refine pm_cS (As := [.long l1, .int (2 : Int32)]) (rest := [.long (r64 z 1 th)]) S (c_X4_power l l1 (2 : Int32) v3 ev3) sm_X4_power mw_2_88 ⟨⟨rfl, rfl⟩, by decide, by decide⟩ rfl hl.1 rfl (Nat.le_of_ble_eq_true rfl) ⟨Nat.zero_le _, Nat.zero_le _⟩ dX0_canShrink_19 ?_
    obtain ⟨v4, ev4, h⟩ := ob_s h
    refine pm_cS (As := [.long (r64 z 1 th), .long v3]) (rest := []) S (c_X4_rest l (r64 z 1 th) v3 v4 ev4) sm_X4_rest mw_2_87 ⟨⟨rfl, rfl⟩, by decide, by decide⟩ rfl hl.1 rfl (Nat.le_of_ble_eq_true rfl) ⟨Nat.zero_le _, Nat.zero_le _⟩ dX0_canShrink_22 ?_
    refine lv_lconst (v := 0) S.1 S.2.1 dX0_canShrink_25 (by decide) ?_
    refine pm_lne (tgt := 86) S dX0_canShrink_26 dX0_canShrink_27 (by decide) (fun c5 => ?_) (fun c5 => ?_)
    · rw [if_neg c5] at h
      refine lv_iconst (v := 0) S.1 S.2.1 dX0_canShrink_86 (by decide) ?_
      exact pm_zretR S hr hlk (Or.inl rfl) (Option.some.inj h) dX0_canShrink_87
    · rw [if_pos c5] at h
      refine lv_aload_n S.1 S.2.1 dX0_canShrink_30 rfl (lv_at hl 0 rfl) ?_
      refine gf_0_2 S hK hP hth mw_1_40 dX0_canShrink_31 ?_
      refine lv_lload_n S.1 S.2.1 dX0_canShrink_34 rfl (lv_at hl 1 rfl) ?_
      refine lv_iconst (v := 3) S.1 S.2.1 dX0_canShrink_35 (by decide) ?_
      obtain ⟨v6, ev6, h⟩ := ob_s h
      refine pm_cS (As := [.long l1, .int (3 : Int32)]) (rest := [.long (r64 z 2 th)]) S (c_X4_power l l1 (3 : Int32) v6 ev6) sm_X4_power mw_2_88 ⟨⟨rfl, rfl⟩, by decide, by decide⟩ rfl hl.1 rfl (Nat.le_of_ble_eq_true rfl) ⟨Nat.zero_le _, Nat.zero_le _⟩ dX0_canShrink_36 ?_
      obtain ⟨v7, ev7, h⟩ := ob_s h
      refine pm_cS (As := [.long (r64 z 2 th), .long v6]) (rest := []) S (c_X4_rest l (r64 z 2 th) v6 v7 ev7) sm_X4_rest mw_2_87 ⟨⟨rfl, rfl⟩, by decide, by decide⟩ rfl hl.1 rfl (Nat.le_of_ble_eq_true rfl) ⟨Nat.zero_le _, Nat.zero_le _⟩ dX0_canShrink_39 ?_
      refine lv_lconst (v := 0) S.1 S.2.1 dX0_canShrink_42 (by decide) ?_
      refine pm_lne (tgt := 86) S dX0_canShrink_43 dX0_canShrink_44 (by decide) (fun c8 => ?_) (fun c8 => ?_)
      · rw [if_neg c8] at h
        refine lv_iconst (v := 0) S.1 S.2.1 dX0_canShrink_86 (by decide) ?_
        exact pm_zretR S hr hlk (Or.inl rfl) (Option.some.inj h) dX0_canShrink_87
      · rw [if_pos c8] at h
        refine lv_aload_n S.1 S.2.1 dX0_canShrink_47 rfl (lv_at hl 0 rfl) ?_
        refine gf_0_3 S hK hP hth mw_1_42 dX0_canShrink_48 ?_
        refine lv_lload_n S.1 S.2.1 dX0_canShrink_51 rfl (lv_at hl 1 rfl) ?_
        refine lv_iconst (v := 4) S.1 S.2.1 dX0_canShrink_52 (by decide) ?_
        obtain ⟨v9, ev9, h⟩ := ob_s h
        refine pm_cS (As := [.long l1, .int (4 : Int32)]) (rest := [.long (r64 z 3 th)]) S (c_X4_power l l1 (4 : Int32) v9 ev9) sm_X4_power mw_2_88 ⟨⟨rfl, rfl⟩, by decide, by decide⟩ rfl hl.1 rfl (Nat.le_of_ble_eq_true rfl) ⟨Nat.zero_le _, Nat.zero_le _⟩ dX0_canShrink_53 ?_
        obtain ⟨v10, ev10, h⟩ := ob_s h
        refine pm_cS (As := [.long (r64 z 3 th), .long v9]) (rest := []) S (c_X4_rest l (r64 z 3 th) v9 v10 ev10) sm_X4_rest mw_2_87 ⟨⟨rfl, rfl⟩, by decide, by decide⟩ rfl hl.1 rfl (Nat.le_of_ble_eq_true rfl) ⟨Nat.zero_le _, Nat.zero_le _⟩ dX0_canShrink_56 ?_
        refine lv_lconst (v := 0) S.1 S.2.1 dX0_canShrink_59 (by decide) ?_
        refine pm_lne (tgt := 86) S dX0_canShrink_60 dX0_canShrink_61 (by decide) (fun c11 => ?_) (fun c11 => ?_)
        · rw [if_neg c11] at h
          refine lv_iconst (v := 0) S.1 S.2.1 dX0_canShrink_86 (by decide) ?_
          exact pm_zretR S hr hlk (Or.inl rfl) (Option.some.inj h) dX0_canShrink_87
        · rw [if_pos c11] at h
          refine lv_aload_n S.1 S.2.1 dX0_canShrink_64 rfl (lv_at hl 0 rfl) ?_
          refine gf_0_4 S hK hP hth mw_1_44 dX0_canShrink_65 ?_
          refine lv_lload_n S.1 S.2.1 dX0_canShrink_68 rfl (lv_at hl 1 rfl) ?_
          refine lv_bipush (v := 6) S.1 S.2.1 dX0_canShrink_69 (by decide) ?_
          obtain ⟨v12, ev12, h⟩ := ob_s h
          refine pm_cS (As := [.long l1, .int (6 : Int32)]) (rest := [.long (r64 z 4 th)]) S (c_X4_power l l1 (6 : Int32) v12 ev12) sm_X4_power mw_2_88 ⟨⟨rfl, rfl⟩, by decide, by decide⟩ rfl hl.1 rfl (Nat.le_of_ble_eq_true rfl) ⟨Nat.zero_le _, Nat.zero_le _⟩ dX0_canShrink_71 ?_
          obtain ⟨v13, ev13, h⟩ := ob_s h
          refine pm_cS (As := [.long (r64 z 4 th), .long v12]) (rest := []) S (c_X4_rest l (r64 z 4 th) v12 v13 ev13) sm_X4_rest mw_2_87 ⟨⟨rfl, rfl⟩, by decide, by decide⟩ rfl hl.1 rfl (Nat.le_of_ble_eq_true rfl) ⟨Nat.zero_le _, Nat.zero_le _⟩ dX0_canShrink_74 ?_
          refine lv_lconst (v := 0) S.1 S.2.1 dX0_canShrink_77 (by decide) ?_
          refine pm_lne (tgt := 86) S dX0_canShrink_78 dX0_canShrink_79 (by decide) (fun c14 => ?_) (fun c14 => ?_)
          · rw [if_neg c14] at h
            refine lv_iconst (v := 0) S.1 S.2.1 dX0_canShrink_86 (by decide) ?_
            exact pm_zretR S hr hlk (Or.inl rfl) (Option.some.inj h) dX0_canShrink_87
          · rw [if_pos c14] at h
            refine lv_iconst (v := 1) S.1 S.2.1 dX0_canShrink_82 (by decide) ?_
            refine lv_goto (tgt := 87) S.1 S.2.1 dX0_canShrink_83 (by decide) ?_
            exact pm_zretR S hr hlk (Or.inr rfl) (Option.some.inj h) dX0_canShrink_87
theorem vm_X0_canShrink : pm_Vm yX0_canShrink cX0_canShrink 3 (some .boolean) 1 := ⟨mw_2_86, mw_2_84, mw_2_85, mw_1_3, by decide, by decide⟩
def g_X0_shrink (ev : EV) (z : PS) (th : Nat) (l1 : Nat) (l2 : Int64) : Option PS := ob (g_X4_quotient (r64 z 0 l1) l2) (fun v1 => ob (g_X4_power l2 (2 : Int32)) (fun v2 => ob (g_X4_quotient (r64 z 1 l1) v2) (fun v3 => ob (g_X4_power l2 (3 : Int32)) (fun v4 => ob (g_X4_quotient (r64 z 2 l1) v4) (fun v5 => ob (g_X4_power l2 (4 : Int32)) (fun v6 => ob (g_X4_quotient (r64 z 3 l1) v6) (fun v7 => ob (g_X4_power l2 (6 : Int32)) (fun v8 => ob (g_X4_quotient (r64 z 4 l1) v8) (fun v9 => ob (g_X0_put ev z th v1 v3 v5 v7 v9) (fun z10 => some z10))))))))))
set_option maxRecDepth 20000 in
set_option maxHeartbeats 4000000 in
theorem c_X0_shrink (l : Launch) (ev : EV) (z : PS) (E : EWF ev) {th : Nat} (hth : isK ev 0 th) {l1 : Nat} (hl1 : isK ev 0 l1) (th_ : Nat) (l1_ : Nat) (l2 : Int64) (z9 : PS) (h : g_X0_shrink ev z th l1 l2 = some z9) : Met l yX0_shrink (pWs yX0_shrink cX0_shrink 4 none) (pR 1 42) (va_Pc [.ref th, .ref l1, .long l2] (pPe ev z)) (pQv ev z9) 0 0 (eA ev) := by
  refine pm_of (by decide) (Nat.le_of_ble_eq_true rfl) ?_
  intro p e s m below meth c S hr hlk hv ls hl
  obtain ⟨hP, hK, hX⟩ := hv
  have hS : SS ev s s.heap [] := va_S.rf
  have hl : lv_has ls 4 [(0, .ref th), (1, .ref l1), (2, .long l2)] := hl
  unfold g_X0_shrink at h
  refine lv_aload_n S.1 S.2.1 dX0_shrink_0 rfl (lv_at hl 0 rfl) ?_
  refine lv_aload_n S.1 S.2.1 dX0_shrink_1 rfl (lv_at hl 1 rfl) ?_
  refine gf_0_0 S hK hP hl1 mw_1_36 dX0_shrink_2 ?_
  refine lv_lload_n S.1 S.2.1 dX0_shrink_5 rfl (lv_at hl 2 rfl) ?_
  obtain ⟨v1, ev1, h⟩ := ob_s h
  refine pm_cS (As := [.long (r64 z 0 l1), .long l2]) (rest := [.ref th]) S (c_X4_quotient l (r64 z 0 l1) l2 v1 ev1) sm_X4_quotient mw_2_93 ⟨⟨rfl, rfl⟩, by decide, by decide⟩ rfl hl.1 rfl (Nat.le_of_ble_eq_true rfl) ⟨Nat.zero_le _, Nat.zero_le _⟩ dX0_shrink_6 ?_
  refine lv_aload_n S.1 S.2.1 dX0_shrink_9 rfl (lv_at hl 1 rfl) ?_
  refine gf_0_1 S hK hP hl1 mw_1_38 dX0_shrink_10 ?_
  refine lv_lload_n S.1 S.2.1 dX0_shrink_13 rfl (lv_at hl 2 rfl) ?_
  refine lv_iconst (v := 2) S.1 S.2.1 dX0_shrink_14 (by decide) ?_
  obtain ⟨v2, ev2, h⟩ := ob_s h
  refine pm_cS (As := [.long l2, .int (2 : Int32)]) (rest := [.long (r64 z 1 l1), .long v1, .ref th]) S (c_X4_power l l2 (2 : Int32) v2 ev2) sm_X4_power mw_2_88 ⟨⟨rfl, rfl⟩, by decide, by decide⟩ rfl hl.1 rfl (Nat.le_of_ble_eq_true rfl) ⟨Nat.zero_le _, Nat.zero_le _⟩ dX0_shrink_15 ?_
  obtain ⟨v3, ev3, h⟩ := ob_s h
  refine pm_cS (As := [.long (r64 z 1 l1), .long v2]) (rest := [.long v1, .ref th]) S (c_X4_quotient l (r64 z 1 l1) v2 v3 ev3) sm_X4_quotient mw_2_93 ⟨⟨rfl, rfl⟩, by decide, by decide⟩ rfl hl.1 rfl (Nat.le_of_ble_eq_true rfl) ⟨Nat.zero_le _, Nat.zero_le _⟩ dX0_shrink_18 ?_
  refine lv_aload_n S.1 S.2.1 dX0_shrink_21 rfl (lv_at hl 1 rfl) ?_
  refine gf_0_2 S hK hP hl1 mw_1_40 dX0_shrink_22 ?_
  refine lv_lload_n S.1 S.2.1 dX0_shrink_25 rfl (lv_at hl 2 rfl) ?_
  refine lv_iconst (v := 3) S.1 S.2.1 dX0_shrink_26 (by decide) ?_
  obtain ⟨v4, ev4, h⟩ := ob_s h
  refine pm_cS (As := [.long l2, .int (3 : Int32)]) (rest := [.long (r64 z 2 l1), .long v3, .long v1, .ref th]) S (c_X4_power l l2 (3 : Int32) v4 ev4) sm_X4_power mw_2_88 ⟨⟨rfl, rfl⟩, by decide, by decide⟩ rfl hl.1 rfl (Nat.le_of_ble_eq_true rfl) ⟨Nat.zero_le _, Nat.zero_le _⟩ dX0_shrink_27 ?_
  obtain ⟨v5, ev5, h⟩ := ob_s h
  refine pm_cS (As := [.long (r64 z 2 l1), .long v4]) (rest := [.long v3, .long v1, .ref th]) S (c_X4_quotient l (r64 z 2 l1) v4 v5 ev5) sm_X4_quotient mw_2_93 ⟨⟨rfl, rfl⟩, by decide, by decide⟩ rfl hl.1 rfl (Nat.le_of_ble_eq_true rfl) ⟨Nat.zero_le _, Nat.zero_le _⟩ dX0_shrink_30 ?_
  refine lv_aload_n S.1 S.2.1 dX0_shrink_33 rfl (lv_at hl 1 rfl) ?_
  refine gf_0_3 S hK hP hl1 mw_1_42 dX0_shrink_34 ?_
  refine lv_lload_n S.1 S.2.1 dX0_shrink_37 rfl (lv_at hl 2 rfl) ?_
  refine lv_iconst (v := 4) S.1 S.2.1 dX0_shrink_38 (by decide) ?_
  obtain ⟨v6, ev6, h⟩ := ob_s h
  refine pm_cS (As := [.long l2, .int (4 : Int32)]) (rest := [.long (r64 z 3 l1), .long v5, .long v3, .long v1, .ref th]) S (c_X4_power l l2 (4 : Int32) v6 ev6) sm_X4_power mw_2_88 ⟨⟨rfl, rfl⟩, by decide, by decide⟩ rfl hl.1 rfl (Nat.le_of_ble_eq_true rfl) ⟨Nat.zero_le _, Nat.zero_le _⟩ dX0_shrink_39 ?_
  obtain ⟨v7, ev7, h⟩ := ob_s h
  refine pm_cS (As := [.long (r64 z 3 l1), .long v6]) (rest := [.long v5, .long v3, .long v1, .ref th]) S (c_X4_quotient l (r64 z 3 l1) v6 v7 ev7) sm_X4_quotient mw_2_93 ⟨⟨rfl, rfl⟩, by decide, by decide⟩ rfl hl.1 rfl (Nat.le_of_ble_eq_true rfl) ⟨Nat.zero_le _, Nat.zero_le _⟩ dX0_shrink_42 ?_
  refine lv_aload_n S.1 S.2.1 dX0_shrink_45 rfl (lv_at hl 1 rfl) ?_
  refine gf_0_4 S hK hP hl1 mw_1_44 dX0_shrink_46 ?_
  refine lv_lload_n S.1 S.2.1 dX0_shrink_49 rfl (lv_at hl 2 rfl) ?_
  refine lv_bipush (v := 6) S.1 S.2.1 dX0_shrink_50 (by decide) ?_
  obtain ⟨v8, ev8, h⟩ := ob_s h
  refine pm_cS (As := [.long l2, .int (6 : Int32)]) (rest := [.long (r64 z 4 l1), .long v7, .long v5, .long v3, .long v1, .ref th]) S (c_X4_power l l2 (6 : Int32) v8 ev8) sm_X4_power mw_2_88 ⟨⟨rfl, rfl⟩, by decide, by decide⟩ rfl hl.1 rfl (Nat.le_of_ble_eq_true rfl) ⟨Nat.zero_le _, Nat.zero_le _⟩ dX0_shrink_52 ?_
  obtain ⟨v9, ev9, h⟩ := ob_s h
  refine pm_cS (As := [.long (r64 z 4 l1), .long v8]) (rest := [.long v7, .long v5, .long v3, .long v1, .ref th]) S (c_X4_quotient l (r64 z 4 l1) v8 v9 ev9) sm_X4_quotient mw_2_93 ⟨⟨rfl, rfl⟩, by decide, by decide⟩ rfl hl.1 rfl (Nat.le_of_ble_eq_true rfl) ⟨Nat.zero_le _, Nat.zero_le _⟩ dX0_shrink_55 ?_
  obtain ⟨z10, ez10, h⟩ := ob_s h
  refine pm_cVv (As := [.long v1, .long v3, .long v5, .long v7, .long v9]) (rest := []) S hK hX hP hS (c_X0_put l ev z E hth th v1 v3 v5 v7 v9 z10 ez10) vm_X0_put mw_2_7 (rc_0 hK hP hth) ⟨⟨rfl, rfl⟩, by decide, by decide⟩ rfl hl.1 rfl (Nat.le_of_ble_eq_true rfl) ⟨Nat.zero_le _, Nat.zero_le _⟩ dX0_shrink_58 (fun H locs hP hS => ?_)
  exact pm_vretW S hr hlk hP hS (Option.some.inj h) dX0_shrink_61
theorem vm_X0_shrink : pm_Vm yX0_shrink cX0_shrink 4 none 2 := ⟨mw_2_92, mw_2_90, mw_2_91, mw_1_3, by decide, by decide⟩
def g_X0_value (ev : EV) (z : PS) (th : Nat) (l1 : Int32) : Option Int64 := if l1 = 0 then (some (r64 z 0 th)) else (if l1 = 1 then (some (r64 z 1 th)) else (if l1 = 2 then (some (r64 z 2 th)) else (if l1 = 3 then (some (r64 z 3 th)) else (if l1 = 4 then (some (r64 z 4 th)) else (if l1 = 5 then (some (r64 z 5 th)) else (if l1 = 6 then (some (r64 z 6 th)) else (if l1 = 7 then (some (r64 z 7 th)) else (if l1 = 8 then (some (r64 z 8 th)) else (if l1 = 9 then (some (r64 z 9 th)) else (if l1 = 10 then (some (r64 z 10 th)) else (some (r64 z 11 th))))))))))))
set_option maxRecDepth 20000 in
set_option maxHeartbeats 4000000 in
theorem c_X0_value (l : Launch) (ev : EV) (z : PS) (E : EWF ev) {th : Nat} (hth : isK ev 0 th) (th_ : Nat) (l1 : Int32) (r : Int64) (h : g_X0_value ev z th l1 = some r) : Met l yX0_value (pWs yX0_value cX0_value 2 (some .long)) (pR 0 0) (va_Pc [.ref th, .int l1] (pPe ev z)) (k2_QcV (.long r)) 0 0 (fun _ => False) := by
  refine pm_of (by decide) (Nat.le_of_ble_eq_true rfl) ?_
  intro p e s m below meth c S hr hlk hv ls hl
  obtain ⟨hP, hK, hX⟩ := hv
  have hl : lv_has ls 2 [(0, .ref th), (1, .int l1)] := hl
  unfold g_X0_value at h
  refine lv_iload_n S.1 S.2.1 dX0_value_0 rfl (lv_at hl 1 rfl) ?_
  by_cases c1 : l1 = 0
  · rw [if_pos c1] at h
    refine lv_tableIn (off := 59) (tgt := 60) S.1 S.2.1 dX0_value_1 (by rw [c1]; decide) (by rw [c1]; decide) (by rw [c1]; rfl) (by decide) ?_
    refine lv_aload_n S.1 S.2.1 dX0_value_60 rfl (lv_at hl 0 rfl) ?_
    refine gf_0_0 S hK hP hth mw_1_36 dX0_value_61 ?_
    exact pm_lretR S hr hlk (Option.some.inj h) dX0_value_64
  · rw [if_neg c1] at h
    by_cases c2 : l1 = 1
    · rw [if_pos c2] at h
      refine lv_tableIn (off := 64) (tgt := 65) S.1 S.2.1 dX0_value_1 (by rw [c2]; decide) (by rw [c2]; decide) (by rw [c2]; rfl) (by decide) ?_
      refine lv_aload_n S.1 S.2.1 dX0_value_65 rfl (lv_at hl 0 rfl) ?_
      refine gf_0_1 S hK hP hth mw_1_38 dX0_value_66 ?_
      exact pm_lretR S hr hlk (Option.some.inj h) dX0_value_69
    · rw [if_neg c2] at h
      by_cases c3 : l1 = 2
      · rw [if_pos c3] at h
        refine lv_tableIn (off := 69) (tgt := 70) S.1 S.2.1 dX0_value_1 (by rw [c3]; decide) (by rw [c3]; decide) (by rw [c3]; rfl) (by decide) ?_
        refine lv_aload_n S.1 S.2.1 dX0_value_70 rfl (lv_at hl 0 rfl) ?_
        refine gf_0_2 S hK hP hth mw_1_40 dX0_value_71 ?_
        exact pm_lretR S hr hlk (Option.some.inj h) dX0_value_74
      · rw [if_neg c3] at h
        by_cases c4 : l1 = 3
        · rw [if_pos c4] at h
          refine lv_tableIn (off := 74) (tgt := 75) S.1 S.2.1 dX0_value_1 (by rw [c4]; decide) (by rw [c4]; decide) (by rw [c4]; rfl) (by decide) ?_
          refine lv_aload_n S.1 S.2.1 dX0_value_75 rfl (lv_at hl 0 rfl) ?_
          refine gf_0_3 S hK hP hth mw_1_42 dX0_value_76 ?_
          exact pm_lretR S hr hlk (Option.some.inj h) dX0_value_79
        · rw [if_neg c4] at h
          by_cases c5 : l1 = 4
          · rw [if_pos c5] at h
            refine lv_tableIn (off := 79) (tgt := 80) S.1 S.2.1 dX0_value_1 (by rw [c5]; decide) (by rw [c5]; decide) (by rw [c5]; rfl) (by decide) ?_
            refine lv_aload_n S.1 S.2.1 dX0_value_80 rfl (lv_at hl 0 rfl) ?_
            refine gf_0_4 S hK hP hth mw_1_44 dX0_value_81 ?_
            exact pm_lretR S hr hlk (Option.some.inj h) dX0_value_84
          · rw [if_neg c5] at h
            by_cases c6 : l1 = 5
            · rw [if_pos c6] at h
              refine lv_tableIn (off := 84) (tgt := 85) S.1 S.2.1 dX0_value_1 (by rw [c6]; decide) (by rw [c6]; decide) (by rw [c6]; rfl) (by decide) ?_
              refine lv_aload_n S.1 S.2.1 dX0_value_85 rfl (lv_at hl 0 rfl) ?_
              refine gf_0_5 S hK hP hth mw_1_46 dX0_value_86 ?_
              exact pm_lretR S hr hlk (Option.some.inj h) dX0_value_89
            · rw [if_neg c6] at h
              by_cases c7 : l1 = 6
              · rw [if_pos c7] at h
                refine lv_tableIn (off := 89) (tgt := 90) S.1 S.2.1 dX0_value_1 (by rw [c7]; decide) (by rw [c7]; decide) (by rw [c7]; rfl) (by decide) ?_
                refine lv_aload_n S.1 S.2.1 dX0_value_90 rfl (lv_at hl 0 rfl) ?_
                refine gf_0_6 S hK hP hth mw_1_48 dX0_value_91 ?_
                exact pm_lretR S hr hlk (Option.some.inj h) dX0_value_94
              · rw [if_neg c7] at h
                by_cases c8 : l1 = 7
                · rw [if_pos c8] at h
                  refine lv_tableIn (off := 94) (tgt := 95) S.1 S.2.1 dX0_value_1 (by rw [c8]; decide) (by rw [c8]; decide) (by rw [c8]; rfl) (by decide) ?_
                  refine lv_aload_n S.1 S.2.1 dX0_value_95 rfl (lv_at hl 0 rfl) ?_
                  refine gf_0_7 S hK hP hth mw_1_49 dX0_value_96 ?_
                  exact pm_lretR S hr hlk (Option.some.inj h) dX0_value_99
                · rw [if_neg c8] at h
                  by_cases c9 : l1 = 8
                  · rw [if_pos c9] at h
                    refine lv_tableIn (off := 99) (tgt := 100) S.1 S.2.1 dX0_value_1 (by rw [c9]; decide) (by rw [c9]; decide) (by rw [c9]; rfl) (by decide) ?_
                    refine lv_aload_n S.1 S.2.1 dX0_value_100 rfl (lv_at hl 0 rfl) ?_
                    refine gf_0_8 S hK hP hth mw_1_51 dX0_value_101 ?_
                    exact pm_lretR S hr hlk (Option.some.inj h) dX0_value_104
                  · rw [if_neg c9] at h
                    by_cases c10 : l1 = 9
                    · rw [if_pos c10] at h
                      refine lv_tableIn (off := 104) (tgt := 105) S.1 S.2.1 dX0_value_1 (by rw [c10]; decide) (by rw [c10]; decide) (by rw [c10]; rfl) (by decide) ?_
                      refine lv_aload_n S.1 S.2.1 dX0_value_105 rfl (lv_at hl 0 rfl) ?_
                      refine gf_0_9 S hK hP hth mw_1_54 dX0_value_106 ?_
                      exact pm_lretR S hr hlk (Option.some.inj h) dX0_value_109
                    · rw [if_neg c10] at h
                      by_cases c11 : l1 = 10
                      · rw [if_pos c11] at h
                        refine lv_tableIn (off := 109) (tgt := 110) S.1 S.2.1 dX0_value_1 (by rw [c11]; decide) (by rw [c11]; decide) (by rw [c11]; rfl) (by decide) ?_
                        refine lv_aload_n S.1 S.2.1 dX0_value_110 rfl (lv_at hl 0 rfl) ?_
                        refine gf_0_10 S hK hP hth mw_1_58 dX0_value_111 ?_
                        exact pm_lretR S hr hlk (Option.some.inj h) dX0_value_114
                      · rw [if_neg c11] at h
                        refine lv_tableOut (tgt := 115) S.1 S.2.1 dX0_value_1 (by have nc1 := lv_neT c1 (show (0 : Int32).toInt = 0 by decide); have nc2 := lv_neT c2 (show (1 : Int32).toInt = 1 by decide); have nc3 := lv_neT c3 (show (2 : Int32).toInt = 2 by decide); have nc4 := lv_neT c4 (show (3 : Int32).toInt = 3 by decide); have nc5 := lv_neT c5 (show (4 : Int32).toInt = 4 by decide); have nc6 := lv_neT c6 (show (5 : Int32).toInt = 5 by decide); have nc7 := lv_neT c7 (show (6 : Int32).toInt = 6 by decide); have nc8 := lv_neT c8 (show (7 : Int32).toInt = 7 by decide); have nc9 := lv_neT c9 (show (8 : Int32).toInt = 8 by decide); have nc10 := lv_neT c10 (show (9 : Int32).toInt = 9 by decide); have nc11 := lv_neT c11 (show (10 : Int32).toInt = 10 by decide); omega) (by decide) ?_
                        refine lv_aload_n S.1 S.2.1 dX0_value_115 rfl (lv_at hl 0 rfl) ?_
                        refine gf_0_11 S hK hP hth mw_1_63 dX0_value_116 ?_
                        exact pm_lretR S hr hlk (Option.some.inj h) dX0_value_119
theorem vm_X0_value : pm_Vm yX0_value cX0_value 2 (some .long) 1 := ⟨mw_3_200, mw_3_198, mw_3_199, mw_1_3, by decide, by decide⟩
def g_X0_rightAt (ev : EV) (z : PS) (th : Nat) (l1 : Int64) : Option Int64 := some (((((l1 + (r64 z 1 th)) * l1) + (r64 z 3 th)) * l1) + (r64 z 4 th))
set_option maxRecDepth 20000 in
set_option maxHeartbeats 4000000 in
theorem c_X0_rightAt (l : Launch) (ev : EV) (z : PS) (E : EWF ev) {th : Nat} (hth : isK ev 0 th) (th_ : Nat) (l1 : Int64) (r : Int64) (h : g_X0_rightAt ev z th l1 = some r) : Met l yX0_rightAt (pWs yX0_rightAt cX0_rightAt 3 (some .long)) (pR 0 0) (va_Pc [.ref th, .long l1] (pPe ev z)) (k2_QcV (.long r)) 0 0 (fun _ => False) := by
  refine pm_of (by decide) (Nat.le_of_ble_eq_true rfl) ?_
  intro p e s m below meth c S hr hlk hv ls hl
  obtain ⟨hP, hK, hX⟩ := hv
  have hl : lv_has ls 3 [(0, .ref th), (1, .long l1)] := hl
  unfold g_X0_rightAt at h
  refine lv_lload_n S.1 S.2.1 dX0_rightAt_0 rfl (lv_at hl 1 rfl) ?_
  refine lv_aload_n S.1 S.2.1 dX0_rightAt_1 rfl (lv_at hl 0 rfl) ?_
  refine gf_0_1 S hK hP hth mw_1_38 dX0_rightAt_2 ?_
  refine lv_ladd S.1 S.2.1 dX0_rightAt_5 ?_
  refine lv_lload_n S.1 S.2.1 dX0_rightAt_6 rfl (lv_at hl 1 rfl) ?_
  refine lv_lmul S.1 S.2.1 dX0_rightAt_7 ?_
  refine lv_aload_n S.1 S.2.1 dX0_rightAt_8 rfl (lv_at hl 0 rfl) ?_
  refine gf_0_3 S hK hP hth mw_1_42 dX0_rightAt_9 ?_
  refine lv_ladd S.1 S.2.1 dX0_rightAt_12 ?_
  refine lv_lload_n S.1 S.2.1 dX0_rightAt_13 rfl (lv_at hl 1 rfl) ?_
  refine lv_lmul S.1 S.2.1 dX0_rightAt_14 ?_
  refine lv_aload_n S.1 S.2.1 dX0_rightAt_15 rfl (lv_at hl 0 rfl) ?_
  refine gf_0_4 S hK hP hth mw_1_44 dX0_rightAt_16 ?_
  refine lv_ladd S.1 S.2.1 dX0_rightAt_19 ?_
  exact pm_lretR S hr hlk (Option.some.inj h) dX0_rightAt_20
theorem vm_X0_rightAt : pm_Vm yX0_rightAt cX0_rightAt 3 (some .long) 1 := ⟨mw_2_163, mw_2_161, mw_2_162, mw_1_3, by decide, by decide⟩
def g_X0_slopeAt (ev : EV) (z : PS) (th : Nat) (l1 : Int64) : Option Int64 := some (((r64 z 0 th) * l1) + (r64 z 2 th))
set_option maxRecDepth 20000 in
set_option maxHeartbeats 4000000 in
theorem c_X0_slopeAt (l : Launch) (ev : EV) (z : PS) (E : EWF ev) {th : Nat} (hth : isK ev 0 th) (th_ : Nat) (l1 : Int64) (r : Int64) (h : g_X0_slopeAt ev z th l1 = some r) : Met l yX0_slopeAt (pWs yX0_slopeAt cX0_slopeAt 3 (some .long)) (pR 0 0) (va_Pc [.ref th, .long l1] (pPe ev z)) (k2_QcV (.long r)) 0 0 (fun _ => False) := by
  refine pm_of (by decide) (Nat.le_of_ble_eq_true rfl) ?_
  intro p e s m below meth c S hr hlk hv ls hl
  obtain ⟨hP, hK, hX⟩ := hv
  have hl : lv_has ls 3 [(0, .ref th), (1, .long l1)] := hl
  unfold g_X0_slopeAt at h
  refine lv_aload_n S.1 S.2.1 dX0_slopeAt_0 rfl (lv_at hl 0 rfl) ?_
  refine gf_0_0 S hK hP hth mw_1_36 dX0_slopeAt_1 ?_
  refine lv_lload_n S.1 S.2.1 dX0_slopeAt_4 rfl (lv_at hl 1 rfl) ?_
  refine lv_lmul S.1 S.2.1 dX0_slopeAt_5 ?_
  refine lv_aload_n S.1 S.2.1 dX0_slopeAt_6 rfl (lv_at hl 0 rfl) ?_
  refine gf_0_2 S hK hP hth mw_1_40 dX0_slopeAt_7 ?_
  refine lv_ladd S.1 S.2.1 dX0_slopeAt_10 ?_
  exact pm_lretR S hr hlk (Option.some.inj h) dX0_slopeAt_11
theorem vm_X0_slopeAt : pm_Vm yX0_slopeAt cX0_slopeAt 3 (some .long) 1 := ⟨mw_2_170, mw_2_168, mw_2_169, mw_1_3, by decide, by decide⟩
def g_X0_isSameAs (ev : EV) (z : PS) (th : Nat) (l1 : Nat) : Option Int32 := if (r64 z 0 th) = (r64 z 0 l1) then (if (r64 z 1 th) = (r64 z 1 l1) then (if (r64 z 2 th) = (r64 z 2 l1) then (if (r64 z 3 th) = (r64 z 3 l1) then (if (r64 z 4 th) = (r64 z 4 l1) then (some (1 : Int32)) else (some (0 : Int32))) else (some (0 : Int32))) else (some (0 : Int32))) else (some (0 : Int32))) else (some (0 : Int32))
set_option maxRecDepth 20000 in
set_option maxHeartbeats 4000000 in
theorem c_X0_isSameAs (l : Launch) (ev : EV) (z : PS) (E : EWF ev) {th : Nat} (hth : isK ev 0 th) {l1 : Nat} (hl1 : isK ev 0 l1) (th_ : Nat) (l1_ : Nat) (r : Int32) (h : g_X0_isSameAs ev z th l1 = some r) : Met l yX0_isSameAs (pWs yX0_isSameAs cX0_isSameAs 2 (some .boolean)) (pR 0 0) (va_Pc [.ref th, .ref l1] (pPe ev z)) (k2_QcV (.int r)) 0 0 (fun _ => False) := by
  refine pm_of (by decide) (Nat.le_of_ble_eq_true rfl) ?_
  intro p e s m below meth c S hr hlk hv ls hl
  obtain ⟨hP, hK, hX⟩ := hv
  have hl : lv_has ls 2 [(0, .ref th), (1, .ref l1)] := hl
  unfold g_X0_isSameAs at h
  refine lv_aload_n S.1 S.2.1 dX0_isSameAs_0 rfl (lv_at hl 0 rfl) ?_
  refine gf_0_0 S hK hP hth mw_1_36 dX0_isSameAs_1 ?_
  refine lv_aload_n S.1 S.2.1 dX0_isSameAs_4 rfl (lv_at hl 1 rfl) ?_
  refine gf_0_0 S hK hP hl1 mw_1_36 dX0_isSameAs_5 ?_
  refine pm_lne (tgt := 64) S dX0_isSameAs_8 dX0_isSameAs_9 (by decide) (fun c1 => ?_) (fun c1 => ?_)
  · rw [if_neg c1] at h
    refine lv_iconst (v := 0) S.1 S.2.1 dX0_isSameAs_64 (by decide) ?_
    exact pm_zretR S hr hlk (Or.inl rfl) (Option.some.inj h) dX0_isSameAs_65
  · rw [if_pos c1] at h
    refine lv_aload_n S.1 S.2.1 dX0_isSameAs_12 rfl (lv_at hl 0 rfl) ?_
    refine gf_0_1 S hK hP hth mw_1_38 dX0_isSameAs_13 ?_
    refine lv_aload_n S.1 S.2.1 dX0_isSameAs_16 rfl (lv_at hl 1 rfl) ?_
    refine gf_0_1 S hK hP hl1 mw_1_38 dX0_isSameAs_17 ?_
    refine pm_lne (tgt := 64) S dX0_isSameAs_20 dX0_isSameAs_21 (by decide) (fun c2 => ?_) (fun c2 => ?_)
    · rw [if_neg c2] at h
      refine lv_iconst (v := 0) S.1 S.2.1 dX0_isSameAs_64 (by decide) ?_
      exact pm_zretR S hr hlk (Or.inl rfl) (Option.some.inj h) dX0_isSameAs_65
    · rw [if_pos c2] at h
      refine lv_aload_n S.1 S.2.1 dX0_isSameAs_24 rfl (lv_at hl 0 rfl) ?_
      refine gf_0_2 S hK hP hth mw_1_40 dX0_isSameAs_25 ?_
      refine lv_aload_n S.1 S.2.1 dX0_isSameAs_28 rfl (lv_at hl 1 rfl) ?_
      refine gf_0_2 S hK hP hl1 mw_1_40 dX0_isSameAs_29 ?_
      refine pm_lne (tgt := 64) S dX0_isSameAs_32 dX0_isSameAs_33 (by decide) (fun c3 => ?_) (fun c3 => ?_)
      · rw [if_neg c3] at h
        refine lv_iconst (v := 0) S.1 S.2.1 dX0_isSameAs_64 (by decide) ?_
        exact pm_zretR S hr hlk (Or.inl rfl) (Option.some.inj h) dX0_isSameAs_65
      · rw [if_pos c3] at h
        refine lv_aload_n S.1 S.2.1 dX0_isSameAs_36 rfl (lv_at hl 0 rfl) ?_
        refine gf_0_3 S hK hP hth mw_1_42 dX0_isSameAs_37 ?_
        refine lv_aload_n S.1 S.2.1 dX0_isSameAs_40 rfl (lv_at hl 1 rfl) ?_
        refine gf_0_3 S hK hP hl1 mw_1_42 dX0_isSameAs_41 ?_
        refine pm_lne (tgt := 64) S dX0_isSameAs_44 dX0_isSameAs_45 (by decide) (fun c4 => ?_) (fun c4 => ?_)
        · rw [if_neg c4] at h
          refine lv_iconst (v := 0) S.1 S.2.1 dX0_isSameAs_64 (by decide) ?_
          exact pm_zretR S hr hlk (Or.inl rfl) (Option.some.inj h) dX0_isSameAs_65
        · rw [if_pos c4] at h
          refine lv_aload_n S.1 S.2.1 dX0_isSameAs_48 rfl (lv_at hl 0 rfl) ?_
          refine gf_0_4 S hK hP hth mw_1_44 dX0_isSameAs_49 ?_
          refine lv_aload_n S.1 S.2.1 dX0_isSameAs_52 rfl (lv_at hl 1 rfl) ?_
          refine gf_0_4 S hK hP hl1 mw_1_44 dX0_isSameAs_53 ?_
          refine pm_lne (tgt := 64) S dX0_isSameAs_56 dX0_isSameAs_57 (by decide) (fun c5 => ?_) (fun c5 => ?_)
          · rw [if_neg c5] at h
            refine lv_iconst (v := 0) S.1 S.2.1 dX0_isSameAs_64 (by decide) ?_
            exact pm_zretR S hr hlk (Or.inl rfl) (Option.some.inj h) dX0_isSameAs_65
          · rw [if_pos c5] at h
            refine lv_iconst (v := 1) S.1 S.2.1 dX0_isSameAs_60 (by decide) ?_
            refine lv_goto (tgt := 65) S.1 S.2.1 dX0_isSameAs_61 (by decide) ?_
            exact pm_zretR S hr hlk (Or.inr rfl) (Option.some.inj h) dX0_isSameAs_65
theorem vm_X0_isSameAs : pm_Vm yX0_isSameAs cX0_isSameAs 2 (some .boolean) 1 := ⟨mw_3_36, mw_3_34, mw_3_35, mw_1_3, by decide, by decide⟩
def g_X0_discriminantAt (ev : EV) (z : PS) (th : Nat) (l1 : Int64) : Option Int64 := ob (g_X0_slopeAt ev z th l1) (fun v1 => ob (g_X0_slopeAt ev z th l1) (fun v2 => ob (g_X0_rightAt ev z th l1) (fun v3 => some ((v1 * v2) + ((4 : Int64) * v3)))))
set_option maxRecDepth 20000 in
set_option maxHeartbeats 4000000 in
theorem c_X0_discriminantAt (l : Launch) (ev : EV) (z : PS) (E : EWF ev) {th : Nat} (hth : isK ev 0 th) (th_ : Nat) (l1 : Int64) (r : Int64) (h : g_X0_discriminantAt ev z th l1 = some r) : Met l yX0_discriminantAt (pWs yX0_discriminantAt cX0_discriminantAt 3 (some .long)) (pR 1 34) (va_Pc [.ref th, .long l1] (pPe ev z)) (k2_QcV (.long r)) 0 0 (fun _ => False) := by
  refine pm_of (by decide) (Nat.le_of_ble_eq_true rfl) ?_
  intro p e s m below meth c S hr hlk hv ls hl
  obtain ⟨hP, hK, hX⟩ := hv
  have hl : lv_has ls 3 [(0, .ref th), (1, .long l1)] := hl
  unfold g_X0_discriminantAt at h
  refine lv_aload_n S.1 S.2.1 dX0_discriminantAt_0 rfl (lv_at hl 0 rfl) ?_
  refine lv_lload_n S.1 S.2.1 dX0_discriminantAt_1 rfl (lv_at hl 1 rfl) ?_
  obtain ⟨v1, ev1, h⟩ := ob_s h
  refine pm_cVr (As := [.long l1]) (rest := []) S hK hX hP va_S.rf (c_X0_slopeAt l ev z E hth th l1 v1 ev1) vm_X0_slopeAt mw_3_59 (rc_0 hK hP hth) ⟨⟨rfl, rfl⟩, by decide, by decide⟩ rfl hl.1 rfl (Nat.le_of_ble_eq_true rfl) ⟨Nat.zero_le _, Nat.zero_le _⟩ dX0_discriminantAt_2 ?_
  refine lv_aload_n S.1 S.2.1 dX0_discriminantAt_5 rfl (lv_at hl 0 rfl) ?_
  refine lv_lload_n S.1 S.2.1 dX0_discriminantAt_6 rfl (lv_at hl 1 rfl) ?_
  obtain ⟨v2, ev2, h⟩ := ob_s h
  refine pm_cVr (As := [.long l1]) (rest := [.long v1]) S hK hX hP va_S.rf (c_X0_slopeAt l ev z E hth th l1 v2 ev2) vm_X0_slopeAt mw_3_59 (rc_0 hK hP hth) ⟨⟨rfl, rfl⟩, by decide, by decide⟩ rfl hl.1 rfl (Nat.le_of_ble_eq_true rfl) ⟨Nat.zero_le _, Nat.zero_le _⟩ dX0_discriminantAt_7 ?_
  refine lv_lmul S.1 S.2.1 dX0_discriminantAt_10 ?_
  refine pm_ldc2 S mw_1_220 dX0_discriminantAt_11 ?_
  refine lv_aload_n S.1 S.2.1 dX0_discriminantAt_14 rfl (lv_at hl 0 rfl) ?_
  refine lv_lload_n S.1 S.2.1 dX0_discriminantAt_15 rfl (lv_at hl 1 rfl) ?_
  obtain ⟨v3, ev3, h⟩ := ob_s h
  refine pm_cVr (As := [.long l1]) (rest := [.long (4 : Int64), .long (v1 * v2)]) S hK hX hP va_S.rf (c_X0_rightAt l ev z E hth th l1 v3 ev3) vm_X0_rightAt mw_3_60 (rc_0 hK hP hth) ⟨⟨rfl, rfl⟩, by decide, by decide⟩ rfl hl.1 rfl (Nat.le_of_ble_eq_true rfl) ⟨Nat.zero_le _, Nat.zero_le _⟩ dX0_discriminantAt_16 ?_
  refine lv_lmul S.1 S.2.1 dX0_discriminantAt_19 ?_
  refine lv_ladd S.1 S.2.1 dX0_discriminantAt_20 ?_
  exact pm_lretR S hr hlk (Option.some.inj h) dX0_discriminantAt_21
theorem vm_X0_discriminantAt : pm_Vm yX0_discriminantAt cX0_discriminantAt 3 (some .long) 1 := ⟨mw_3_58, mw_3_56, mw_3_57, mw_1_3, by decide, by decide⟩
