/-- the one list of words that every method has -/
def gT : List Cond := lw_tbl.filter goodWord
theorem gT_in : ∀ w ∈ gT, w ∈ lw_tbl := fun w h => (List.mem_filter.mp h).1
theorem gT_good : ∀ w ∈ gT, w ∈ lw_tbl ∧ ((w.onTables && w.keeps) = true ∨ ∃ ty, w = .arrayClass ty) := fun w h => ⟨gT_in w h, good_of_word (List.mem_filter.mp h).2⟩
theorem gT_of {w : Cond} (h : w ∈ lw_tbl) (g : goodWord w = true) : w ∈ gT := List.mem_filter.mpr ⟨h, g⟩
theorem gT_s {w : Cond} (h : w ∈ k2_sels lw_privs) (g : goodWord w = true) : w ∈ gT := gT_of (List.mem_append_left _ h) g
theorem gT_1 {w : Cond} (h : w ∈ tables_1_1) (g : goodWord w = true) : w ∈ gT := gT_of (List.mem_append_right _ (by unfold tables_1; simp only [List.mem_append, h, true_or, or_true])) g
theorem gT_2 {w : Cond} (h : w ∈ tables_1_2) (g : goodWord w = true) : w ∈ gT := gT_of (List.mem_append_right _ (by unfold tables_1; simp only [List.mem_append, h, true_or, or_true])) g
theorem gT_3 {w : Cond} (h : w ∈ tables_1_3) (g : goodWord w = true) : w ∈ gT := gT_of (List.mem_append_right _ (by unfold tables_1; simp only [List.mem_append, h, true_or, or_true])) g
theorem gT_4 {w : Cond} (h : w ∈ tables_1_4) (g : goodWord w = true) : w ∈ gT := gT_of (List.mem_append_right _ (by unfold tables_1; simp only [List.mem_append, h, true_or, or_true])) g
theorem gT_5 {w : Cond} (h : w ∈ tables_1_5) (g : goodWord w = true) : w ∈ gT := gT_of (List.mem_append_right _ (by unfold tables_1; simp only [List.mem_append, h, true_or, or_true])) g
theorem gX0 : ∀ w ∈ wsX00, w ∈ gT := by decide +kernel
theorem gX1 : ∀ w ∈ wsX10, w ∈ gT := by decide +kernel
theorem gX2 : ∀ w ∈ wsX20, w ∈ gT := by decide +kernel
theorem gX5 : ∀ w ∈ wsX50, w ∈ gT := by decide +kernel
theorem gX6 : ∀ w ∈ wsX60, w ∈ gT := by decide +kernel
theorem gX7 : ∀ w ∈ wsX70, w ∈ gT := by decide +kernel
theorem gX8 : ∀ w ∈ wsX80, w ∈ gT := by decide +kernel
theorem ms_104 : Cond.selects RX7 yX7_keepDraft yX7_keepDraft ∈ gT := gT_s (by decide +kernel) rfl
theorem ms_116 : Cond.selects RX7 yX7_there yX7_there ∈ gT := gT_s (by decide +kernel) rfl
theorem ms_162 : Cond.selects RX7 yX7_hasTwists yX7_hasTwists ∈ gT := gT_s (by decide +kernel) rfl
theorem ms_171 : Cond.selects RX7 yX7_draftTwist yX7_draftTwist ∈ gT := gT_s (by decide +kernel) rfl
theorem ms_194 : Cond.selects RX1 yX1_tell yX1_tell ∈ gT := gT_s (by decide +kernel) rfl
theorem ms_213 : Cond.selects RX1 yX1_tellNode yX1_tellNode ∈ gT := gT_s (by decide +kernel) rfl
theorem ms_222 : Cond.selects RX1 yX1_half yX1_half ∈ gT := gT_s (by decide +kernel) rfl
theorem ms_236 : Cond.selects RX1 yX1_moveSingularPoint yX1_moveSingularPoint ∈ gT := gT_s (by decide +kernel) rfl
theorem ms_240 : Cond.selects RX1 yX1_goesIn yX1_goesIn ∈ gT := gT_s (by decide +kernel) rfl
theorem ms_244 : Cond.selects RX1 yX1_part yX1_part ∈ gT := gT_s (by decide +kernel) rfl
theorem ms_247 : Cond.selects RX1 yX1_rootOf yX1_rootOf ∈ gT := gT_s (by decide +kernel) rfl
theorem ms_255 : Cond.selects RX1 yX1_tellEarlyKind yX1_tellEarlyKind ∈ gT := gT_s (by decide +kernel) rfl
theorem ms_259 : Cond.selects RX1 yX1_moveForCubic yX1_moveForCubic ∈ gT := gT_s (by decide +kernel) rfl
theorem ms_262 : Cond.selects RX1 yX1_cubicAt yX1_cubicAt ∈ gT := gT_s (by decide +kernel) rfl
theorem ms_266 : Cond.selects RX1 yX1_cubicRoots yX1_cubicRoots ∈ gT := gT_s (by decide +kernel) rfl
theorem ms_269 : Cond.selects RX1 yX1_multipleRoot yX1_multipleRoot ∈ gT := gT_s (by decide +kernel) rfl
theorem ms_273 : Cond.selects RX1 yX1_hasUnlikeRoots yX1_hasUnlikeRoots ∈ gT := gT_s (by decide +kernel) rfl
theorem ms_277 : Cond.selects RX1 yX1_tellByTurns yX1_tellByTurns ∈ gT := gT_s (by decide +kernel) rfl
theorem ms_280 : Cond.selects RX1 yX1_tellLateKind yX1_tellLateKind ∈ gT := gT_s (by decide +kernel) rfl
theorem ms_315 : Cond.selects RX5 yX5_add yX5_add ∈ gT := gT_s (by decide +kernel) rfl
theorem ms_324 : Cond.selects RX5 yX5_without yX5_without ∈ gT := gT_s (by decide +kernel) rfl
theorem ms_349 : Cond.selects RX7 yX7_conductorOf yX7_conductorOf ∈ gT := gT_s (by decide +kernel) rfl
theorem ms_379 : Cond.selects RX7 yX7_pointsOn yX7_pointsOn ∈ gT := gT_s (by decide +kernel) rfl
theorem ms_397 : Cond.selects RX7 yX7_twistedConductor yX7_twistedConductor ∈ gT := gT_s (by decide +kernel) rfl
theorem ms_413 : Cond.selects RX6 yX6_add yX6_add ∈ gT := gT_s (by decide +kernel) rfl
theorem ms_426 : Cond.selects RX7 yX7_findSmallPoints yX7_findSmallPoints ∈ gT := gT_s (by decide +kernel) rfl
theorem ms_434 : Cond.selects RX7 yX7_hasSmallPoint yX7_hasSmallPoint ∈ gT := gT_s (by decide +kernel) rfl
theorem ms_445 : Cond.selects RX7 yX7_countUnlike yX7_countUnlike ∈ gT := gT_s (by decide +kernel) rfl
theorem ms_448 : Cond.selects RX7 yX7_bitsOfLeast yX7_bitsOfLeast ∈ gT := gT_s (by decide +kernel) rfl
theorem ms_467 : Cond.selects RX8 yX8_loads yX8_loads ∈ gT := gT_s (by decide +kernel) rfl
theorem ms_471 : Cond.selects RX8 yX8_isCurve yX8_isCurve ∈ gT := gT_s (by decide +kernel) rfl
theorem ms_475 : Cond.selects RX8 yX8_b2 yX8_b2 ∈ gT := gT_s (by decide +kernel) rfl
theorem ms_479 : Cond.selects RX8 yX8_b4 yX8_b4 ∈ gT := gT_s (by decide +kernel) rfl
theorem ms_482 : Cond.selects RX8 yX8_b6 yX8_b6 ∈ gT := gT_s (by decide +kernel) rfl
theorem ms_485 : Cond.selects RX8 yX8_b8 yX8_b8 ∈ gT := gT_s (by decide +kernel) rfl
theorem ms_491 : Cond.selects RX8 yX8_c4 yX8_c4 ∈ gT := gT_s (by decide +kernel) rfl
theorem ms_497 : Cond.selects RX8 yX8_c6 yX8_c6 ∈ gT := gT_s (by decide +kernel) rfl
theorem ms_504 : Cond.selects RX8 yX8_disc yX8_disc ∈ gT := gT_s (by decide +kernel) rfl
theorem ms_508 : Cond.selects RX8 yX8_changes yX8_changes ∈ gT := gT_s (by decide +kernel) rfl
theorem ms_517 : Cond.selects RX8 yX8_shrinks yX8_shrinks ∈ gT := gT_s (by decide +kernel) rfl
theorem ms_524 : Cond.selects RX8 yX8_isSmall yX8_isSmall ∈ gT := gT_s (by decide +kernel) rfl
theorem ms_528 : Cond.selects RX8 yX8_keeps yX8_keeps ∈ gT := gT_s (by decide +kernel) rfl
theorem ms_570 : Cond.selects RX8 yX8_laysPrimes yX8_laysPrimes ∈ gT := gT_s (by decide +kernel) rfl
theorem ms_574 : Cond.selects RX8 yX8_is yX8_is ∈ gT := gT_s (by decide +kernel) rfl
theorem ms_587 : Cond.selects RX8 yX8_additive yX8_additive ∈ gT := gT_s (by decide +kernel) rfl
theorem ms_595 : Cond.selects RX8 yX8_fallsFar yX8_fallsFar ∈ gT := gT_s (by decide +kernel) rfl
theorem ms_599 : Cond.selects RX8 yX8_roots yX8_roots ∈ gT := gT_s (by decide +kernel) rfl
theorem ms_604 : Cond.selects RX8 yX8_goesIn yX8_goesIn ∈ gT := gT_s (by decide +kernel) rfl
theorem ms_608 : Cond.selects RX8 yX8_comesToMidst yX8_comesToMidst ∈ gT := gT_s (by decide +kernel) rfl
theorem ms_611 : Cond.selects RX8 yX8_isFlat yX8_isFlat ∈ gT := gT_s (by decide +kernel) rfl
theorem ms_615 : Cond.selects RX8 yX8_putsBack yX8_putsBack ∈ gT := gT_s (by decide +kernel) rfl
theorem ms_620 : Cond.selects RX8 yX8_flattens yX8_flattens ∈ gT := gT_s (by decide +kernel) rfl
theorem ms_623 : Cond.selects RX8 yX8_cubic yX8_cubic ∈ gT := gT_s (by decide +kernel) rfl
theorem ms_626 : Cond.selects RX8 yX8_slope yX8_slope ∈ gT := gT_s (by decide +kernel) rfl
theorem ms_630 : Cond.selects RX8 yX8_rootsOfCubic yX8_rootsOfCubic ∈ gT := gT_s (by decide +kernel) rfl
theorem ms_634 : Cond.selects RX8 yX8_unlikeRoots yX8_unlikeRoots ∈ gT := gT_s (by decide +kernel) rfl
theorem ms_638 : Cond.selects RX8 yX8_movesRoot yX8_movesRoot ∈ gT := gT_s (by decide +kernel) rfl
theorem ms_643 : Cond.selects RX8 yX8_turns yX8_turns ∈ gT := gT_s (by decide +kernel) rfl
theorem ms_646 : Cond.selects RX8 yX8_splits yX8_splits ∈ gT := gT_s (by decide +kernel) rfl
theorem ms_654 : Cond.selects RX8 yX8_fallsOn yX8_fallsOn ∈ gT := gT_s (by decide +kernel) rfl
theorem ms_660 : Cond.selects RX8 yX8_falls yX8_falls ∈ gT := gT_s (by decide +kernel) rfl
theorem ms_665 : Cond.selects RX8 yX8_laysAt yX8_laysAt ∈ gT := gT_s (by decide +kernel) rfl
theorem ms_671 : Cond.selects RX8 yX8_leads yX8_leads ∈ gT := gT_s (by decide +kernel) rfl
theorem ms_675 : Cond.selects RX8 yX8_keepsWhole yX8_keepsWhole ∈ gT := gT_s (by decide +kernel) rfl
theorem ms_678 : Cond.selects RX8 yX8_wholeAgain yX8_wholeAgain ∈ gT := gT_s (by decide +kernel) rfl
theorem ms_687 : Cond.selects RX8 yX8_laysLeast yX8_laysLeast ∈ gT := gT_s (by decide +kernel) rfl
theorem ms_691 : Cond.selects RX8 yX8_goesLeast yX8_goesLeast ∈ gT := gT_s (by decide +kernel) rfl
theorem ms_704 : Cond.selects RX8 yX8_twists yX8_twists ∈ gT := gT_s (by decide +kernel) rfl
theorem ms_712 : Cond.selects RX8 yX8_told yX8_told ∈ gT := gT_s (by decide +kernel) rfl
theorem ms_731 : Cond.selects RX8 yX8_together yX8_together ∈ gT := gT_s (by decide +kernel) rfl
theorem ms_743 : Cond.selects RX8 yX8_areOne yX8_areOne ∈ gT := gT_s (by decide +kernel) rfl
theorem ms_750 : Cond.selects RX8 yX8_pointsOf yX8_pointsOf ∈ gT := gT_s (by decide +kernel) rfl
theorem ms_776 : Cond.selects RX8 yX8_adds yX8_adds ∈ gT := gT_s (by decide +kernel) rfl
theorem ms_783 : Cond.selects RX8 yX8_laysPoints yX8_laysPoints ∈ gT := gT_s (by decide +kernel) rfl
theorem ms_796 : Cond.selects RX8 yX8_isUnlike yX8_isUnlike ∈ gT := gT_s (by decide +kernel) rfl
theorem ms_799 : Cond.selects RX8 yX8_isLeast yX8_isLeast ∈ gT := gT_s (by decide +kernel) rfl
theorem ms_802 : Cond.selects RX8 yX8_isLeastEverywhere yX8_isLeastEverywhere ∈ gT := gT_s (by decide +kernel) rfl
theorem mw_1_1 : Cond.initialized RX7 ∈ gT := gT_1 (List.mem_of_getElem? (i := 1) rfl) rfl
theorem mw_1_10 : Cond.initialized RJ9 ∈ gT := gT_1 (List.mem_of_getElem? (i := 10) rfl) rfl
theorem mw_1_105 : Cond.fieldLink RX2 10 "CurveFalls$Held" "own" "LCurveFalls$Equation;" ∈ gT := gT_1 (List.mem_of_getElem? (i := 105) rfl) rfl
theorem mw_1_106 : Cond.fieldLink RX7 72 "CurveFalls$Held" "own" "LCurveFalls$Equation;" ∈ gT := gT_1 (List.mem_of_getElem? (i := 106) rfl) rfl
theorem mw_1_107 : Cond.fieldLink RX2 16 "CurveFalls$Held" "least" "LCurveFalls$Equation;" ∈ gT := gT_1 (List.mem_of_getElem? (i := 107) rfl) rfl
theorem mw_1_108 : Cond.fieldLink RX7 112 "CurveFalls$Held" "least" "LCurveFalls$Equation;" ∈ gT := gT_1 (List.mem_of_getElem? (i := 108) rfl) rfl
theorem mw_1_109 : Cond.fieldLink RX2 19 "CurveFalls$Held" "scale" "J" ∈ gT := gT_1 (List.mem_of_getElem? (i := 109) rfl) rfl
theorem mw_1_110 : Cond.fieldLink RX7 136 "CurveFalls$Held" "scale" "J" ∈ gT := gT_1 (List.mem_of_getElem? (i := 110) rfl) rfl
theorem mw_1_111 : Cond.fieldLink RX2 26 "CurveFalls$Held" "primes" "LCurveFalls$Primes;" ∈ gT := gT_1 (List.mem_of_getElem? (i := 111) rfl) rfl
theorem mw_1_112 : Cond.fieldLink RX2 30 "CurveFalls$Held" "primesKnown" "Z" ∈ gT := gT_1 (List.mem_of_getElem? (i := 112) rfl) rfl
theorem mw_1_134 : Cond.fieldLink RX1 9 "CurveFalls$Fall" "kind" "I" ∈ gT := gT_1 (List.mem_of_getElem? (i := 134) rfl) rfl
theorem mw_1_135 : Cond.fieldLink RX7 177 "CurveFalls$Fall" "kind" "I" ∈ gT := gT_1 (List.mem_of_getElem? (i := 135) rfl) rfl
theorem mw_1_136 : Cond.fieldLink RX1 15 "CurveFalls$Fall" "index" "I" ∈ gT := gT_1 (List.mem_of_getElem? (i := 136) rfl) rfl
theorem mw_1_137 : Cond.fieldLink RX1 18 "CurveFalls$Fall" "exponent" "I" ∈ gT := gT_1 (List.mem_of_getElem? (i := 137) rfl) rfl
theorem mw_1_138 : Cond.fieldLink RX7 251 "CurveFalls$Fall" "exponent" "I" ∈ gT := gT_1 (List.mem_of_getElem? (i := 138) rfl) rfl
theorem mw_1_139 : Cond.fieldLink RX1 21 "CurveFalls$Fall" "components" "I" ∈ gT := gT_1 (List.mem_of_getElem? (i := 139) rfl) rfl
theorem mw_1_140 : Cond.fieldLink RX1 24 "CurveFalls$Fall" "owned" "I" ∈ gT := gT_1 (List.mem_of_getElem? (i := 140) rfl) rfl
theorem mw_1_141 : Cond.fieldLink RX7 186 "CurveFalls$Fall" "owned" "I" ∈ gT := gT_1 (List.mem_of_getElem? (i := 141) rfl) rfl
theorem mw_1_142 : Cond.fieldLink RX1 27 "CurveFalls$Fall" "times" "I" ∈ gT := gT_1 (List.mem_of_getElem? (i := 142) rfl) rfl
theorem mw_1_143 : Cond.fieldLink RX1 30 "CurveFalls$Fall" "split" "Z" ∈ gT := gT_1 (List.mem_of_getElem? (i := 143) rfl) rfl
theorem mw_1_144 : Cond.fieldLink RX7 180 "CurveFalls$Fall" "split" "Z" ∈ gT := gT_1 (List.mem_of_getElem? (i := 144) rfl) rfl
theorem mw_1_145 : Cond.fieldLink RX1 37 "CurveFalls$Fall" "work" "LCurveFalls$Equation;" ∈ gT := gT_1 (List.mem_of_getElem? (i := 145) rfl) rfl
theorem mw_1_146 : Cond.fieldLink RX1 41 "CurveFalls$Fall" "p" "I" ∈ gT := gT_1 (List.mem_of_getElem? (i := 146) rfl) rfl
theorem mw_1_172 : Cond.fieldLink RX6 11 "CurveFalls$SmallPoints" "xs" "[I" ∈ gT := gT_1 (List.mem_of_getElem? (i := 172) rfl) rfl
theorem mw_1_174 : Cond.fieldLink RX6 15 "CurveFalls$SmallPoints" "ys" "[I" ∈ gT := gT_1 (List.mem_of_getElem? (i := 174) rfl) rfl
theorem mw_1_176 : Cond.fieldLink RX6 18 "CurveFalls$SmallPoints" "many" "I" ∈ gT := gT_1 (List.mem_of_getElem? (i := 176) rfl) rfl
theorem mw_1_177 : Cond.fieldLink RX7 200 "CurveFalls$SmallPoints" "many" "I" ∈ gT := gT_1 (List.mem_of_getElem? (i := 177) rfl) rfl
theorem mw_1_185 : Cond.fieldLink RX7 11 "CurveFalls" "held" "[LCurveFalls$Held;" ∈ gT := gT_1 (List.mem_of_getElem? (i := 185) rfl) rfl
theorem mw_1_186 : Cond.fieldLink RX7 16 "CurveFalls" "size" "I" ∈ gT := gT_1 (List.mem_of_getElem? (i := 186) rfl) rfl
theorem mw_1_187 : Cond.fieldLink RX7 23 "CurveFalls" "draft" "LCurveFalls$Equation;" ∈ gT := gT_1 (List.mem_of_getElem? (i := 187) rfl) rfl
theorem mw_1_188 : Cond.fieldLink RX7 30 "CurveFalls" "fall" "LCurveFalls$Fall;" ∈ gT := gT_1 (List.mem_of_getElem? (i := 188) rfl) rfl
theorem mw_1_189 : Cond.fieldLink RX7 37 "CurveFalls" "smallPoints" "LCurveFalls$SmallPoints;" ∈ gT := gT_1 (List.mem_of_getElem? (i := 189) rfl) rfl
theorem mw_1_190 : Cond.fieldLink RX7 41 "CurveFalls" "smallPointsOf" "I" ∈ gT := gT_1 (List.mem_of_getElem? (i := 190) rfl) rfl
theorem mw_1_191 : Cond.fieldLink RX7 44 "CurveFalls" "squareRoots" "[I" ∈ gT := gT_1 (List.mem_of_getElem? (i := 191) rfl) rfl
theorem mw_1_2 : Cond.initialized RX2 ∈ gT := gT_1 (List.mem_of_getElem? (i := 2) rfl) rfl
theorem mw_1_208 : Cond.instanceMethod yX7_curve ∈ gT := gT_1 (List.mem_of_getElem? (i := 208) rfl) rfl
theorem mw_1_209 : Cond.selects RX7 yX7_curve yX7_curve ∈ gT := gT_1 (List.mem_of_getElem? (i := 209) rfl) rfl
theorem mw_1_210 : Cond.code yX7_curve cX7_curve 6 (some .int) ∈ gT := gT_1 (List.mem_of_getElem? (i := 210) rfl) rfl
theorem mw_1_211 : Cond.constantLong RX7 48 (9) ∈ gT := gT_1 (List.mem_of_getElem? (i := 211) rfl) rfl
theorem mw_1_212 : Cond.methodLink RX7 50 yX7_within ∈ gT := gT_1 (List.mem_of_getElem? (i := 212) rfl) rfl
theorem mw_1_213 : Cond.static yX7_within ∈ gT := gT_1 (List.mem_of_getElem? (i := 213) rfl) rfl
theorem mw_1_214 : Cond.code yX7_within cX7_within 4 (some .boolean) ∈ gT := gT_1 (List.mem_of_getElem? (i := 214) rfl) rfl
theorem mw_1_215 : Cond.constantLong RX7 54 (99) ∈ gT := gT_1 (List.mem_of_getElem? (i := 215) rfl) rfl
theorem mw_1_216 : Cond.methodLink RX7 56 yX0_put ∈ gT := gT_1 (List.mem_of_getElem? (i := 216) rfl) rfl
theorem mw_1_217 : Cond.instanceMethod yX0_put ∈ gT := gT_1 (List.mem_of_getElem? (i := 217) rfl) rfl
theorem mw_1_218 : Cond.selects RX0 yX0_put yX0_put ∈ gT := gT_1 (List.mem_of_getElem? (i := 218) rfl) rfl
theorem mw_1_219 : Cond.code yX0_put cX0_put 11 none ∈ gT := gT_1 (List.mem_of_getElem? (i := 219) rfl) rfl
theorem mw_1_220 : Cond.constantLong RX0 27 (4) ∈ gT := gT_1 (List.mem_of_getElem? (i := 220) rfl) rfl
theorem mw_1_221 : Cond.constantLong RX0 32 (2) ∈ gT := gT_1 (List.mem_of_getElem? (i := 221) rfl) rfl
theorem mw_1_222 : Cond.constantLong RX0 43 (24) ∈ gT := gT_1 (List.mem_of_getElem? (i := 222) rfl) rfl
theorem mw_1_223 : Cond.constantLong RX0 48 (36) ∈ gT := gT_1 (List.mem_of_getElem? (i := 223) rfl) rfl
theorem mw_1_224 : Cond.constantLong RX0 50 (216) ∈ gT := gT_1 (List.mem_of_getElem? (i := 224) rfl) rfl
theorem mw_1_225 : Cond.constantLong RX0 55 (8) ∈ gT := gT_1 (List.mem_of_getElem? (i := 225) rfl) rfl
theorem mw_1_226 : Cond.constantLong RX0 57 (27) ∈ gT := gT_1 (List.mem_of_getElem? (i := 226) rfl) rfl
theorem mw_1_227 : Cond.constantLong RX0 59 (9) ∈ gT := gT_1 (List.mem_of_getElem? (i := 227) rfl) rfl
theorem mw_1_228 : Cond.methodLink RX7 64 yX7_keepDraft ∈ gT := gT_1 (List.mem_of_getElem? (i := 228) rfl) rfl
theorem mw_1_230 : Cond.instanceMethod yX7_keepDraft ∈ gT := gT_1 (List.mem_of_getElem? (i := 230) rfl) rfl
theorem mw_1_231 : Cond.code yX7_keepDraft cX7_keepDraft 1 (some .int) ∈ gT := gT_1 (List.mem_of_getElem? (i := 231) rfl) rfl
theorem mw_1_232 : Cond.methodLink RX7 221 yX0_isWithinBounds ∈ gT := gT_1 (List.mem_of_getElem? (i := 232) rfl) rfl
theorem mw_1_233 : Cond.instanceMethod yX0_isWithinBounds ∈ gT := gT_1 (List.mem_of_getElem? (i := 233) rfl) rfl
theorem mw_1_234 : Cond.selects RX0 yX0_isWithinBounds yX0_isWithinBounds ∈ gT := gT_1 (List.mem_of_getElem? (i := 234) rfl) rfl
theorem mw_1_235 : Cond.code yX0_isWithinBounds cX0_isWithinBounds 1 (some .boolean) ∈ gT := gT_1 (List.mem_of_getElem? (i := 235) rfl) rfl
theorem mw_1_236 : Cond.constantLong RX0 83 (100000) ∈ gT := gT_1 (List.mem_of_getElem? (i := 236) rfl) rfl
theorem mw_1_238 : Cond.constantLong RX0 89 (1000000000000000000) ∈ gT := gT_1 (List.mem_of_getElem? (i := 238) rfl) rfl
theorem mw_1_239 : Cond.methodLink RX7 225 yX2_hold ∈ gT := gT_1 (List.mem_of_getElem? (i := 239) rfl) rfl
theorem mw_1_3 : Cond.initialized RX0 ∈ gT := gT_1 (List.mem_of_getElem? (i := 3) rfl) rfl
theorem mw_1_36 : Cond.fieldLink RX0 9 "CurveFalls$Equation" "a1" "J" ∈ gT := gT_1 (List.mem_of_getElem? (i := 36) rfl) rfl
theorem mw_1_37 : Cond.fieldLink RX1 169 "CurveFalls$Equation" "a1" "J" ∈ gT := gT_1 (List.mem_of_getElem? (i := 37) rfl) rfl
theorem mw_1_38 : Cond.fieldLink RX0 15 "CurveFalls$Equation" "a2" "J" ∈ gT := gT_1 (List.mem_of_getElem? (i := 38) rfl) rfl
theorem mw_1_39 : Cond.fieldLink RX1 81 "CurveFalls$Equation" "a2" "J" ∈ gT := gT_1 (List.mem_of_getElem? (i := 39) rfl) rfl
theorem mw_1_4 : Cond.initialized RX5 ∈ gT := gT_1 (List.mem_of_getElem? (i := 4) rfl) rfl
theorem mw_1_40 : Cond.fieldLink RX0 18 "CurveFalls$Equation" "a3" "J" ∈ gT := gT_1 (List.mem_of_getElem? (i := 40) rfl) rfl
theorem mw_1_41 : Cond.fieldLink RX1 120 "CurveFalls$Equation" "a3" "J" ∈ gT := gT_1 (List.mem_of_getElem? (i := 41) rfl) rfl
theorem mw_1_42 : Cond.fieldLink RX0 21 "CurveFalls$Equation" "a4" "J" ∈ gT := gT_1 (List.mem_of_getElem? (i := 42) rfl) rfl
theorem mw_1_43 : Cond.fieldLink RX1 88 "CurveFalls$Equation" "a4" "J" ∈ gT := gT_1 (List.mem_of_getElem? (i := 43) rfl) rfl
theorem mw_1_44 : Cond.fieldLink RX0 24 "CurveFalls$Equation" "a6" "J" ∈ gT := gT_1 (List.mem_of_getElem? (i := 44) rfl) rfl
theorem mw_1_45 : Cond.fieldLink RX1 91 "CurveFalls$Equation" "a6" "J" ∈ gT := gT_1 (List.mem_of_getElem? (i := 45) rfl) rfl
theorem mw_1_46 : Cond.fieldLink RX0 29 "CurveFalls$Equation" "b2" "J" ∈ gT := gT_1 (List.mem_of_getElem? (i := 46) rfl) rfl
theorem mw_1_47 : Cond.fieldLink RX1 139 "CurveFalls$Equation" "b2" "J" ∈ gT := gT_1 (List.mem_of_getElem? (i := 47) rfl) rfl
theorem mw_1_48 : Cond.fieldLink RX0 34 "CurveFalls$Equation" "b4" "J" ∈ gT := gT_1 (List.mem_of_getElem? (i := 48) rfl) rfl
theorem mw_1_49 : Cond.fieldLink RX0 37 "CurveFalls$Equation" "b6" "J" ∈ gT := gT_1 (List.mem_of_getElem? (i := 49) rfl) rfl
theorem mw_1_5 : Cond.initialized RX1 ∈ gT := gT_1 (List.mem_of_getElem? (i := 5) rfl) rfl
theorem mw_1_50 : Cond.fieldLink RX1 136 "CurveFalls$Equation" "b6" "J" ∈ gT := gT_1 (List.mem_of_getElem? (i := 50) rfl) rfl
theorem mw_1_51 : Cond.fieldLink RX0 40 "CurveFalls$Equation" "b8" "J" ∈ gT := gT_1 (List.mem_of_getElem? (i := 51) rfl) rfl
theorem mw_1_52 : Cond.fieldLink RX1 163 "CurveFalls$Equation" "b8" "J" ∈ gT := gT_1 (List.mem_of_getElem? (i := 52) rfl) rfl
theorem mw_1_53 : Cond.fieldLink RX2 38 "CurveFalls$Equation" "c4" "J" ∈ gT := gT_1 (List.mem_of_getElem? (i := 53) rfl) rfl
theorem mw_1_54 : Cond.fieldLink RX0 45 "CurveFalls$Equation" "c4" "J" ∈ gT := gT_1 (List.mem_of_getElem? (i := 54) rfl) rfl
theorem mw_1_55 : Cond.fieldLink RX1 57 "CurveFalls$Equation" "c4" "J" ∈ gT := gT_1 (List.mem_of_getElem? (i := 55) rfl) rfl
theorem mw_1_56 : Cond.fieldLink RX7 232 "CurveFalls$Equation" "c4" "J" ∈ gT := gT_1 (List.mem_of_getElem? (i := 56) rfl) rfl
theorem mw_1_57 : Cond.fieldLink RX2 41 "CurveFalls$Equation" "c6" "J" ∈ gT := gT_1 (List.mem_of_getElem? (i := 57) rfl) rfl
theorem mw_1_58 : Cond.fieldLink RX0 52 "CurveFalls$Equation" "c6" "J" ∈ gT := gT_1 (List.mem_of_getElem? (i := 58) rfl) rfl
theorem mw_1_59 : Cond.fieldLink RX1 125 "CurveFalls$Equation" "c6" "J" ∈ gT := gT_1 (List.mem_of_getElem? (i := 59) rfl) rfl
theorem mw_1_6 : Cond.initialized RX6 ∈ gT := gT_1 (List.mem_of_getElem? (i := 6) rfl) rfl
theorem mw_1_60 : Cond.fieldLink RX7 237 "CurveFalls$Equation" "c6" "J" ∈ gT := gT_1 (List.mem_of_getElem? (i := 60) rfl) rfl
theorem mw_1_61 : Cond.fieldLink RX2 44 "CurveFalls$Equation" "disc" "J" ∈ gT := gT_1 (List.mem_of_getElem? (i := 61) rfl) rfl
theorem mw_1_62 : Cond.fieldLink RX7 60 "CurveFalls$Equation" "disc" "J" ∈ gT := gT_1 (List.mem_of_getElem? (i := 62) rfl) rfl
theorem mw_1_63 : Cond.fieldLink RX0 61 "CurveFalls$Equation" "disc" "J" ∈ gT := gT_1 (List.mem_of_getElem? (i := 63) rfl) rfl
theorem mw_1_64 : Cond.fieldLink RX1 44 "CurveFalls$Equation" "disc" "J" ∈ gT := gT_1 (List.mem_of_getElem? (i := 64) rfl) rfl
theorem mw_1_7 : Cond.initialized RX8 ∈ gT := gT_1 (List.mem_of_getElem? (i := 7) rfl) rfl
theorem mw_1_8 : Cond.initialized RX3 ∈ gT := gT_1 (List.mem_of_getElem? (i := 8) rfl) rfl
theorem mw_1_9 : Cond.initialized RX4 ∈ gT := gT_1 (List.mem_of_getElem? (i := 9) rfl) rfl
theorem mw_1_96 : Cond.fieldLink RX5 9 "CurveFalls$Primes" "row" "[I" ∈ gT := gT_1 (List.mem_of_getElem? (i := 96) rfl) rfl
theorem mw_1_97 : Cond.fieldLink RX5 15 "CurveFalls$Primes" "many" "I" ∈ gT := gT_1 (List.mem_of_getElem? (i := 97) rfl) rfl
theorem mw_1_98 : Cond.fieldLink RX7 154 "CurveFalls$Primes" "many" "I" ∈ gT := gT_1 (List.mem_of_getElem? (i := 98) rfl) rfl
theorem mw_2_0 : Cond.instanceMethod yX2_hold ∈ gT := gT_2 (List.mem_of_getElem? (i := 0) rfl) rfl
theorem mw_2_1 : Cond.selects RX2 yX2_hold yX2_hold ∈ gT := gT_2 (List.mem_of_getElem? (i := 1) rfl) rfl
theorem mw_2_10 : Cond.code yX3_lower cX3_lower 18 (some .long) ∈ gT := gT_2 (List.mem_of_getElem? (i := 10) rfl) rfl
theorem mw_2_100 : Cond.selects RX7 yX7_twist yX7_twist ∈ gT := gT_2 (List.mem_of_getElem? (i := 100) rfl) rfl
theorem mw_2_101 : Cond.code yX7_twist cX7_twist 3 (some .int) ∈ gT := gT_2 (List.mem_of_getElem? (i := 101) rfl) rfl
theorem mw_2_102 : Cond.methodLink RX7 115 yX7_isTwister ∈ gT := gT_2 (List.mem_of_getElem? (i := 102) rfl) rfl
theorem mw_2_103 : Cond.static yX7_isTwister ∈ gT := gT_2 (List.mem_of_getElem? (i := 103) rfl) rfl
theorem mw_2_104 : Cond.code yX7_isTwister cX7_isTwister 5 (some .boolean) ∈ gT := gT_2 (List.mem_of_getElem? (i := 104) rfl) rfl
theorem mw_2_105 : Cond.fieldLink RX7 189 "CurveFalls" "TWISTERS" "[I" ∈ gT := gT_2 (List.mem_of_getElem? (i := 105) rfl) rfl
theorem mw_2_107 : Cond.methodLink RX7 118 yX7_hasTwists ∈ gT := gT_2 (List.mem_of_getElem? (i := 107) rfl) rfl
theorem mw_2_109 : Cond.instanceMethod yX7_hasTwists ∈ gT := gT_2 (List.mem_of_getElem? (i := 109) rfl) rfl
theorem mw_2_110 : Cond.code yX7_hasTwists cX7_hasTwists 2 (some .boolean) ∈ gT := gT_2 (List.mem_of_getElem? (i := 110) rfl) rfl
theorem mw_2_111 : Cond.constantLong RX7 228 (2000000000) ∈ gT := gT_2 (List.mem_of_getElem? (i := 111) rfl) rfl
theorem mw_2_112 : Cond.methodLink RX7 121 yX7_draftTwist ∈ gT := gT_2 (List.mem_of_getElem? (i := 112) rfl) rfl
theorem mw_2_114 : Cond.instanceMethod yX7_draftTwist ∈ gT := gT_2 (List.mem_of_getElem? (i := 114) rfl) rfl
theorem mw_2_115 : Cond.code yX7_draftTwist cX7_draftTwist 8 none ∈ gT := gT_2 (List.mem_of_getElem? (i := 115) rfl) rfl
theorem mw_2_116 : Cond.constantLong RX7 230 (16) ∈ gT := gT_2 (List.mem_of_getElem? (i := 116) rfl) rfl
theorem mw_2_117 : Cond.constantLong RX7 235 (64) ∈ gT := gT_2 (List.mem_of_getElem? (i := 117) rfl) rfl
theorem mw_2_118 : Cond.constantLong RX7 240 (4096) ∈ gT := gT_2 (List.mem_of_getElem? (i := 118) rfl) rfl
theorem mw_2_119 : Cond.methodLink RX7 242 yX3_lower ∈ gT := gT_2 (List.mem_of_getElem? (i := 119) rfl) rfl
theorem mw_2_121 : Cond.instanceMethod yX7_drop ∈ gT := gT_2 (List.mem_of_getElem? (i := 121) rfl) rfl
theorem mw_2_122 : Cond.selects RX7 yX7_drop yX7_drop ∈ gT := gT_2 (List.mem_of_getElem? (i := 122) rfl) rfl
theorem mw_2_123 : Cond.code yX7_drop cX7_drop 1 (some .int) ∈ gT := gT_2 (List.mem_of_getElem? (i := 123) rfl) rfl
theorem mw_2_125 : Cond.instanceMethod yX7_at ∈ gT := gT_2 (List.mem_of_getElem? (i := 125) rfl) rfl
theorem mw_2_126 : Cond.selects RX7 yX7_at yX7_at ∈ gT := gT_2 (List.mem_of_getElem? (i := 126) rfl) rfl
theorem mw_2_127 : Cond.code yX7_at cX7_at 4 (some .int) ∈ gT := gT_2 (List.mem_of_getElem? (i := 127) rfl) rfl
theorem mw_2_128 : Cond.constant RX7 132 (999983) ∈ gT := gT_2 (List.mem_of_getElem? (i := 128) rfl) rfl
theorem mw_2_129 : Cond.methodLink RX7 133 yX4_isPrime ∈ gT := gT_2 (List.mem_of_getElem? (i := 129) rfl) rfl
theorem mw_2_13 : Cond.methodLink RX3 13 yX3_mostShrinks ∈ gT := gT_2 (List.mem_of_getElem? (i := 13) rfl) rfl
theorem mw_2_130 : Cond.static yX4_isPrime ∈ gT := gT_2 (List.mem_of_getElem? (i := 130) rfl) rfl
theorem mw_2_131 : Cond.code yX4_isPrime cX4_isPrime 2 (some .boolean) ∈ gT := gT_2 (List.mem_of_getElem? (i := 131) rfl) rfl
theorem mw_2_132 : Cond.constant RX4 9 (46340) ∈ gT := gT_2 (List.mem_of_getElem? (i := 132) rfl) rfl
theorem mw_2_133 : Cond.methodLink RX7 139 yX4_times ∈ gT := gT_2 (List.mem_of_getElem? (i := 133) rfl) rfl
theorem mw_2_134 : Cond.methodLink RX7 143 yX1_reckon ∈ gT := gT_2 (List.mem_of_getElem? (i := 134) rfl) rfl
theorem mw_2_135 : Cond.instanceMethod yX1_reckon ∈ gT := gT_2 (List.mem_of_getElem? (i := 135) rfl) rfl
theorem mw_2_136 : Cond.selects RX1 yX1_reckon yX1_reckon ∈ gT := gT_2 (List.mem_of_getElem? (i := 136) rfl) rfl
theorem mw_2_137 : Cond.code yX1_reckon cX1_reckon 9 none ∈ gT := gT_2 (List.mem_of_getElem? (i := 137) rfl) rfl
theorem mw_2_138 : Cond.methodLink RX1 48 yX4_times ∈ gT := gT_2 (List.mem_of_getElem? (i := 138) rfl) rfl
theorem mw_2_139 : Cond.methodLink RX1 53 yX1_tell ∈ gT := gT_2 (List.mem_of_getElem? (i := 139) rfl) rfl
theorem mw_2_14 : Cond.static yX3_mostShrinks ∈ gT := gT_2 (List.mem_of_getElem? (i := 14) rfl) rfl
theorem mw_2_141 : Cond.instanceMethod yX1_tell ∈ gT := gT_2 (List.mem_of_getElem? (i := 141) rfl) rfl
theorem mw_2_142 : Cond.code yX1_tell cX1_tell 5 none ∈ gT := gT_2 (List.mem_of_getElem? (i := 142) rfl) rfl
theorem mw_2_143 : Cond.methodLink RX1 60 yX4_rest ∈ gT := gT_2 (List.mem_of_getElem? (i := 143) rfl) rfl
theorem mw_2_144 : Cond.methodLink RX1 64 yX1_tellNode ∈ gT := gT_2 (List.mem_of_getElem? (i := 144) rfl) rfl
theorem mw_2_146 : Cond.instanceMethod yX1_tellNode ∈ gT := gT_2 (List.mem_of_getElem? (i := 146) rfl) rfl
theorem mw_2_147 : Cond.code yX1_tellNode cX1_tellNode 3 none ∈ gT := gT_2 (List.mem_of_getElem? (i := 147) rfl) rfl
theorem mw_2_148 : Cond.constantLong RX1 123 (2) ∈ gT := gT_2 (List.mem_of_getElem? (i := 148) rfl) rfl
theorem mw_2_149 : Cond.methodLink RX1 128 yX4_isSquareAt ∈ gT := gT_2 (List.mem_of_getElem? (i := 149) rfl) rfl
theorem mw_2_15 : Cond.code yX3_mostShrinks cX3_mostShrinks 9 (some .int) ∈ gT := gT_2 (List.mem_of_getElem? (i := 15) rfl) rfl
theorem mw_2_150 : Cond.static yX4_isSquareAt ∈ gT := gT_2 (List.mem_of_getElem? (i := 150) rfl) rfl
theorem mw_2_151 : Cond.code yX4_isSquareAt cX4_isSquareAt 4 (some .boolean) ∈ gT := gT_2 (List.mem_of_getElem? (i := 151) rfl) rfl
theorem mw_2_152 : Cond.methodLink RX4 10 yX4_powerRest ∈ gT := gT_2 (List.mem_of_getElem? (i := 152) rfl) rfl
theorem mw_2_153 : Cond.static yX4_powerRest ∈ gT := gT_2 (List.mem_of_getElem? (i := 153) rfl) rfl
theorem mw_2_154 : Cond.code yX4_powerRest cX4_powerRest 12 (some .long) ∈ gT := gT_2 (List.mem_of_getElem? (i := 154) rfl) rfl
theorem mw_2_155 : Cond.methodLink RX1 68 yX0_take ∈ gT := gT_2 (List.mem_of_getElem? (i := 155) rfl) rfl
theorem mw_2_156 : Cond.methodLink RX1 71 yX1_moveSingularPoint ∈ gT := gT_2 (List.mem_of_getElem? (i := 156) rfl) rfl
theorem mw_2_158 : Cond.instanceMethod yX1_moveSingularPoint ∈ gT := gT_2 (List.mem_of_getElem? (i := 158) rfl) rfl
theorem mw_2_159 : Cond.code yX1_moveSingularPoint cX1_moveSingularPoint 5 none ∈ gT := gT_2 (List.mem_of_getElem? (i := 159) rfl) rfl
theorem mw_2_16 : Cond.methodLink RX3 37 yX4_times ∈ gT := gT_2 (List.mem_of_getElem? (i := 16) rfl) rfl
theorem mw_2_160 : Cond.methodLink RX1 132 yX0_rightAt ∈ gT := gT_2 (List.mem_of_getElem? (i := 160) rfl) rfl
theorem mw_2_161 : Cond.instanceMethod yX0_rightAt ∈ gT := gT_2 (List.mem_of_getElem? (i := 161) rfl) rfl
theorem mw_2_162 : Cond.selects RX0 yX0_rightAt yX0_rightAt ∈ gT := gT_2 (List.mem_of_getElem? (i := 162) rfl) rfl
theorem mw_2_163 : Cond.code yX0_rightAt cX0_rightAt 3 (some .long) ∈ gT := gT_2 (List.mem_of_getElem? (i := 163) rfl) rfl
theorem mw_2_164 : Cond.constantLong RX1 112 (3) ∈ gT := gT_2 (List.mem_of_getElem? (i := 164) rfl) rfl
theorem mw_2_165 : Cond.constantLong RX1 142 (12) ∈ gT := gT_2 (List.mem_of_getElem? (i := 165) rfl) rfl
theorem mw_2_166 : Cond.methodLink RX1 144 yX4_powerRest ∈ gT := gT_2 (List.mem_of_getElem? (i := 166) rfl) rfl
theorem mw_2_167 : Cond.methodLink RX1 147 yX0_slopeAt ∈ gT := gT_2 (List.mem_of_getElem? (i := 167) rfl) rfl
theorem mw_2_168 : Cond.instanceMethod yX0_slopeAt ∈ gT := gT_2 (List.mem_of_getElem? (i := 168) rfl) rfl
theorem mw_2_169 : Cond.selects RX0 yX0_slopeAt yX0_slopeAt ∈ gT := gT_2 (List.mem_of_getElem? (i := 169) rfl) rfl
theorem mw_2_17 : Cond.static yX4_times ∈ gT := gT_2 (List.mem_of_getElem? (i := 17) rfl) rfl
theorem mw_2_170 : Cond.code yX0_slopeAt cX0_slopeAt 3 (some .long) ∈ gT := gT_2 (List.mem_of_getElem? (i := 170) rfl) rfl
theorem mw_2_171 : Cond.methodLink RX1 150 yX1_half ∈ gT := gT_2 (List.mem_of_getElem? (i := 171) rfl) rfl
theorem mw_2_173 : Cond.instanceMethod yX1_half ∈ gT := gT_2 (List.mem_of_getElem? (i := 173) rfl) rfl
theorem mw_2_174 : Cond.code yX1_half cX1_half 3 (some .long) ∈ gT := gT_2 (List.mem_of_getElem? (i := 174) rfl) rfl
theorem mw_2_175 : Cond.methodLink RX1 108 yX0_shift ∈ gT := gT_2 (List.mem_of_getElem? (i := 175) rfl) rfl
theorem mw_2_176 : Cond.methodLink RX1 74 yX1_tellEarlyKind ∈ gT := gT_2 (List.mem_of_getElem? (i := 176) rfl) rfl
theorem mw_2_178 : Cond.instanceMethod yX1_tellEarlyKind ∈ gT := gT_2 (List.mem_of_getElem? (i := 178) rfl) rfl
theorem mw_2_179 : Cond.code yX1_tellEarlyKind cX1_tellEarlyKind 2 (some .boolean) ∈ gT := gT_2 (List.mem_of_getElem? (i := 179) rfl) rfl
theorem mw_2_18 : Cond.code yX4_times cX4_times 7 (some .int) ∈ gT := gT_2 (List.mem_of_getElem? (i := 18) rfl) rfl
theorem mw_2_180 : Cond.methodLink RX1 159 yX1_goesIn ∈ gT := gT_2 (List.mem_of_getElem? (i := 180) rfl) rfl
theorem mw_2_182 : Cond.instanceMethod yX1_goesIn ∈ gT := gT_2 (List.mem_of_getElem? (i := 182) rfl) rfl
theorem mw_2_183 : Cond.code yX1_goesIn cX1_goesIn 4 (some .boolean) ∈ gT := gT_2 (List.mem_of_getElem? (i := 183) rfl) rfl
theorem mw_2_184 : Cond.methodLink RX1 153 yX4_power ∈ gT := gT_2 (List.mem_of_getElem? (i := 184) rfl) rfl
theorem mw_2_185 : Cond.methodLink RX1 84 yX1_part ∈ gT := gT_2 (List.mem_of_getElem? (i := 185) rfl) rfl
theorem mw_2_187 : Cond.instanceMethod yX1_part ∈ gT := gT_2 (List.mem_of_getElem? (i := 187) rfl) rfl
theorem mw_2_188 : Cond.code yX1_part cX1_part 4 (some .long) ∈ gT := gT_2 (List.mem_of_getElem? (i := 188) rfl) rfl
theorem mw_2_189 : Cond.methodLink RX1 156 yX4_quotient ∈ gT := gT_2 (List.mem_of_getElem? (i := 189) rfl) rfl
theorem mw_2_19 : Cond.constantLong RX4 7 (2) ∈ gT := gT_2 (List.mem_of_getElem? (i := 19) rfl) rfl
theorem mw_2_190 : Cond.methodLink RX1 166 yX1_rootOf ∈ gT := gT_2 (List.mem_of_getElem? (i := 190) rfl) rfl
theorem mw_2_192 : Cond.instanceMethod yX1_rootOf ∈ gT := gT_2 (List.mem_of_getElem? (i := 192) rfl) rfl
theorem mw_2_193 : Cond.code yX1_rootOf cX1_rootOf 8 (some .int) ∈ gT := gT_2 (List.mem_of_getElem? (i := 193) rfl) rfl
theorem mw_2_194 : Cond.methodLink RX1 78 yX1_moveForCubic ∈ gT := gT_2 (List.mem_of_getElem? (i := 194) rfl) rfl
theorem mw_2_196 : Cond.instanceMethod yX1_moveForCubic ∈ gT := gT_2 (List.mem_of_getElem? (i := 196) rfl) rfl
theorem mw_2_197 : Cond.code yX1_moveForCubic cX1_moveForCubic 1 none ∈ gT := gT_2 (List.mem_of_getElem? (i := 197) rfl) rfl
theorem mw_2_198 : Cond.constantLong RX1 94 (18) ∈ gT := gT_2 (List.mem_of_getElem? (i := 198) rfl) rfl
theorem mw_2_199 : Cond.constantLong RX1 96 (4) ∈ gT := gT_2 (List.mem_of_getElem? (i := 199) rfl) rfl
theorem mw_2_2 : Cond.code yX2_hold cX2_hold 2 none ∈ gT := gT_2 (List.mem_of_getElem? (i := 2) rfl) rfl
theorem mw_2_20 : Cond.methodLink RX3 41 yJ9_min_7cf53 ∈ gT := gT_2 (List.mem_of_getElem? (i := 20) rfl) rfl
theorem mw_2_200 : Cond.constantLong RX1 98 (27) ∈ gT := gT_2 (List.mem_of_getElem? (i := 200) rfl) rfl
theorem mw_2_201 : Cond.methodLink RX1 100 yX1_cubicRoots ∈ gT := gT_2 (List.mem_of_getElem? (i := 201) rfl) rfl
theorem mw_2_203 : Cond.instanceMethod yX1_cubicRoots ∈ gT := gT_2 (List.mem_of_getElem? (i := 203) rfl) rfl
theorem mw_2_204 : Cond.code yX1_cubicRoots cX1_cubicRoots 9 (some .int) ∈ gT := gT_2 (List.mem_of_getElem? (i := 204) rfl) rfl
theorem mw_2_205 : Cond.methodLink RX1 172 yX1_cubicAt ∈ gT := gT_2 (List.mem_of_getElem? (i := 205) rfl) rfl
theorem mw_2_207 : Cond.instanceMethod yX1_cubicAt ∈ gT := gT_2 (List.mem_of_getElem? (i := 207) rfl) rfl
theorem mw_2_208 : Cond.code yX1_cubicAt cX1_cubicAt 9 (some .long) ∈ gT := gT_2 (List.mem_of_getElem? (i := 208) rfl) rfl
theorem mw_2_209 : Cond.methodLink RX1 104 yX1_multipleRoot ∈ gT := gT_2 (List.mem_of_getElem? (i := 209) rfl) rfl
theorem mw_2_21 : Cond.static yJ9_min_7cf53 ∈ gT := gT_2 (List.mem_of_getElem? (i := 21) rfl) rfl
theorem mw_2_211 : Cond.instanceMethod yX1_multipleRoot ∈ gT := gT_2 (List.mem_of_getElem? (i := 211) rfl) rfl
theorem mw_2_212 : Cond.code yX1_multipleRoot cX1_multipleRoot 8 (some .long) ∈ gT := gT_2 (List.mem_of_getElem? (i := 212) rfl) rfl
theorem mw_2_213 : Cond.methodLink RX1 114 yX1_tellByTurns ∈ gT := gT_2 (List.mem_of_getElem? (i := 213) rfl) rfl
theorem mw_2_215 : Cond.instanceMethod yX1_tellByTurns ∈ gT := gT_2 (List.mem_of_getElem? (i := 215) rfl) rfl
theorem mw_2_216 : Cond.code yX1_tellByTurns cX1_tellByTurns 11 none ∈ gT := gT_2 (List.mem_of_getElem? (i := 216) rfl) rfl
theorem mw_2_217 : Cond.methodLink RX1 176 yX1_hasUnlikeRoots ∈ gT := gT_2 (List.mem_of_getElem? (i := 217) rfl) rfl
theorem mw_2_219 : Cond.instanceMethod yX1_hasUnlikeRoots ∈ gT := gT_2 (List.mem_of_getElem? (i := 219) rfl) rfl
theorem mw_2_22 : Cond.code yJ9_min_7cf53 cJ9_min_7cf53 2 (some .int) ∈ gT := gT_2 (List.mem_of_getElem? (i := 22) rfl) rfl
theorem mw_2_220 : Cond.code yX1_hasUnlikeRoots cX1_hasUnlikeRoots 7 (some .boolean) ∈ gT := gT_2 (List.mem_of_getElem? (i := 220) rfl) rfl
theorem mw_2_221 : Cond.methodLink RX1 117 yX1_tellLateKind ∈ gT := gT_2 (List.mem_of_getElem? (i := 221) rfl) rfl
theorem mw_2_223 : Cond.instanceMethod yX1_tellLateKind ∈ gT := gT_2 (List.mem_of_getElem? (i := 223) rfl) rfl
theorem mw_2_224 : Cond.code yX1_tellLateKind cX1_tellLateKind 6 none ∈ gT := gT_2 (List.mem_of_getElem? (i := 224) rfl) rfl
theorem mw_2_225 : Cond.methodLink RX7 147 yX1_value ∈ gT := gT_2 (List.mem_of_getElem? (i := 225) rfl) rfl
theorem mw_2_226 : Cond.instanceMethod yX1_value ∈ gT := gT_2 (List.mem_of_getElem? (i := 226) rfl) rfl
theorem mw_2_227 : Cond.selects RX1 yX1_value yX1_value ∈ gT := gT_2 (List.mem_of_getElem? (i := 227) rfl) rfl
theorem mw_2_228 : Cond.code yX1_value cX1_value 2 (some .int) ∈ gT := gT_2 (List.mem_of_getElem? (i := 228) rfl) rfl
theorem mw_2_23 : Cond.methodLink RX3 19 yX3_shrunk ∈ gT := gT_2 (List.mem_of_getElem? (i := 23) rfl) rfl
theorem mw_2_230 : Cond.instanceMethod yX7_prime ∈ gT := gT_2 (List.mem_of_getElem? (i := 230) rfl) rfl
theorem mw_2_231 : Cond.selects RX7 yX7_prime yX7_prime ∈ gT := gT_2 (List.mem_of_getElem? (i := 231) rfl) rfl
theorem mw_2_232 : Cond.code yX7_prime cX7_prime 4 (some .int) ∈ gT := gT_2 (List.mem_of_getElem? (i := 232) rfl) rfl
theorem mw_2_233 : Cond.methodLink RX7 150 yX2_primesOfDisc ∈ gT := gT_2 (List.mem_of_getElem? (i := 233) rfl) rfl
theorem mw_2_234 : Cond.instanceMethod yX2_primesOfDisc ∈ gT := gT_2 (List.mem_of_getElem? (i := 234) rfl) rfl
theorem mw_2_235 : Cond.selects RX2 yX2_primesOfDisc yX2_primesOfDisc ∈ gT := gT_2 (List.mem_of_getElem? (i := 235) rfl) rfl
theorem mw_2_236 : Cond.code yX2_primesOfDisc cX2_primesOfDisc 1 (some (.object "CurveFalls$Primes")) ∈ gT := gT_2 (List.mem_of_getElem? (i := 236) rfl) rfl
theorem mw_2_237 : Cond.methodLink RX2 53 yX5_find ∈ gT := gT_2 (List.mem_of_getElem? (i := 237) rfl) rfl
theorem mw_2_238 : Cond.instanceMethod yX5_find ∈ gT := gT_2 (List.mem_of_getElem? (i := 238) rfl) rfl
theorem mw_2_239 : Cond.selects RX5 yX5_find yX5_find ∈ gT := gT_2 (List.mem_of_getElem? (i := 239) rfl) rfl
theorem mw_2_24 : Cond.static yX3_shrunk ∈ gT := gT_2 (List.mem_of_getElem? (i := 24) rfl) rfl
theorem mw_2_25 : Cond.code yX3_shrunk cX3_shrunk 5 (some .long) ∈ gT := gT_2 (List.mem_of_getElem? (i := 25) rfl) rfl
theorem mw_2_26 : Cond.methodLink RX3 27 yX4_power ∈ gT := gT_2 (List.mem_of_getElem? (i := 26) rfl) rfl
theorem mw_2_27 : Cond.static yX4_power ∈ gT := gT_2 (List.mem_of_getElem? (i := 27) rfl) rfl
theorem mw_2_28 : Cond.code yX4_power cX4_power 6 (some .long) ∈ gT := gT_2 (List.mem_of_getElem? (i := 28) rfl) rfl
theorem mw_2_29 : Cond.methodLink RX3 47 yX4_quotient ∈ gT := gT_2 (List.mem_of_getElem? (i := 29) rfl) rfl
theorem mw_2_3 : Cond.methodLink RX2 34 yX0_take ∈ gT := gT_2 (List.mem_of_getElem? (i := 3) rfl) rfl
theorem mw_2_30 : Cond.static yX4_quotient ∈ gT := gT_2 (List.mem_of_getElem? (i := 30) rfl) rfl
theorem mw_2_31 : Cond.code yX4_quotient cX4_quotient 4 (some .long) ∈ gT := gT_2 (List.mem_of_getElem? (i := 31) rfl) rfl
theorem mw_2_32 : Cond.methodLink RX3 23 yX3_isWhole ∈ gT := gT_2 (List.mem_of_getElem? (i := 32) rfl) rfl
theorem mw_2_33 : Cond.static yX3_isWhole ∈ gT := gT_2 (List.mem_of_getElem? (i := 33) rfl) rfl
theorem mw_2_34 : Cond.code yX3_isWhole cX3_isWhole 7 (some .boolean) ∈ gT := gT_2 (List.mem_of_getElem? (i := 34) rfl) rfl
theorem mw_2_35 : Cond.constantLong RX3 51 (32) ∈ gT := gT_2 (List.mem_of_getElem? (i := 35) rfl) rfl
theorem mw_2_36 : Cond.methodLink RX3 53 yX4_rest ∈ gT := gT_2 (List.mem_of_getElem? (i := 36) rfl) rfl
theorem mw_2_37 : Cond.static yX4_rest ∈ gT := gT_2 (List.mem_of_getElem? (i := 37) rfl) rfl
theorem mw_2_38 : Cond.code yX4_rest cX4_rest 6 (some .long) ∈ gT := gT_2 (List.mem_of_getElem? (i := 38) rfl) rfl
theorem mw_2_39 : Cond.constantLong RX3 56 (4) ∈ gT := gT_2 (List.mem_of_getElem? (i := 39) rfl) rfl
theorem mw_2_4 : Cond.instanceMethod yX0_take ∈ gT := gT_2 (List.mem_of_getElem? (i := 4) rfl) rfl
theorem mw_2_40 : Cond.constantLong RX3 58 (3) ∈ gT := gT_2 (List.mem_of_getElem? (i := 40) rfl) rfl
theorem mw_2_41 : Cond.constantLong RX3 60 (16) ∈ gT := gT_2 (List.mem_of_getElem? (i := 41) rfl) rfl
theorem mw_2_42 : Cond.constantLong RX3 62 (8) ∈ gT := gT_2 (List.mem_of_getElem? (i := 42) rfl) rfl
theorem mw_2_43 : Cond.constantLong RX3 64 (9) ∈ gT := gT_2 (List.mem_of_getElem? (i := 43) rfl) rfl
theorem mw_2_44 : Cond.constantLong RX3 66 (27) ∈ gT := gT_2 (List.mem_of_getElem? (i := 44) rfl) rfl
theorem mw_2_45 : Cond.methodLink RX3 33 yX3_build ∈ gT := gT_2 (List.mem_of_getElem? (i := 45) rfl) rfl
theorem mw_2_46 : Cond.static yX3_build ∈ gT := gT_2 (List.mem_of_getElem? (i := 46) rfl) rfl
theorem mw_2_47 : Cond.code yX3_build cX3_build 15 none ∈ gT := gT_2 (List.mem_of_getElem? (i := 47) rfl) rfl
theorem mw_2_48 : Cond.constantLong RX3 68 (12) ∈ gT := gT_2 (List.mem_of_getElem? (i := 48) rfl) rfl
theorem mw_2_49 : Cond.constantLong RX3 70 (6) ∈ gT := gT_2 (List.mem_of_getElem? (i := 49) rfl) rfl
theorem mw_2_5 : Cond.selects RX0 yX0_take yX0_take ∈ gT := gT_2 (List.mem_of_getElem? (i := 5) rfl) rfl
theorem mw_2_50 : Cond.constantLong RX3 72 (24) ∈ gT := gT_2 (List.mem_of_getElem? (i := 50) rfl) rfl
theorem mw_2_51 : Cond.constantLong RX3 74 (36) ∈ gT := gT_2 (List.mem_of_getElem? (i := 51) rfl) rfl
theorem mw_2_52 : Cond.constantLong RX3 76 (216) ∈ gT := gT_2 (List.mem_of_getElem? (i := 52) rfl) rfl
theorem mw_2_53 : Cond.constantLong RX3 78 (2) ∈ gT := gT_2 (List.mem_of_getElem? (i := 53) rfl) rfl
theorem mw_2_54 : Cond.methodLink RX3 80 yX0_put ∈ gT := gT_2 (List.mem_of_getElem? (i := 54) rfl) rfl
theorem mw_2_56 : Cond.instanceMethod yX7_change ∈ gT := gT_2 (List.mem_of_getElem? (i := 56) rfl) rfl
theorem mw_2_57 : Cond.selects RX7 yX7_change yX7_change ∈ gT := gT_2 (List.mem_of_getElem? (i := 57) rfl) rfl
theorem mw_2_58 : Cond.code yX7_change cX7_change 5 (some .int) ∈ gT := gT_2 (List.mem_of_getElem? (i := 58) rfl) rfl
theorem mw_2_59 : Cond.methodLink RX7 68 yX7_there ∈ gT := gT_2 (List.mem_of_getElem? (i := 59) rfl) rfl
theorem mw_2_6 : Cond.code yX0_take cX0_take 2 none ∈ gT := gT_2 (List.mem_of_getElem? (i := 6) rfl) rfl
theorem mw_2_61 : Cond.instanceMethod yX7_there ∈ gT := gT_2 (List.mem_of_getElem? (i := 61) rfl) rfl
theorem mw_2_62 : Cond.code yX7_there cX7_there 2 (some .boolean) ∈ gT := gT_2 (List.mem_of_getElem? (i := 62) rfl) rfl
theorem mw_2_63 : Cond.methodLink RX7 75 yX0_take ∈ gT := gT_2 (List.mem_of_getElem? (i := 63) rfl) rfl
theorem mw_2_64 : Cond.methodLink RX7 79 yX0_shift ∈ gT := gT_2 (List.mem_of_getElem? (i := 64) rfl) rfl
theorem mw_2_65 : Cond.instanceMethod yX0_shift ∈ gT := gT_2 (List.mem_of_getElem? (i := 65) rfl) rfl
theorem mw_2_66 : Cond.selects RX0 yX0_shift yX0_shift ∈ gT := gT_2 (List.mem_of_getElem? (i := 66) rfl) rfl
theorem mw_2_67 : Cond.code yX0_shift cX0_shift 7 none ∈ gT := gT_2 (List.mem_of_getElem? (i := 67) rfl) rfl
theorem mw_2_68 : Cond.constantLong RX0 68 (3) ∈ gT := gT_2 (List.mem_of_getElem? (i := 68) rfl) rfl
theorem mw_2_7 : Cond.methodLink RX0 64 yX0_put ∈ gT := gT_2 (List.mem_of_getElem? (i := 7) rfl) rfl
theorem mw_2_70 : Cond.instanceMethod yX7_scale ∈ gT := gT_2 (List.mem_of_getElem? (i := 70) rfl) rfl
theorem mw_2_71 : Cond.selects RX7 yX7_scale yX7_scale ∈ gT := gT_2 (List.mem_of_getElem? (i := 71) rfl) rfl
theorem mw_2_72 : Cond.code yX7_scale cX7_scale 5 (some .int) ∈ gT := gT_2 (List.mem_of_getElem? (i := 72) rfl) rfl
theorem mw_2_73 : Cond.methodLink RX7 83 yJ9_abs_067f4 ∈ gT := gT_2 (List.mem_of_getElem? (i := 73) rfl) rfl
theorem mw_2_74 : Cond.static yJ9_abs_067f4 ∈ gT := gT_2 (List.mem_of_getElem? (i := 74) rfl) rfl
theorem mw_2_75 : Cond.code yJ9_abs_067f4 cJ9_abs_067f4 2 (some .long) ∈ gT := gT_2 (List.mem_of_getElem? (i := 75) rfl) rfl
theorem mw_2_76 : Cond.constantLong RX7 89 (1000000000000000000) ∈ gT := gT_2 (List.mem_of_getElem? (i := 76) rfl) rfl
theorem mw_2_77 : Cond.methodLink RX7 91 yX4_power ∈ gT := gT_2 (List.mem_of_getElem? (i := 77) rfl) rfl
theorem mw_2_78 : Cond.methodLink RX7 97 yX4_quotient ∈ gT := gT_2 (List.mem_of_getElem? (i := 78) rfl) rfl
theorem mw_2_79 : Cond.methodLink RX7 101 yX0_grow ∈ gT := gT_2 (List.mem_of_getElem? (i := 79) rfl) rfl
theorem mw_2_8 : Cond.methodLink RX2 47 yX3_lower ∈ gT := gT_2 (List.mem_of_getElem? (i := 8) rfl) rfl
theorem mw_2_80 : Cond.instanceMethod yX0_grow ∈ gT := gT_2 (List.mem_of_getElem? (i := 80) rfl) rfl
theorem mw_2_81 : Cond.selects RX0 yX0_grow yX0_grow ∈ gT := gT_2 (List.mem_of_getElem? (i := 81) rfl) rfl
theorem mw_2_82 : Cond.code yX0_grow cX0_grow 6 none ∈ gT := gT_2 (List.mem_of_getElem? (i := 82) rfl) rfl
theorem mw_2_83 : Cond.methodLink RX7 105 yX0_canShrink ∈ gT := gT_2 (List.mem_of_getElem? (i := 83) rfl) rfl
theorem mw_2_84 : Cond.instanceMethod yX0_canShrink ∈ gT := gT_2 (List.mem_of_getElem? (i := 84) rfl) rfl
theorem mw_2_85 : Cond.selects RX0 yX0_canShrink yX0_canShrink ∈ gT := gT_2 (List.mem_of_getElem? (i := 85) rfl) rfl
theorem mw_2_86 : Cond.code yX0_canShrink cX0_canShrink 3 (some .boolean) ∈ gT := gT_2 (List.mem_of_getElem? (i := 86) rfl) rfl
theorem mw_2_87 : Cond.methodLink RX0 70 yX4_rest ∈ gT := gT_2 (List.mem_of_getElem? (i := 87) rfl) rfl
theorem mw_2_88 : Cond.methodLink RX0 76 yX4_power ∈ gT := gT_2 (List.mem_of_getElem? (i := 88) rfl) rfl
theorem mw_2_89 : Cond.methodLink RX7 109 yX0_shrink ∈ gT := gT_2 (List.mem_of_getElem? (i := 89) rfl) rfl
theorem mw_2_9 : Cond.static yX3_lower ∈ gT := gT_2 (List.mem_of_getElem? (i := 9) rfl) rfl
theorem mw_2_90 : Cond.instanceMethod yX0_shrink ∈ gT := gT_2 (List.mem_of_getElem? (i := 90) rfl) rfl
theorem mw_2_91 : Cond.selects RX0 yX0_shrink yX0_shrink ∈ gT := gT_2 (List.mem_of_getElem? (i := 91) rfl) rfl
theorem mw_2_92 : Cond.code yX0_shrink cX0_shrink 4 none ∈ gT := gT_2 (List.mem_of_getElem? (i := 92) rfl) rfl
theorem mw_2_93 : Cond.methodLink RX0 80 yX4_quotient ∈ gT := gT_2 (List.mem_of_getElem? (i := 93) rfl) rfl
theorem mw_2_95 : Cond.instanceMethod yX7_least ∈ gT := gT_2 (List.mem_of_getElem? (i := 95) rfl) rfl
theorem mw_2_96 : Cond.selects RX7 yX7_least yX7_least ∈ gT := gT_2 (List.mem_of_getElem? (i := 96) rfl) rfl
theorem mw_2_97 : Cond.code yX7_least cX7_least 2 (some .int) ∈ gT := gT_2 (List.mem_of_getElem? (i := 97) rfl) rfl
theorem mw_2_99 : Cond.instanceMethod yX7_twist ∈ gT := gT_2 (List.mem_of_getElem? (i := 99) rfl) rfl
theorem mw_3_0 : Cond.code yX5_find cX5_find 6 none ∈ gT := gT_3 (List.mem_of_getElem? (i := 0) rfl) rfl
theorem mw_3_1 : Cond.methodLink RX5 19 yJ9_abs_067f4 ∈ gT := gT_3 (List.mem_of_getElem? (i := 1) rfl) rfl
theorem mw_3_10 : Cond.code yX5_add cX5_add 3 none ∈ gT := gT_3 (List.mem_of_getElem? (i := 10) rfl) rfl
theorem mw_3_100 : Cond.methodLink RX6 36 yX6_add ∈ gT := gT_3 (List.mem_of_getElem? (i := 100) rfl) rfl
theorem mw_3_102 : Cond.instanceMethod yX6_add ∈ gT := gT_3 (List.mem_of_getElem? (i := 102) rfl) rfl
theorem mw_3_103 : Cond.code yX6_add cX6_add 4 none ∈ gT := gT_3 (List.mem_of_getElem? (i := 103) rfl) rfl
theorem mw_3_105 : Cond.instanceMethod yX7_minus ∈ gT := gT_3 (List.mem_of_getElem? (i := 105) rfl) rfl
theorem mw_3_106 : Cond.selects RX7 yX7_minus yX7_minus ∈ gT := gT_3 (List.mem_of_getElem? (i := 106) rfl) rfl
theorem mw_3_107 : Cond.code yX7_minus cX7_minus 3 (some .int) ∈ gT := gT_3 (List.mem_of_getElem? (i := 107) rfl) rfl
theorem mw_3_108 : Cond.methodLink RX7 201 yX7_hasSmallPoint ∈ gT := gT_3 (List.mem_of_getElem? (i := 108) rfl) rfl
theorem mw_3_11 : Cond.methodLink RX5 40 yX4_times ∈ gT := gT_3 (List.mem_of_getElem? (i := 11) rfl) rfl
theorem mw_3_110 : Cond.instanceMethod yX7_hasSmallPoint ∈ gT := gT_3 (List.mem_of_getElem? (i := 110) rfl) rfl
theorem mw_3_111 : Cond.code yX7_hasSmallPoint cX7_hasSmallPoint 3 (some .boolean) ∈ gT := gT_3 (List.mem_of_getElem? (i := 111) rfl) rfl
theorem mw_3_112 : Cond.methodLink RX7 211 yX6_opposite ∈ gT := gT_3 (List.mem_of_getElem? (i := 112) rfl) rfl
theorem mw_3_113 : Cond.instanceMethod yX6_opposite ∈ gT := gT_3 (List.mem_of_getElem? (i := 113) rfl) rfl
theorem mw_3_114 : Cond.selects RX6 yX6_opposite yX6_opposite ∈ gT := gT_3 (List.mem_of_getElem? (i := 114) rfl) rfl
theorem mw_3_115 : Cond.code yX6_opposite cX6_opposite 6 (some .int) ∈ gT := gT_3 (List.mem_of_getElem? (i := 115) rfl) rfl
theorem mw_3_117 : Cond.instanceMethod yX7_count ∈ gT := gT_3 (List.mem_of_getElem? (i := 117) rfl) rfl
theorem mw_3_118 : Cond.selects RX7 yX7_count yX7_count ∈ gT := gT_3 (List.mem_of_getElem? (i := 118) rfl) rfl
theorem mw_3_119 : Cond.code yX7_count cX7_count 2 (some .int) ∈ gT := gT_3 (List.mem_of_getElem? (i := 119) rfl) rfl
theorem mw_3_12 : Cond.methodLink RX5 44 yX4_power ∈ gT := gT_3 (List.mem_of_getElem? (i := 12) rfl) rfl
theorem mw_3_120 : Cond.methodLink RX7 214 yX7_countUnlike ∈ gT := gT_3 (List.mem_of_getElem? (i := 120) rfl) rfl
theorem mw_3_122 : Cond.instanceMethod yX7_countUnlike ∈ gT := gT_3 (List.mem_of_getElem? (i := 122) rfl) rfl
theorem mw_3_123 : Cond.code yX7_countUnlike cX7_countUnlike 5 (some .int) ∈ gT := gT_3 (List.mem_of_getElem? (i := 123) rfl) rfl
theorem mw_3_124 : Cond.methodLink RX7 217 yX7_bitsOfLeast ∈ gT := gT_3 (List.mem_of_getElem? (i := 124) rfl) rfl
theorem mw_3_126 : Cond.instanceMethod yX7_bitsOfLeast ∈ gT := gT_3 (List.mem_of_getElem? (i := 126) rfl) rfl
theorem mw_3_127 : Cond.code yX7_bitsOfLeast cX7_bitsOfLeast 5 (some .int) ∈ gT := gT_3 (List.mem_of_getElem? (i := 127) rfl) rfl
theorem mw_3_13 : Cond.methodLink RX5 47 yX4_quotient ∈ gT := gT_3 (List.mem_of_getElem? (i := 13) rfl) rfl
theorem mw_3_14 : Cond.constant RX5 29 (1000000) ∈ gT := gT_3 (List.mem_of_getElem? (i := 14) rfl) rfl
theorem mw_3_15 : Cond.methodLink RX7 159 yX5_get ∈ gT := gT_3 (List.mem_of_getElem? (i := 15) rfl) rfl
theorem mw_3_16 : Cond.instanceMethod yX5_get ∈ gT := gT_3 (List.mem_of_getElem? (i := 16) rfl) rfl
theorem mw_3_17 : Cond.selects RX5 yX5_get yX5_get ∈ gT := gT_3 (List.mem_of_getElem? (i := 17) rfl) rfl
theorem mw_3_18 : Cond.code yX5_get cX5_get 2 (some .int) ∈ gT := gT_3 (List.mem_of_getElem? (i := 18) rfl) rfl
theorem mw_3_198 : Cond.instanceMethod yX0_value ∈ gT := gT_3 (List.mem_of_getElem? (i := 198) rfl) rfl
theorem mw_3_199 : Cond.selects RX0 yX0_value yX0_value ∈ gT := gT_3 (List.mem_of_getElem? (i := 199) rfl) rfl
theorem mw_3_2 : Cond.methodLink RX5 25 yX5_without ∈ gT := gT_3 (List.mem_of_getElem? (i := 2) rfl) rfl
theorem mw_3_20 : Cond.instanceMethod yX7_conductor ∈ gT := gT_3 (List.mem_of_getElem? (i := 20) rfl) rfl
theorem mw_3_200 : Cond.code yX0_value cX0_value 2 (some .long) ∈ gT := gT_3 (List.mem_of_getElem? (i := 200) rfl) rfl
theorem mw_3_21 : Cond.selects RX7 yX7_conductor yX7_conductor ∈ gT := gT_3 (List.mem_of_getElem? (i := 21) rfl) rfl
theorem mw_3_22 : Cond.code yX7_conductor cX7_conductor 2 (some .long) ∈ gT := gT_3 (List.mem_of_getElem? (i := 22) rfl) rfl
theorem mw_3_221 : Cond.fieldLink RX8 41 "CurveFallsModel" "thrown" "I" ∈ gT := gT_3 (List.mem_of_getElem? (i := 221) rfl) rfl
theorem mw_3_222 : Cond.fieldLink RX8 45 "CurveFallsModel" "many" "I" ∈ gT := gT_3 (List.mem_of_getElem? (i := 222) rfl) rfl
theorem mw_3_223 : Cond.fieldLink RX8 7 "CurveFallsModel" "told" "[J" ∈ gT := gT_3 (List.mem_of_getElem? (i := 223) rfl) rfl
theorem mw_3_224 : Cond.fieldLink RX8 13 "CurveFallsModel" "a" "[J" ∈ gT := gT_3 (List.mem_of_getElem? (i := 224) rfl) rfl
theorem mw_3_225 : Cond.fieldLink RX8 16 "CurveFallsModel" "least" "[J" ∈ gT := gT_3 (List.mem_of_getElem? (i := 225) rfl) rfl
theorem mw_3_226 : Cond.fieldLink RX8 19 "CurveFallsModel" "prime" "[J" ∈ gT := gT_3 (List.mem_of_getElem? (i := 226) rfl) rfl
theorem mw_3_227 : Cond.fieldLink RX8 141 "CurveFallsModel" "primes" "I" ∈ gT := gT_3 (List.mem_of_getElem? (i := 227) rfl) rfl
theorem mw_3_228 : Cond.fieldLink RX8 22 "CurveFallsModel" "at" "[I" ∈ gT := gT_3 (List.mem_of_getElem? (i := 228) rfl) rfl
theorem mw_3_229 : Cond.fieldLink RX8 183 "CurveFallsModel" "root" "J" ∈ gT := gT_3 (List.mem_of_getElem? (i := 229) rfl) rfl
theorem mw_3_23 : Cond.methodLink RX7 162 yX7_conductorOf ∈ gT := gT_3 (List.mem_of_getElem? (i := 23) rfl) rfl
theorem mw_3_230 : Cond.fieldLink RX8 26 "CurveFallsModel" "kept" "[J" ∈ gT := gT_3 (List.mem_of_getElem? (i := 230) rfl) rfl
theorem mw_3_231 : Cond.fieldLink RX8 258 "CurveFallsModel" "scale" "J" ∈ gT := gT_3 (List.mem_of_getElem? (i := 231) rfl) rfl
theorem mw_3_232 : Cond.fieldLink RX8 29 "CurveFallsModel" "whole" "[J" ∈ gT := gT_3 (List.mem_of_getElem? (i := 232) rfl) rfl
theorem mw_3_233 : Cond.fieldLink RX8 32 "CurveFallsModel" "first" "[J" ∈ gT := gT_3 (List.mem_of_getElem? (i := 233) rfl) rfl
theorem mw_3_234 : Cond.fieldLink RX8 35 "CurveFallsModel" "twist" "[I" ∈ gT := gT_3 (List.mem_of_getElem? (i := 234) rfl) rfl
theorem mw_3_235 : Cond.fieldLink RX8 38 "CurveFallsModel" "point" "[J" ∈ gT := gT_3 (List.mem_of_getElem? (i := 235) rfl) rfl
theorem mw_3_236 : Cond.fieldLink RX8 321 "CurveFallsModel" "points" "I" ∈ gT := gT_3 (List.mem_of_getElem? (i := 236) rfl) rfl
theorem mw_3_25 : Cond.instanceMethod yX7_conductorOf ∈ gT := gT_3 (List.mem_of_getElem? (i := 25) rfl) rfl
theorem mw_3_26 : Cond.code yX7_conductorOf cX7_conductorOf 9 (some .long) ∈ gT := gT_3 (List.mem_of_getElem? (i := 26) rfl) rfl
theorem mw_3_27 : Cond.fieldLink RX7 248 "CurveFalls" "TWIST_PRIMES" "[I" ∈ gT := gT_3 (List.mem_of_getElem? (i := 27) rfl) rfl
theorem mw_3_30 : Cond.instanceMethod yX7_one ∈ gT := gT_3 (List.mem_of_getElem? (i := 30) rfl) rfl
theorem mw_3_31 : Cond.selects RX7 yX7_one yX7_one ∈ gT := gT_3 (List.mem_of_getElem? (i := 31) rfl) rfl
theorem mw_3_32 : Cond.code yX7_one cX7_one 3 (some .boolean) ∈ gT := gT_3 (List.mem_of_getElem? (i := 32) rfl) rfl
theorem mw_3_33 : Cond.methodLink RX7 166 yX0_isSameAs ∈ gT := gT_3 (List.mem_of_getElem? (i := 33) rfl) rfl
theorem mw_3_34 : Cond.instanceMethod yX0_isSameAs ∈ gT := gT_3 (List.mem_of_getElem? (i := 34) rfl) rfl
theorem mw_3_35 : Cond.selects RX0 yX0_isSameAs yX0_isSameAs ∈ gT := gT_3 (List.mem_of_getElem? (i := 35) rfl) rfl
theorem mw_3_36 : Cond.code yX0_isSameAs cX0_isSameAs 2 (some .boolean) ∈ gT := gT_3 (List.mem_of_getElem? (i := 36) rfl) rfl
theorem mw_3_38 : Cond.instanceMethod yX7_points ∈ gT := gT_3 (List.mem_of_getElem? (i := 38) rfl) rfl
theorem mw_3_39 : Cond.selects RX7 yX7_points yX7_points ∈ gT := gT_3 (List.mem_of_getElem? (i := 39) rfl) rfl
theorem mw_3_4 : Cond.instanceMethod yX5_without ∈ gT := gT_3 (List.mem_of_getElem? (i := 4) rfl) rfl
theorem mw_3_40 : Cond.code yX7_points cX7_points 3 (some .int) ∈ gT := gT_3 (List.mem_of_getElem? (i := 40) rfl) rfl
theorem mw_3_41 : Cond.methodLink RX7 170 yX7_isCountedPrime ∈ gT := gT_3 (List.mem_of_getElem? (i := 41) rfl) rfl
theorem mw_3_42 : Cond.static yX7_isCountedPrime ∈ gT := gT_3 (List.mem_of_getElem? (i := 42) rfl) rfl
theorem mw_3_43 : Cond.code yX7_isCountedPrime cX7_isCountedPrime 1 (some .boolean) ∈ gT := gT_3 (List.mem_of_getElem? (i := 43) rfl) rfl
theorem mw_3_44 : Cond.methodLink RX7 173 yX7_pointsOn ∈ gT := gT_3 (List.mem_of_getElem? (i := 44) rfl) rfl
theorem mw_3_46 : Cond.instanceMethod yX7_pointsOn ∈ gT := gT_3 (List.mem_of_getElem? (i := 46) rfl) rfl
theorem mw_3_47 : Cond.code yX7_pointsOn cX7_pointsOn 5 (some .int) ∈ gT := gT_3 (List.mem_of_getElem? (i := 47) rfl) rfl
theorem mw_3_48 : Cond.methodLink RX7 254 yX7_pointsAtTwo ∈ gT := gT_3 (List.mem_of_getElem? (i := 48) rfl) rfl
theorem mw_3_49 : Cond.static yX7_pointsAtTwo ∈ gT := gT_3 (List.mem_of_getElem? (i := 49) rfl) rfl
theorem mw_3_5 : Cond.code yX5_without cX5_without 4 (some .long) ∈ gT := gT_3 (List.mem_of_getElem? (i := 5) rfl) rfl
theorem mw_3_50 : Cond.code yX7_pointsAtTwo cX7_pointsAtTwo 6 (some .int) ∈ gT := gT_3 (List.mem_of_getElem? (i := 50) rfl) rfl
theorem mw_3_51 : Cond.methodLink RX7 264 yX0_slopeAt ∈ gT := gT_3 (List.mem_of_getElem? (i := 51) rfl) rfl
theorem mw_3_52 : Cond.methodLink RX7 267 yX0_rightAt ∈ gT := gT_3 (List.mem_of_getElem? (i := 52) rfl) rfl
theorem mw_3_53 : Cond.constantLong RX7 270 (2) ∈ gT := gT_3 (List.mem_of_getElem? (i := 53) rfl) rfl
theorem mw_3_54 : Cond.methodLink RX7 258 yX4_rest ∈ gT := gT_3 (List.mem_of_getElem? (i := 54) rfl) rfl
theorem mw_3_55 : Cond.methodLink RX7 261 yX0_discriminantAt ∈ gT := gT_3 (List.mem_of_getElem? (i := 55) rfl) rfl
theorem mw_3_56 : Cond.instanceMethod yX0_discriminantAt ∈ gT := gT_3 (List.mem_of_getElem? (i := 56) rfl) rfl
theorem mw_3_57 : Cond.selects RX0 yX0_discriminantAt yX0_discriminantAt ∈ gT := gT_3 (List.mem_of_getElem? (i := 57) rfl) rfl
theorem mw_3_58 : Cond.code yX0_discriminantAt cX0_discriminantAt 3 (some .long) ∈ gT := gT_3 (List.mem_of_getElem? (i := 58) rfl) rfl
theorem mw_3_59 : Cond.methodLink RX0 91 yX0_slopeAt ∈ gT := gT_3 (List.mem_of_getElem? (i := 59) rfl) rfl
theorem mw_3_6 : Cond.methodLink RX5 34 yX4_rest ∈ gT := gT_3 (List.mem_of_getElem? (i := 6) rfl) rfl
theorem mw_3_60 : Cond.methodLink RX0 95 yX0_rightAt ∈ gT := gT_3 (List.mem_of_getElem? (i := 60) rfl) rfl
theorem mw_3_62 : Cond.instanceMethod yX7_trace ∈ gT := gT_3 (List.mem_of_getElem? (i := 62) rfl) rfl
theorem mw_3_63 : Cond.selects RX7 yX7_trace yX7_trace ∈ gT := gT_3 (List.mem_of_getElem? (i := 63) rfl) rfl
theorem mw_3_64 : Cond.code yX7_trace cX7_trace 4 (some .int) ∈ gT := gT_3 (List.mem_of_getElem? (i := 64) rfl) rfl
theorem mw_3_66 : Cond.instanceMethod yX7_own ∈ gT := gT_3 (List.mem_of_getElem? (i := 66) rfl) rfl
theorem mw_3_67 : Cond.selects RX7 yX7_own yX7_own ∈ gT := gT_3 (List.mem_of_getElem? (i := 67) rfl) rfl
theorem mw_3_68 : Cond.code yX7_own cX7_own 6 (some .long) ∈ gT := gT_3 (List.mem_of_getElem? (i := 68) rfl) rfl
theorem mw_3_69 : Cond.constantLong RX7 184 (-1) ∈ gT := gT_3 (List.mem_of_getElem? (i := 69) rfl) rfl
theorem mw_3_7 : Cond.methodLink RX5 30 yX5_add ∈ gT := gT_3 (List.mem_of_getElem? (i := 7) rfl) rfl
theorem mw_3_71 : Cond.instanceMethod yX7_best ∈ gT := gT_3 (List.mem_of_getElem? (i := 71) rfl) rfl
theorem mw_3_72 : Cond.selects RX7 yX7_best yX7_best ∈ gT := gT_3 (List.mem_of_getElem? (i := 72) rfl) rfl
theorem mw_3_73 : Cond.code yX7_best cX7_best 11 (some .int) ∈ gT := gT_3 (List.mem_of_getElem? (i := 73) rfl) rfl
theorem mw_3_74 : Cond.methodLink RX7 192 yX7_twistedConductor ∈ gT := gT_3 (List.mem_of_getElem? (i := 74) rfl) rfl
theorem mw_3_76 : Cond.instanceMethod yX7_twistedConductor ∈ gT := gT_3 (List.mem_of_getElem? (i := 76) rfl) rfl
theorem mw_3_77 : Cond.code yX7_twistedConductor cX7_twistedConductor 3 (some .long) ∈ gT := gT_3 (List.mem_of_getElem? (i := 77) rfl) rfl
theorem mw_3_79 : Cond.instanceMethod yX7_twisted ∈ gT := gT_3 (List.mem_of_getElem? (i := 79) rfl) rfl
theorem mw_3_80 : Cond.selects RX7 yX7_twisted yX7_twisted ∈ gT := gT_3 (List.mem_of_getElem? (i := 80) rfl) rfl
theorem mw_3_81 : Cond.code yX7_twisted cX7_twisted 3 (some .long) ∈ gT := gT_3 (List.mem_of_getElem? (i := 81) rfl) rfl
theorem mw_3_83 : Cond.instanceMethod yX7_small ∈ gT := gT_3 (List.mem_of_getElem? (i := 83) rfl) rfl
theorem mw_3_84 : Cond.selects RX7 yX7_small yX7_small ∈ gT := gT_3 (List.mem_of_getElem? (i := 84) rfl) rfl
theorem mw_3_85 : Cond.code yX7_small cX7_small 2 (some .int) ∈ gT := gT_3 (List.mem_of_getElem? (i := 85) rfl) rfl
theorem mw_3_86 : Cond.methodLink RX7 196 yX7_findSmallPoints ∈ gT := gT_3 (List.mem_of_getElem? (i := 86) rfl) rfl
theorem mw_3_88 : Cond.instanceMethod yX7_findSmallPoints ∈ gT := gT_3 (List.mem_of_getElem? (i := 88) rfl) rfl
theorem mw_3_89 : Cond.code yX7_findSmallPoints cX7_findSmallPoints 2 none ∈ gT := gT_3 (List.mem_of_getElem? (i := 89) rfl) rfl
theorem mw_3_9 : Cond.instanceMethod yX5_add ∈ gT := gT_3 (List.mem_of_getElem? (i := 9) rfl) rfl
theorem mw_3_90 : Cond.methodLink RX7 272 yX6_find ∈ gT := gT_3 (List.mem_of_getElem? (i := 90) rfl) rfl
theorem mw_3_91 : Cond.instanceMethod yX6_find ∈ gT := gT_3 (List.mem_of_getElem? (i := 91) rfl) rfl
theorem mw_3_92 : Cond.selects RX6 yX6_find yX6_find ∈ gT := gT_3 (List.mem_of_getElem? (i := 92) rfl) rfl
theorem mw_3_93 : Cond.code yX6_find cX6_find 9 none ∈ gT := gT_3 (List.mem_of_getElem? (i := 93) rfl) rfl
theorem mw_3_94 : Cond.methodLink RX6 22 yX0_discriminantAt ∈ gT := gT_3 (List.mem_of_getElem? (i := 94) rfl) rfl
theorem mw_3_95 : Cond.methodLink RX6 28 yX4_squareRoot ∈ gT := gT_3 (List.mem_of_getElem? (i := 95) rfl) rfl
theorem mw_3_96 : Cond.static yX4_squareRoot ∈ gT := gT_3 (List.mem_of_getElem? (i := 96) rfl) rfl
theorem mw_3_97 : Cond.code yX4_squareRoot cX4_squareRoot 8 (some .long) ∈ gT := gT_3 (List.mem_of_getElem? (i := 97) rfl) rfl
theorem mw_3_98 : Cond.constantLong RX4 16 (1073741824) ∈ gT := gT_3 (List.mem_of_getElem? (i := 98) rfl) rfl
theorem mw_3_99 : Cond.methodLink RX6 33 yX0_slopeAt ∈ gT := gT_3 (List.mem_of_getElem? (i := 99) rfl) rfl
theorem mw_4_101 : Cond.instanceMethod yX8_scale ∈ gT := gT_4 (List.mem_of_getElem? (i := 101) rfl) rfl
theorem mw_4_102 : Cond.selects RX8 yX8_scale yX8_scale ∈ gT := gT_4 (List.mem_of_getElem? (i := 102) rfl) rfl
theorem mw_4_103 : Cond.code yX8_scale cX8_scale 7 (some .int) ∈ gT := gT_4 (List.mem_of_getElem? (i := 103) rfl) rfl
theorem mw_4_104 : Cond.methodLink RX8 130 yX8_shrinks ∈ gT := gT_4 (List.mem_of_getElem? (i := 104) rfl) rfl
theorem mw_4_106 : Cond.instanceMethod yX8_shrinks ∈ gT := gT_4 (List.mem_of_getElem? (i := 106) rfl) rfl
theorem mw_4_107 : Cond.code yX8_shrinks cX8_shrinks 5 (some .boolean) ∈ gT := gT_4 (List.mem_of_getElem? (i := 107) rfl) rfl
theorem mw_4_108 : Cond.methodLink RX8 79 yX8_weight ∈ gT := gT_4 (List.mem_of_getElem? (i := 108) rfl) rfl
theorem mw_4_109 : Cond.static yX8_weight ∈ gT := gT_4 (List.mem_of_getElem? (i := 109) rfl) rfl
theorem mw_4_110 : Cond.code yX8_weight cX8_weight 1 (some .int) ∈ gT := gT_4 (List.mem_of_getElem? (i := 110) rfl) rfl
theorem mw_4_111 : Cond.methodLink RX8 83 yX8_power ∈ gT := gT_4 (List.mem_of_getElem? (i := 111) rfl) rfl
theorem mw_4_112 : Cond.static yX8_power ∈ gT := gT_4 (List.mem_of_getElem? (i := 112) rfl) rfl
theorem mw_4_113 : Cond.code yX8_power cX8_power 6 (some .long) ∈ gT := gT_4 (List.mem_of_getElem? (i := 113) rfl) rfl
theorem mw_4_114 : Cond.methodLink RX8 134 yX8_product ∈ gT := gT_4 (List.mem_of_getElem? (i := 114) rfl) rfl
theorem mw_4_115 : Cond.static yX8_product ∈ gT := gT_4 (List.mem_of_getElem? (i := 115) rfl) rfl
theorem mw_4_116 : Cond.code yX8_product cX8_product 4 (some .long) ∈ gT := gT_4 (List.mem_of_getElem? (i := 116) rfl) rfl
theorem mw_4_117 : Cond.constantLong RX8 128 (4000000000000000000) ∈ gT := gT_4 (List.mem_of_getElem? (i := 117) rfl) rfl
theorem mw_4_119 : Cond.instanceMethod yX8_drop ∈ gT := gT_4 (List.mem_of_getElem? (i := 119) rfl) rfl
theorem mw_4_120 : Cond.selects RX8 yX8_drop yX8_drop ∈ gT := gT_4 (List.mem_of_getElem? (i := 120) rfl) rfl
theorem mw_4_121 : Cond.code yX8_drop cX8_drop 1 (some .int) ∈ gT := gT_4 (List.mem_of_getElem? (i := 121) rfl) rfl
theorem mw_4_123 : Cond.instanceMethod yX8_least ∈ gT := gT_4 (List.mem_of_getElem? (i := 123) rfl) rfl
theorem mw_4_124 : Cond.selects RX8 yX8_least yX8_least ∈ gT := gT_4 (List.mem_of_getElem? (i := 124) rfl) rfl
theorem mw_4_125 : Cond.code yX8_least cX8_least 2 (some .int) ∈ gT := gT_4 (List.mem_of_getElem? (i := 125) rfl) rfl
theorem mw_4_126 : Cond.methodLink RX8 274 yX8_goesLeast ∈ gT := gT_4 (List.mem_of_getElem? (i := 126) rfl) rfl
theorem mw_4_128 : Cond.instanceMethod yX8_goesLeast ∈ gT := gT_4 (List.mem_of_getElem? (i := 128) rfl) rfl
theorem mw_4_129 : Cond.code yX8_goesLeast cX8_goesLeast 2 none ∈ gT := gT_4 (List.mem_of_getElem? (i := 129) rfl) rfl
theorem mw_4_130 : Cond.methodLink RX8 271 yX8_laysLeast ∈ gT := gT_4 (List.mem_of_getElem? (i := 130) rfl) rfl
theorem mw_4_132 : Cond.instanceMethod yX8_laysLeast ∈ gT := gT_4 (List.mem_of_getElem? (i := 132) rfl) rfl
theorem mw_4_133 : Cond.code yX8_laysLeast cX8_laysLeast 2 none ∈ gT := gT_4 (List.mem_of_getElem? (i := 133) rfl) rfl
theorem mw_4_134 : Cond.methodLink RX8 252 yX8_keepsWhole ∈ gT := gT_4 (List.mem_of_getElem? (i := 134) rfl) rfl
theorem mw_4_136 : Cond.instanceMethod yX8_keepsWhole ∈ gT := gT_4 (List.mem_of_getElem? (i := 136) rfl) rfl
theorem mw_4_137 : Cond.code yX8_keepsWhole cX8_keepsWhole 2 none ∈ gT := gT_4 (List.mem_of_getElem? (i := 137) rfl) rfl
theorem mw_4_138 : Cond.methodLink RX8 255 yX8_laysPrimes ∈ gT := gT_4 (List.mem_of_getElem? (i := 138) rfl) rfl
theorem mw_4_140 : Cond.instanceMethod yX8_laysPrimes ∈ gT := gT_4 (List.mem_of_getElem? (i := 140) rfl) rfl
theorem mw_4_141 : Cond.code yX8_laysPrimes cX8_laysPrimes 7 none ∈ gT := gT_4 (List.mem_of_getElem? (i := 141) rfl) rfl
theorem mw_4_142 : Cond.constantLong RX8 144 (31623) ∈ gT := gT_4 (List.mem_of_getElem? (i := 142) rfl) rfl
theorem mw_4_143 : Cond.methodLink RX8 261 yX8_wholeAgain ∈ gT := gT_4 (List.mem_of_getElem? (i := 143) rfl) rfl
theorem mw_4_145 : Cond.instanceMethod yX8_wholeAgain ∈ gT := gT_4 (List.mem_of_getElem? (i := 145) rfl) rfl
theorem mw_4_146 : Cond.code yX8_wholeAgain cX8_wholeAgain 2 none ∈ gT := gT_4 (List.mem_of_getElem? (i := 146) rfl) rfl
theorem mw_4_147 : Cond.methodLink RX8 264 yX8_laysAt ∈ gT := gT_4 (List.mem_of_getElem? (i := 147) rfl) rfl
theorem mw_4_149 : Cond.instanceMethod yX8_laysAt ∈ gT := gT_4 (List.mem_of_getElem? (i := 149) rfl) rfl
theorem mw_4_150 : Cond.code yX8_laysAt cX8_laysAt 4 none ∈ gT := gT_4 (List.mem_of_getElem? (i := 150) rfl) rfl
theorem mw_4_151 : Cond.methodLink RX8 242 yX8_fallsFar ∈ gT := gT_4 (List.mem_of_getElem? (i := 151) rfl) rfl
theorem mw_4_153 : Cond.instanceMethod yX8_fallsFar ∈ gT := gT_4 (List.mem_of_getElem? (i := 153) rfl) rfl
theorem mw_4_154 : Cond.code yX8_fallsFar cX8_fallsFar 12 none ∈ gT := gT_4 (List.mem_of_getElem? (i := 154) rfl) rfl
theorem mw_4_155 : Cond.methodLink RX8 146 yX8_c4 ∈ gT := gT_4 (List.mem_of_getElem? (i := 155) rfl) rfl
theorem mw_4_157 : Cond.instanceMethod yX8_c4 ∈ gT := gT_4 (List.mem_of_getElem? (i := 157) rfl) rfl
theorem mw_4_158 : Cond.code yX8_c4 cX8_c4 1 (some .long) ∈ gT := gT_4 (List.mem_of_getElem? (i := 158) rfl) rfl
theorem mw_4_159 : Cond.constantLong RX8 56 (24) ∈ gT := gT_4 (List.mem_of_getElem? (i := 159) rfl) rfl
theorem mw_4_160 : Cond.methodLink RX8 149 yX8_c6 ∈ gT := gT_4 (List.mem_of_getElem? (i := 160) rfl) rfl
theorem mw_4_162 : Cond.instanceMethod yX8_c6 ∈ gT := gT_4 (List.mem_of_getElem? (i := 162) rfl) rfl
theorem mw_4_163 : Cond.code yX8_c6 cX8_c6 1 (some .long) ∈ gT := gT_4 (List.mem_of_getElem? (i := 163) rfl) rfl
theorem mw_4_164 : Cond.constantLong RX8 61 (36) ∈ gT := gT_4 (List.mem_of_getElem? (i := 164) rfl) rfl
theorem mw_4_165 : Cond.constantLong RX8 63 (216) ∈ gT := gT_4 (List.mem_of_getElem? (i := 165) rfl) rfl
theorem mw_4_166 : Cond.methodLink RX8 152 yX8_times ∈ gT := gT_4 (List.mem_of_getElem? (i := 166) rfl) rfl
theorem mw_4_167 : Cond.static yX8_times ∈ gT := gT_4 (List.mem_of_getElem? (i := 167) rfl) rfl
theorem mw_4_168 : Cond.code yX8_times cX8_times 7 (some .int) ∈ gT := gT_4 (List.mem_of_getElem? (i := 168) rfl) rfl
theorem mw_4_169 : Cond.methodLink RX8 156 yX8_lesser ∈ gT := gT_4 (List.mem_of_getElem? (i := 169) rfl) rfl
theorem mw_4_170 : Cond.static yX8_lesser ∈ gT := gT_4 (List.mem_of_getElem? (i := 170) rfl) rfl
theorem mw_4_171 : Cond.code yX8_lesser cX8_lesser 2 (some .int) ∈ gT := gT_4 (List.mem_of_getElem? (i := 171) rfl) rfl
theorem mw_4_172 : Cond.methodLink RX8 160 yX8_without ∈ gT := gT_4 (List.mem_of_getElem? (i := 172) rfl) rfl
theorem mw_4_173 : Cond.static yX8_without ∈ gT := gT_4 (List.mem_of_getElem? (i := 173) rfl) rfl
theorem mw_4_174 : Cond.code yX8_without cX8_without 5 (some .long) ∈ gT := gT_4 (List.mem_of_getElem? (i := 174) rfl) rfl
theorem mw_4_175 : Cond.methodLink RX8 164 yX8_is ∈ gT := gT_4 (List.mem_of_getElem? (i := 175) rfl) rfl
theorem mw_4_177 : Cond.instanceMethod yX8_is ∈ gT := gT_4 (List.mem_of_getElem? (i := 177) rfl) rfl
theorem mw_4_178 : Cond.code yX8_is cX8_is 7 none ∈ gT := gT_4 (List.mem_of_getElem? (i := 178) rfl) rfl
theorem mw_4_179 : Cond.constantLong RX8 168 (999983) ∈ gT := gT_4 (List.mem_of_getElem? (i := 179) rfl) rfl
theorem mw_4_180 : Cond.methodLink RX8 170 yX8_square ∈ gT := gT_4 (List.mem_of_getElem? (i := 180) rfl) rfl
theorem mw_4_181 : Cond.static yX8_square ∈ gT := gT_4 (List.mem_of_getElem? (i := 181) rfl) rfl
theorem mw_4_182 : Cond.code yX8_square cX8_square 12 (some .int) ∈ gT := gT_4 (List.mem_of_getElem? (i := 182) rfl) rfl
theorem mw_4_183 : Cond.methodLink RX8 138 yX8_modulo ∈ gT := gT_4 (List.mem_of_getElem? (i := 183) rfl) rfl
theorem mw_4_184 : Cond.static yX8_modulo ∈ gT := gT_4 (List.mem_of_getElem? (i := 184) rfl) rfl
theorem mw_4_185 : Cond.code yX8_modulo cX8_modulo 4 (some .long) ∈ gT := gT_4 (List.mem_of_getElem? (i := 185) rfl) rfl
theorem mw_4_186 : Cond.methodLink RX8 173 yX8_additive ∈ gT := gT_4 (List.mem_of_getElem? (i := 186) rfl) rfl
theorem mw_4_188 : Cond.instanceMethod yX8_additive ∈ gT := gT_4 (List.mem_of_getElem? (i := 188) rfl) rfl
theorem mw_4_189 : Cond.code yX8_additive cX8_additive 13 none ∈ gT := gT_4 (List.mem_of_getElem? (i := 189) rfl) rfl
theorem mw_4_190 : Cond.constantLong RX8 177 (-6) ∈ gT := gT_4 (List.mem_of_getElem? (i := 190) rfl) rfl
theorem mw_4_191 : Cond.methodLink RX8 179 yX8_cubicRoots ∈ gT := gT_4 (List.mem_of_getElem? (i := 191) rfl) rfl
theorem mw_4_192 : Cond.static yX8_cubicRoots ∈ gT := gT_4 (List.mem_of_getElem? (i := 192) rfl) rfl
theorem mw_4_193 : Cond.code yX8_cubicRoots cX8_cubicRoots 15 (some .int) ∈ gT := gT_4 (List.mem_of_getElem? (i := 193) rfl) rfl
theorem mw_4_194 : Cond.methodLink RX8 245 yX8_falls ∈ gT := gT_4 (List.mem_of_getElem? (i := 194) rfl) rfl
theorem mw_4_196 : Cond.instanceMethod yX8_falls ∈ gT := gT_4 (List.mem_of_getElem? (i := 196) rfl) rfl
theorem mw_4_197 : Cond.code yX8_falls cX8_falls 5 (some .boolean) ∈ gT := gT_4 (List.mem_of_getElem? (i := 197) rfl) rfl
theorem mw_4_198 : Cond.methodLink RX8 213 yX8_comesToMidst ∈ gT := gT_4 (List.mem_of_getElem? (i := 198) rfl) rfl
theorem mw_4_200 : Cond.instanceMethod yX8_comesToMidst ∈ gT := gT_4 (List.mem_of_getElem? (i := 200) rfl) rfl
theorem mw_4_201 : Cond.code yX8_comesToMidst cX8_comesToMidst 7 none ∈ gT := gT_4 (List.mem_of_getElem? (i := 201) rfl) rfl
theorem mw_4_202 : Cond.methodLink RX8 187 yX8_goesIn ∈ gT := gT_4 (List.mem_of_getElem? (i := 202) rfl) rfl
theorem mw_4_204 : Cond.instanceMethod yX8_goesIn ∈ gT := gT_4 (List.mem_of_getElem? (i := 204) rfl) rfl
theorem mw_4_205 : Cond.code yX8_goesIn cX8_goesIn 5 (some .boolean) ∈ gT := gT_4 (List.mem_of_getElem? (i := 205) rfl) rfl
theorem mw_4_206 : Cond.methodLink RX8 217 yX8_splits ∈ gT := gT_4 (List.mem_of_getElem? (i := 206) rfl) rfl
theorem mw_4_208 : Cond.instanceMethod yX8_splits ∈ gT := gT_4 (List.mem_of_getElem? (i := 208) rfl) rfl
theorem mw_4_209 : Cond.code yX8_splits cX8_splits 3 (some .boolean) ∈ gT := gT_4 (List.mem_of_getElem? (i := 209) rfl) rfl
theorem mw_4_210 : Cond.methodLink RX8 209 yX8_roots ∈ gT := gT_4 (List.mem_of_getElem? (i := 210) rfl) rfl
theorem mw_4_212 : Cond.instanceMethod yX8_roots ∈ gT := gT_4 (List.mem_of_getElem? (i := 212) rfl) rfl
theorem mw_4_213 : Cond.code yX8_roots cX8_roots 12 (some .int) ∈ gT := gT_4 (List.mem_of_getElem? (i := 213) rfl) rfl
theorem mw_4_214 : Cond.methodLink RX8 220 yX8_fallsOn ∈ gT := gT_4 (List.mem_of_getElem? (i := 214) rfl) rfl
theorem mw_4_216 : Cond.instanceMethod yX8_fallsOn ∈ gT := gT_4 (List.mem_of_getElem? (i := 216) rfl) rfl
theorem mw_4_217 : Cond.code yX8_fallsOn cX8_fallsOn 10 (some .boolean) ∈ gT := gT_4 (List.mem_of_getElem? (i := 217) rfl) rfl
theorem mw_4_218 : Cond.methodLink RX8 224 yX8_flattens ∈ gT := gT_4 (List.mem_of_getElem? (i := 218) rfl) rfl
theorem mw_4_220 : Cond.instanceMethod yX8_flattens ∈ gT := gT_4 (List.mem_of_getElem? (i := 220) rfl) rfl
theorem mw_4_221 : Cond.code yX8_flattens cX8_flattens 5 none ∈ gT := gT_4 (List.mem_of_getElem? (i := 221) rfl) rfl
theorem mw_4_222 : Cond.methodLink RX8 191 yX8_isFlat ∈ gT := gT_4 (List.mem_of_getElem? (i := 222) rfl) rfl
theorem mw_4_224 : Cond.instanceMethod yX8_isFlat ∈ gT := gT_4 (List.mem_of_getElem? (i := 224) rfl) rfl
theorem mw_4_225 : Cond.code yX8_isFlat cX8_isFlat 3 (some .boolean) ∈ gT := gT_4 (List.mem_of_getElem? (i := 225) rfl) rfl
theorem mw_4_226 : Cond.methodLink RX8 194 yX8_putsBack ∈ gT := gT_4 (List.mem_of_getElem? (i := 226) rfl) rfl
theorem mw_4_228 : Cond.instanceMethod yX8_putsBack ∈ gT := gT_4 (List.mem_of_getElem? (i := 228) rfl) rfl
theorem mw_4_229 : Cond.code yX8_putsBack cX8_putsBack 2 none ∈ gT := gT_4 (List.mem_of_getElem? (i := 229) rfl) rfl
theorem mw_4_230 : Cond.methodLink RX8 227 yX8_unlikeRoots ∈ gT := gT_4 (List.mem_of_getElem? (i := 230) rfl) rfl
theorem mw_4_232 : Cond.instanceMethod yX8_unlikeRoots ∈ gT := gT_4 (List.mem_of_getElem? (i := 232) rfl) rfl
theorem mw_4_233 : Cond.code yX8_unlikeRoots cX8_unlikeRoots 11 (some .int) ∈ gT := gT_4 (List.mem_of_getElem? (i := 233) rfl) rfl
theorem mw_4_234 : Cond.constantLong RX8 200 (18) ∈ gT := gT_4 (List.mem_of_getElem? (i := 234) rfl) rfl
theorem mw_4_235 : Cond.methodLink RX8 231 yX8_rootsOfCubic ∈ gT := gT_4 (List.mem_of_getElem? (i := 235) rfl) rfl
theorem mw_4_237 : Cond.instanceMethod yX8_rootsOfCubic ∈ gT := gT_4 (List.mem_of_getElem? (i := 237) rfl) rfl
theorem mw_4_238 : Cond.code yX8_rootsOfCubic cX8_rootsOfCubic 6 (some .int) ∈ gT := gT_4 (List.mem_of_getElem? (i := 238) rfl) rfl
theorem mw_4_239 : Cond.methodLink RX8 197 yX8_cubic ∈ gT := gT_4 (List.mem_of_getElem? (i := 239) rfl) rfl
theorem mw_4_32 : Cond.instanceMethod yX8_thrown ∈ gT := gT_4 (List.mem_of_getElem? (i := 32) rfl) rfl
theorem mw_4_33 : Cond.selects RX8 yX8_thrown yX8_thrown ∈ gT := gT_4 (List.mem_of_getElem? (i := 33) rfl) rfl
theorem mw_4_34 : Cond.code yX8_thrown cX8_thrown 1 (some .int) ∈ gT := gT_4 (List.mem_of_getElem? (i := 34) rfl) rfl
theorem mw_4_36 : Cond.instanceMethod yX8_curve ∈ gT := gT_4 (List.mem_of_getElem? (i := 36) rfl) rfl
theorem mw_4_37 : Cond.selects RX8 yX8_curve yX8_curve ∈ gT := gT_4 (List.mem_of_getElem? (i := 37) rfl) rfl
theorem mw_4_38 : Cond.code yX8_curve cX8_curve 6 (some .int) ∈ gT := gT_4 (List.mem_of_getElem? (i := 38) rfl) rfl
theorem mw_4_39 : Cond.constantLong RX8 102 (-9) ∈ gT := gT_4 (List.mem_of_getElem? (i := 39) rfl) rfl
theorem mw_4_40 : Cond.constantLong RX8 68 (9) ∈ gT := gT_4 (List.mem_of_getElem? (i := 40) rfl) rfl
theorem mw_4_41 : Cond.methodLink RX8 104 yX8_within ∈ gT := gT_4 (List.mem_of_getElem? (i := 41) rfl) rfl
theorem mw_4_42 : Cond.static yX8_within ∈ gT := gT_4 (List.mem_of_getElem? (i := 42) rfl) rfl
theorem mw_4_43 : Cond.code yX8_within cX8_within 6 (some .boolean) ∈ gT := gT_4 (List.mem_of_getElem? (i := 43) rfl) rfl
theorem mw_4_44 : Cond.constantLong RX8 108 (-99) ∈ gT := gT_4 (List.mem_of_getElem? (i := 44) rfl) rfl
theorem mw_4_45 : Cond.constantLong RX8 110 (99) ∈ gT := gT_4 (List.mem_of_getElem? (i := 45) rfl) rfl
theorem mw_4_46 : Cond.methodLink RX8 87 yX8_disc ∈ gT := gT_4 (List.mem_of_getElem? (i := 46) rfl) rfl
theorem mw_4_48 : Cond.instanceMethod yX8_disc ∈ gT := gT_4 (List.mem_of_getElem? (i := 48) rfl) rfl
theorem mw_4_49 : Cond.code yX8_disc cX8_disc 1 (some .long) ∈ gT := gT_4 (List.mem_of_getElem? (i := 49) rfl) rfl
theorem mw_4_50 : Cond.methodLink RX8 52 yX8_b2 ∈ gT := gT_4 (List.mem_of_getElem? (i := 50) rfl) rfl
theorem mw_4_52 : Cond.instanceMethod yX8_b2 ∈ gT := gT_4 (List.mem_of_getElem? (i := 52) rfl) rfl
theorem mw_4_53 : Cond.code yX8_b2 cX8_b2 1 (some .long) ∈ gT := gT_4 (List.mem_of_getElem? (i := 53) rfl) rfl
theorem mw_4_54 : Cond.constantLong RX8 48 (4) ∈ gT := gT_4 (List.mem_of_getElem? (i := 54) rfl) rfl
theorem mw_4_55 : Cond.methodLink RX8 58 yX8_b4 ∈ gT := gT_4 (List.mem_of_getElem? (i := 55) rfl) rfl
theorem mw_4_57 : Cond.instanceMethod yX8_b4 ∈ gT := gT_4 (List.mem_of_getElem? (i := 57) rfl) rfl
theorem mw_4_58 : Cond.code yX8_b4 cX8_b4 1 (some .long) ∈ gT := gT_4 (List.mem_of_getElem? (i := 58) rfl) rfl
theorem mw_4_59 : Cond.constantLong RX8 50 (2) ∈ gT := gT_4 (List.mem_of_getElem? (i := 59) rfl) rfl
theorem mw_4_60 : Cond.methodLink RX8 65 yX8_b6 ∈ gT := gT_4 (List.mem_of_getElem? (i := 60) rfl) rfl
theorem mw_4_62 : Cond.instanceMethod yX8_b6 ∈ gT := gT_4 (List.mem_of_getElem? (i := 62) rfl) rfl
theorem mw_4_63 : Cond.code yX8_b6 cX8_b6 1 (some .long) ∈ gT := gT_4 (List.mem_of_getElem? (i := 63) rfl) rfl
theorem mw_4_64 : Cond.methodLink RX8 70 yX8_b8 ∈ gT := gT_4 (List.mem_of_getElem? (i := 64) rfl) rfl
theorem mw_4_66 : Cond.instanceMethod yX8_b8 ∈ gT := gT_4 (List.mem_of_getElem? (i := 66) rfl) rfl
theorem mw_4_67 : Cond.code yX8_b8 cX8_b8 1 (some .long) ∈ gT := gT_4 (List.mem_of_getElem? (i := 67) rfl) rfl
theorem mw_4_68 : Cond.constantLong RX8 73 (8) ∈ gT := gT_4 (List.mem_of_getElem? (i := 68) rfl) rfl
theorem mw_4_69 : Cond.constantLong RX8 75 (27) ∈ gT := gT_4 (List.mem_of_getElem? (i := 69) rfl) rfl
theorem mw_4_70 : Cond.methodLink RX8 112 yX8_keeps ∈ gT := gT_4 (List.mem_of_getElem? (i := 70) rfl) rfl
theorem mw_4_72 : Cond.instanceMethod yX8_keeps ∈ gT := gT_4 (List.mem_of_getElem? (i := 72) rfl) rfl
theorem mw_4_73 : Cond.code yX8_keeps cX8_keeps 2 (some .int) ∈ gT := gT_4 (List.mem_of_getElem? (i := 73) rfl) rfl
theorem mw_4_74 : Cond.methodLink RX8 98 yX8_isSmall ∈ gT := gT_4 (List.mem_of_getElem? (i := 74) rfl) rfl
theorem mw_4_76 : Cond.instanceMethod yX8_isSmall ∈ gT := gT_4 (List.mem_of_getElem? (i := 76) rfl) rfl
theorem mw_4_77 : Cond.code yX8_isSmall cX8_isSmall 3 (some .boolean) ∈ gT := gT_4 (List.mem_of_getElem? (i := 77) rfl) rfl
theorem mw_4_78 : Cond.methodLink RX8 90 yX8_size ∈ gT := gT_4 (List.mem_of_getElem? (i := 78) rfl) rfl
theorem mw_4_79 : Cond.static yX8_size ∈ gT := gT_4 (List.mem_of_getElem? (i := 79) rfl) rfl
theorem mw_4_80 : Cond.code yX8_size cX8_size 2 (some .long) ∈ gT := gT_4 (List.mem_of_getElem? (i := 80) rfl) rfl
theorem mw_4_81 : Cond.constantLong RX8 94 (1000000000000000000) ∈ gT := gT_4 (List.mem_of_getElem? (i := 81) rfl) rfl
theorem mw_4_82 : Cond.constantLong RX8 96 (100000) ∈ gT := gT_4 (List.mem_of_getElem? (i := 82) rfl) rfl
theorem mw_4_84 : Cond.instanceMethod yX8_change ∈ gT := gT_4 (List.mem_of_getElem? (i := 84) rfl) rfl
theorem mw_4_85 : Cond.selects RX8 yX8_change yX8_change ∈ gT := gT_4 (List.mem_of_getElem? (i := 85) rfl) rfl
theorem mw_4_86 : Cond.code yX8_change cX8_change 5 (some .int) ∈ gT := gT_4 (List.mem_of_getElem? (i := 86) rfl) rfl
theorem mw_4_87 : Cond.methodLink RX8 116 yX8_isCurve ∈ gT := gT_4 (List.mem_of_getElem? (i := 87) rfl) rfl
theorem mw_4_89 : Cond.instanceMethod yX8_isCurve ∈ gT := gT_4 (List.mem_of_getElem? (i := 89) rfl) rfl
theorem mw_4_90 : Cond.code yX8_isCurve cX8_isCurve 2 (some .boolean) ∈ gT := gT_4 (List.mem_of_getElem? (i := 90) rfl) rfl
theorem mw_4_91 : Cond.methodLink RX8 120 yX8_loads ∈ gT := gT_4 (List.mem_of_getElem? (i := 91) rfl) rfl
theorem mw_4_93 : Cond.instanceMethod yX8_loads ∈ gT := gT_4 (List.mem_of_getElem? (i := 93) rfl) rfl
theorem mw_4_94 : Cond.code yX8_loads cX8_loads 3 none ∈ gT := gT_4 (List.mem_of_getElem? (i := 94) rfl) rfl
theorem mw_4_95 : Cond.methodLink RX8 124 yX8_changes ∈ gT := gT_4 (List.mem_of_getElem? (i := 95) rfl) rfl
theorem mw_4_97 : Cond.instanceMethod yX8_changes ∈ gT := gT_4 (List.mem_of_getElem? (i := 97) rfl) rfl
theorem mw_4_98 : Cond.code yX8_changes cX8_changes 15 none ∈ gT := gT_4 (List.mem_of_getElem? (i := 98) rfl) rfl
theorem mw_4_99 : Cond.constantLong RX8 77 (3) ∈ gT := gT_4 (List.mem_of_getElem? (i := 99) rfl) rfl
theorem mw_5_1 : Cond.instanceMethod yX8_cubic ∈ gT := gT_5 (List.mem_of_getElem? (i := 1) rfl) rfl
theorem mw_5_10 : Cond.code yX8_slope cX8_slope 5 (some .long) ∈ gT := gT_5 (List.mem_of_getElem? (i := 10) rfl) rfl
theorem mw_5_100 : Cond.code yX8_trace cX8_trace 3 (some .int) ∈ gT := gT_5 (List.mem_of_getElem? (i := 100) rfl) rfl
theorem mw_5_102 : Cond.instanceMethod yX8_best ∈ gT := gT_5 (List.mem_of_getElem? (i := 102) rfl) rfl
theorem mw_5_103 : Cond.selects RX8 yX8_best yX8_best ∈ gT := gT_5 (List.mem_of_getElem? (i := 103) rfl) rfl
theorem mw_5_104 : Cond.code yX8_best cX8_best 8 (some .int) ∈ gT := gT_5 (List.mem_of_getElem? (i := 104) rfl) rfl
theorem mw_5_106 : Cond.instanceMethod yX8_twisted ∈ gT := gT_5 (List.mem_of_getElem? (i := 106) rfl) rfl
theorem mw_5_107 : Cond.selects RX8 yX8_twisted yX8_twisted ∈ gT := gT_5 (List.mem_of_getElem? (i := 107) rfl) rfl
theorem mw_5_108 : Cond.code yX8_twisted cX8_twisted 3 (some .long) ∈ gT := gT_5 (List.mem_of_getElem? (i := 108) rfl) rfl
theorem mw_5_11 : Cond.methodLink RX8 238 yX8_turns ∈ gT := gT_5 (List.mem_of_getElem? (i := 11) rfl) rfl
theorem mw_5_110 : Cond.instanceMethod yX8_small ∈ gT := gT_5 (List.mem_of_getElem? (i := 110) rfl) rfl
theorem mw_5_111 : Cond.selects RX8 yX8_small yX8_small ∈ gT := gT_5 (List.mem_of_getElem? (i := 111) rfl) rfl
theorem mw_5_112 : Cond.code yX8_small cX8_small 2 (some .int) ∈ gT := gT_5 (List.mem_of_getElem? (i := 112) rfl) rfl
theorem mw_5_113 : Cond.methodLink RX8 334 yX8_laysPoints ∈ gT := gT_5 (List.mem_of_getElem? (i := 113) rfl) rfl
theorem mw_5_115 : Cond.instanceMethod yX8_laysPoints ∈ gT := gT_5 (List.mem_of_getElem? (i := 115) rfl) rfl
theorem mw_5_116 : Cond.code yX8_laysPoints cX8_laysPoints 9 none ∈ gT := gT_5 (List.mem_of_getElem? (i := 116) rfl) rfl
theorem mw_5_117 : Cond.constantLong RX8 324 (-60) ∈ gT := gT_5 (List.mem_of_getElem? (i := 117) rfl) rfl
theorem mw_5_118 : Cond.constantLong RX8 326 (60) ∈ gT := gT_5 (List.mem_of_getElem? (i := 118) rfl) rfl
theorem mw_5_119 : Cond.methodLink RX8 328 yX8_rootOf ∈ gT := gT_5 (List.mem_of_getElem? (i := 119) rfl) rfl
theorem mw_5_120 : Cond.static yX8_rootOf ∈ gT := gT_5 (List.mem_of_getElem? (i := 120) rfl) rfl
theorem mw_5_121 : Cond.code yX8_rootOf cX8_rootOf 9 (some .long) ∈ gT := gT_5 (List.mem_of_getElem? (i := 121) rfl) rfl
theorem mw_5_122 : Cond.constantLong RX8 319 (3000000000) ∈ gT := gT_5 (List.mem_of_getElem? (i := 122) rfl) rfl
theorem mw_5_123 : Cond.methodLink RX8 331 yX8_adds ∈ gT := gT_5 (List.mem_of_getElem? (i := 123) rfl) rfl
theorem mw_5_125 : Cond.instanceMethod yX8_adds ∈ gT := gT_5 (List.mem_of_getElem? (i := 125) rfl) rfl
theorem mw_5_126 : Cond.code yX8_adds cX8_adds 5 none ∈ gT := gT_5 (List.mem_of_getElem? (i := 126) rfl) rfl
theorem mw_5_128 : Cond.instanceMethod yX8_point ∈ gT := gT_5 (List.mem_of_getElem? (i := 128) rfl) rfl
theorem mw_5_129 : Cond.selects RX8 yX8_point yX8_point ∈ gT := gT_5 (List.mem_of_getElem? (i := 129) rfl) rfl
theorem mw_5_13 : Cond.instanceMethod yX8_turns ∈ gT := gT_5 (List.mem_of_getElem? (i := 13) rfl) rfl
theorem mw_5_130 : Cond.code yX8_point cX8_point 4 (some .int) ∈ gT := gT_5 (List.mem_of_getElem? (i := 130) rfl) rfl
theorem mw_5_132 : Cond.instanceMethod yX8_minus ∈ gT := gT_5 (List.mem_of_getElem? (i := 132) rfl) rfl
theorem mw_5_133 : Cond.selects RX8 yX8_minus yX8_minus ∈ gT := gT_5 (List.mem_of_getElem? (i := 133) rfl) rfl
theorem mw_5_134 : Cond.code yX8_minus cX8_minus 6 (some .int) ∈ gT := gT_5 (List.mem_of_getElem? (i := 134) rfl) rfl
theorem mw_5_136 : Cond.instanceMethod yX8_count ∈ gT := gT_5 (List.mem_of_getElem? (i := 136) rfl) rfl
theorem mw_5_137 : Cond.selects RX8 yX8_count yX8_count ∈ gT := gT_5 (List.mem_of_getElem? (i := 137) rfl) rfl
theorem mw_5_138 : Cond.code yX8_count cX8_count 4 (some .int) ∈ gT := gT_5 (List.mem_of_getElem? (i := 138) rfl) rfl
theorem mw_5_139 : Cond.methodLink RX8 337 yX8_isUnlike ∈ gT := gT_5 (List.mem_of_getElem? (i := 139) rfl) rfl
theorem mw_5_14 : Cond.code yX8_turns cX8_turns 15 none ∈ gT := gT_5 (List.mem_of_getElem? (i := 14) rfl) rfl
theorem mw_5_141 : Cond.instanceMethod yX8_isUnlike ∈ gT := gT_5 (List.mem_of_getElem? (i := 141) rfl) rfl
theorem mw_5_142 : Cond.code yX8_isUnlike cX8_isUnlike 4 (some .boolean) ∈ gT := gT_5 (List.mem_of_getElem? (i := 142) rfl) rfl
theorem mw_5_143 : Cond.methodLink RX8 340 yX8_isLeast ∈ gT := gT_5 (List.mem_of_getElem? (i := 143) rfl) rfl
theorem mw_5_145 : Cond.instanceMethod yX8_isLeast ∈ gT := gT_5 (List.mem_of_getElem? (i := 145) rfl) rfl
theorem mw_5_146 : Cond.code yX8_isLeast cX8_isLeast 4 (some .boolean) ∈ gT := gT_5 (List.mem_of_getElem? (i := 146) rfl) rfl
theorem mw_5_147 : Cond.methodLink RX8 343 yX8_isLeastEverywhere ∈ gT := gT_5 (List.mem_of_getElem? (i := 147) rfl) rfl
theorem mw_5_149 : Cond.instanceMethod yX8_isLeastEverywhere ∈ gT := gT_5 (List.mem_of_getElem? (i := 149) rfl) rfl
theorem mw_5_15 : Cond.methodLink RX8 205 yX8_areUnlike ∈ gT := gT_5 (List.mem_of_getElem? (i := 15) rfl) rfl
theorem mw_5_150 : Cond.code yX8_isLeastEverywhere cX8_isLeastEverywhere 2 (some .boolean) ∈ gT := gT_5 (List.mem_of_getElem? (i := 150) rfl) rfl
theorem mw_5_16 : Cond.static yX8_areUnlike ∈ gT := gT_5 (List.mem_of_getElem? (i := 16) rfl) rfl
theorem mw_5_17 : Cond.code yX8_areUnlike cX8_areUnlike 8 (some .boolean) ∈ gT := gT_5 (List.mem_of_getElem? (i := 17) rfl) rfl
theorem mw_5_18 : Cond.methodLink RX8 267 yX8_leads ∈ gT := gT_5 (List.mem_of_getElem? (i := 18) rfl) rfl
theorem mw_5_2 : Cond.code yX8_cubic cX8_cubic 5 (some .long) ∈ gT := gT_5 (List.mem_of_getElem? (i := 2) rfl) rfl
theorem mw_5_20 : Cond.instanceMethod yX8_leads ∈ gT := gT_5 (List.mem_of_getElem? (i := 20) rfl) rfl
theorem mw_5_21 : Cond.code yX8_leads cX8_leads 11 none ∈ gT := gT_5 (List.mem_of_getElem? (i := 21) rfl) rfl
theorem mw_5_22 : Cond.constantLong RX8 248 (12) ∈ gT := gT_5 (List.mem_of_getElem? (i := 22) rfl) rfl
theorem mw_5_23 : Cond.constantLong RX8 250 (6) ∈ gT := gT_5 (List.mem_of_getElem? (i := 23) rfl) rfl
theorem mw_5_25 : Cond.instanceMethod yX8_twist ∈ gT := gT_5 (List.mem_of_getElem? (i := 25) rfl) rfl
theorem mw_5_26 : Cond.selects RX8 yX8_twist yX8_twist ∈ gT := gT_5 (List.mem_of_getElem? (i := 26) rfl) rfl
theorem mw_5_27 : Cond.code yX8_twist cX8_twist 3 (some .int) ∈ gT := gT_5 (List.mem_of_getElem? (i := 27) rfl) rfl
theorem mw_5_28 : Cond.methodLink RX8 285 yX8_isTwist ∈ gT := gT_5 (List.mem_of_getElem? (i := 28) rfl) rfl
theorem mw_5_29 : Cond.static yX8_isTwist ∈ gT := gT_5 (List.mem_of_getElem? (i := 29) rfl) rfl
theorem mw_5_3 : Cond.methodLink RX8 234 yX8_movesRoot ∈ gT := gT_5 (List.mem_of_getElem? (i := 3) rfl) rfl
theorem mw_5_30 : Cond.code yX8_isTwist cX8_isTwist 1 (some .boolean) ∈ gT := gT_5 (List.mem_of_getElem? (i := 30) rfl) rfl
theorem mw_5_31 : Cond.constantLong RX8 277 (-10) ∈ gT := gT_5 (List.mem_of_getElem? (i := 31) rfl) rfl
theorem mw_5_32 : Cond.constantLong RX8 279 (10) ∈ gT := gT_5 (List.mem_of_getElem? (i := 32) rfl) rfl
theorem mw_5_33 : Cond.methodLink RX8 288 yX8_twists ∈ gT := gT_5 (List.mem_of_getElem? (i := 33) rfl) rfl
theorem mw_5_35 : Cond.instanceMethod yX8_twists ∈ gT := gT_5 (List.mem_of_getElem? (i := 35) rfl) rfl
theorem mw_5_36 : Cond.code yX8_twists cX8_twists 9 (some .boolean) ∈ gT := gT_5 (List.mem_of_getElem? (i := 36) rfl) rfl
theorem mw_5_37 : Cond.constantLong RX8 281 (2000000000) ∈ gT := gT_5 (List.mem_of_getElem? (i := 37) rfl) rfl
theorem mw_5_38 : Cond.constantLong RX8 283 (16) ∈ gT := gT_5 (List.mem_of_getElem? (i := 38) rfl) rfl
theorem mw_5_40 : Cond.instanceMethod yX8_of ∈ gT := gT_5 (List.mem_of_getElem? (i := 40) rfl) rfl
theorem mw_5_41 : Cond.selects RX8 yX8_of yX8_of ∈ gT := gT_5 (List.mem_of_getElem? (i := 41) rfl) rfl
theorem mw_5_42 : Cond.code yX8_of cX8_of 3 (some .long) ∈ gT := gT_5 (List.mem_of_getElem? (i := 42) rfl) rfl
theorem mw_5_43 : Cond.constantLong RX8 292 (11) ∈ gT := gT_5 (List.mem_of_getElem? (i := 43) rfl) rfl
theorem mw_5_44 : Cond.methodLink RX8 294 yX8_told ∈ gT := gT_5 (List.mem_of_getElem? (i := 44) rfl) rfl
theorem mw_5_46 : Cond.instanceMethod yX8_told ∈ gT := gT_5 (List.mem_of_getElem? (i := 46) rfl) rfl
theorem mw_5_47 : Cond.code yX8_told cX8_told 2 (some .long) ∈ gT := gT_5 (List.mem_of_getElem? (i := 47) rfl) rfl
theorem mw_5_49 : Cond.instanceMethod yX8_leastOf ∈ gT := gT_5 (List.mem_of_getElem? (i := 49) rfl) rfl
theorem mw_5_5 : Cond.instanceMethod yX8_movesRoot ∈ gT := gT_5 (List.mem_of_getElem? (i := 5) rfl) rfl
theorem mw_5_50 : Cond.selects RX8 yX8_leastOf yX8_leastOf ∈ gT := gT_5 (List.mem_of_getElem? (i := 50) rfl) rfl
theorem mw_5_51 : Cond.code yX8_leastOf cX8_leastOf 3 (some .long) ∈ gT := gT_5 (List.mem_of_getElem? (i := 51) rfl) rfl
theorem mw_5_53 : Cond.instanceMethod yX8_at ∈ gT := gT_5 (List.mem_of_getElem? (i := 53) rfl) rfl
theorem mw_5_54 : Cond.selects RX8 yX8_at yX8_at ∈ gT := gT_5 (List.mem_of_getElem? (i := 54) rfl) rfl
theorem mw_5_55 : Cond.code yX8_at cX8_at 4 (some .int) ∈ gT := gT_5 (List.mem_of_getElem? (i := 55) rfl) rfl
theorem mw_5_56 : Cond.methodLink RX8 297 yX8_isPrime ∈ gT := gT_5 (List.mem_of_getElem? (i := 56) rfl) rfl
theorem mw_5_57 : Cond.static yX8_isPrime ∈ gT := gT_5 (List.mem_of_getElem? (i := 57) rfl) rfl
theorem mw_5_58 : Cond.code yX8_isPrime cX8_isPrime 5 (some .boolean) ∈ gT := gT_5 (List.mem_of_getElem? (i := 58) rfl) rfl
theorem mw_5_59 : Cond.constantLong RX8 300 (7) ∈ gT := gT_5 (List.mem_of_getElem? (i := 59) rfl) rfl
theorem mw_5_6 : Cond.code yX8_movesRoot cX8_movesRoot 6 none ∈ gT := gT_5 (List.mem_of_getElem? (i := 6) rfl) rfl
theorem mw_5_61 : Cond.instanceMethod yX8_prime ∈ gT := gT_5 (List.mem_of_getElem? (i := 61) rfl) rfl
theorem mw_5_62 : Cond.selects RX8 yX8_prime yX8_prime ∈ gT := gT_5 (List.mem_of_getElem? (i := 62) rfl) rfl
theorem mw_5_63 : Cond.code yX8_prime cX8_prime 3 (some .int) ∈ gT := gT_5 (List.mem_of_getElem? (i := 63) rfl) rfl
theorem mw_5_65 : Cond.instanceMethod yX8_conductor ∈ gT := gT_5 (List.mem_of_getElem? (i := 65) rfl) rfl
theorem mw_5_66 : Cond.selects RX8 yX8_conductor yX8_conductor ∈ gT := gT_5 (List.mem_of_getElem? (i := 66) rfl) rfl
theorem mw_5_67 : Cond.code yX8_conductor cX8_conductor 2 (some .long) ∈ gT := gT_5 (List.mem_of_getElem? (i := 67) rfl) rfl
theorem mw_5_68 : Cond.methodLink RX8 302 yX8_together ∈ gT := gT_5 (List.mem_of_getElem? (i := 68) rfl) rfl
theorem mw_5_7 : Cond.methodLink RX8 202 yX8_slope ∈ gT := gT_5 (List.mem_of_getElem? (i := 7) rfl) rfl
theorem mw_5_70 : Cond.instanceMethod yX8_together ∈ gT := gT_5 (List.mem_of_getElem? (i := 70) rfl) rfl
theorem mw_5_71 : Cond.code yX8_together cX8_together 5 (some .long) ∈ gT := gT_5 (List.mem_of_getElem? (i := 71) rfl) rfl
theorem mw_5_73 : Cond.instanceMethod yX8_own ∈ gT := gT_5 (List.mem_of_getElem? (i := 73) rfl) rfl
theorem mw_5_74 : Cond.selects RX8 yX8_own yX8_own ∈ gT := gT_5 (List.mem_of_getElem? (i := 74) rfl) rfl
theorem mw_5_75 : Cond.code yX8_own cX8_own 2 (some .long) ∈ gT := gT_5 (List.mem_of_getElem? (i := 75) rfl) rfl
theorem mw_5_76 : Cond.constantLong RX8 306 (-1) ∈ gT := gT_5 (List.mem_of_getElem? (i := 76) rfl) rfl
theorem mw_5_78 : Cond.instanceMethod yX8_one ∈ gT := gT_5 (List.mem_of_getElem? (i := 78) rfl) rfl
theorem mw_5_79 : Cond.selects RX8 yX8_one yX8_one ∈ gT := gT_5 (List.mem_of_getElem? (i := 79) rfl) rfl
theorem mw_5_80 : Cond.code yX8_one cX8_one 3 (some .boolean) ∈ gT := gT_5 (List.mem_of_getElem? (i := 80) rfl) rfl
theorem mw_5_81 : Cond.methodLink RX8 308 yX8_areOne ∈ gT := gT_5 (List.mem_of_getElem? (i := 81) rfl) rfl
theorem mw_5_83 : Cond.instanceMethod yX8_areOne ∈ gT := gT_5 (List.mem_of_getElem? (i := 83) rfl) rfl
theorem mw_5_84 : Cond.code yX8_areOne cX8_areOne 5 (some .boolean) ∈ gT := gT_5 (List.mem_of_getElem? (i := 84) rfl) rfl
theorem mw_5_86 : Cond.instanceMethod yX8_points ∈ gT := gT_5 (List.mem_of_getElem? (i := 86) rfl) rfl
theorem mw_5_87 : Cond.selects RX8 yX8_points yX8_points ∈ gT := gT_5 (List.mem_of_getElem? (i := 87) rfl) rfl
theorem mw_5_88 : Cond.code yX8_points cX8_points 3 (some .int) ∈ gT := gT_5 (List.mem_of_getElem? (i := 88) rfl) rfl
theorem mw_5_89 : Cond.methodLink RX8 313 yX8_isPointed ∈ gT := gT_5 (List.mem_of_getElem? (i := 89) rfl) rfl
theorem mw_5_9 : Cond.instanceMethod yX8_slope ∈ gT := gT_5 (List.mem_of_getElem? (i := 9) rfl) rfl
theorem mw_5_90 : Cond.static yX8_isPointed ∈ gT := gT_5 (List.mem_of_getElem? (i := 90) rfl) rfl
theorem mw_5_91 : Cond.code yX8_isPointed cX8_isPointed 1 (some .boolean) ∈ gT := gT_5 (List.mem_of_getElem? (i := 91) rfl) rfl
theorem mw_5_92 : Cond.constantLong RX8 311 (199) ∈ gT := gT_5 (List.mem_of_getElem? (i := 92) rfl) rfl
theorem mw_5_93 : Cond.methodLink RX8 316 yX8_pointsOf ∈ gT := gT_5 (List.mem_of_getElem? (i := 93) rfl) rfl
theorem mw_5_95 : Cond.instanceMethod yX8_pointsOf ∈ gT := gT_5 (List.mem_of_getElem? (i := 95) rfl) rfl
theorem mw_5_96 : Cond.code yX8_pointsOf cX8_pointsOf 10 (some .int) ∈ gT := gT_5 (List.mem_of_getElem? (i := 96) rfl) rfl
theorem mw_5_98 : Cond.instanceMethod yX8_trace ∈ gT := gT_5 (List.mem_of_getElem? (i := 98) rfl) rfl
theorem mw_5_99 : Cond.selects RX8 yX8_trace yX8_trace ∈ gT := gT_5 (List.mem_of_getElem? (i := 99) rfl) rfl
