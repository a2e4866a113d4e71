theorem lk_J13_311 : LkS RJ13 311 yJ6_numberOfTrailingZeros_0f7a4 cJ6_numberOfTrailingZeros_0f7a4 2 (some .int) 1 := ⟨qM_J13_311, qT_J6_numberOfTrailingZeros_0f7a4, qi_J6, qC_J6_numberOfTrailingZeros_0f7a4, by decide +kernel, by decide +kernel, by decide +kernel, by decide⟩
theorem lk_X0_25 : LkV RX0 25 RX2 yX2_becomeLike cX2_becomeLike 3 (none) 1 := ⟨qM_X0_25, qI_X2_becomeLike, qS_X2_becomeLike, qi_X2, qC_X2_becomeLike, by decide +kernel, by decide +kernel, by decide +kernel, by decide⟩
theorem lk_X1_40 : LkV RX1 40 RX1 yX1_leave cX1_leave 2 (none) 1 := ⟨qM_X1_40, qI_X1_leave, qS_X1_leave, qi_X1, qC_X1_leave, by decide +kernel, by decide +kernel, by decide +kernel, by decide⟩
theorem lk_X1_44 : LkV RX1 44 RX1 yX1_sizeOfPlain cX1_sizeOfPlain 2 (some .int) 0 := ⟨qM_X1_44, qI_X1_sizeOfPlain, qS_X1_sizeOfPlain, qi_X1, qC_X1_sizeOfPlain, by decide +kernel, by decide +kernel, by decide +kernel, by decide⟩
theorem lk_X1_48 : LkV RX1 48 RX1 yX1_sizeOfAnyCopy cX1_sizeOfAnyCopy 1 (some .int) 0 := ⟨qM_X1_48, qI_X1_sizeOfAnyCopy, qS_X1_sizeOfAnyCopy, qi_X1, qC_X1_sizeOfAnyCopy, by decide +kernel, by decide +kernel, by decide +kernel, by decide⟩
theorem lk_X1_51 : LkV RX1 51 RX1 yX1_markOfCopy cX1_markOfCopy 2 (some .int) 0 := ⟨qM_X1_51, qI_X1_markOfCopy, qS_X1_markOfCopy, qi_X1, qC_X1_markOfCopy, by decide +kernel, by decide +kernel, by decide +kernel, by decide⟩
theorem lk_X1_54 : LkV RX1 54 RX1 yX1_markOfAnyPlain cX1_markOfAnyPlain 1 (some .int) 0 := ⟨qM_X1_54, qI_X1_markOfAnyPlain, qS_X1_markOfAnyPlain, qi_X1, qC_X1_markOfAnyPlain, by decide +kernel, by decide +kernel, by decide +kernel, by decide⟩
theorem lk_X1_57 : LkV RX1 57 RX1 yX1_sizeOfCopy cX1_sizeOfCopy 1 (some .int) 0 := ⟨qM_X1_57, qI_X1_sizeOfCopy, qS_X1_sizeOfCopy, qi_X1, qC_X1_sizeOfCopy, by decide +kernel, by decide +kernel, by decide +kernel, by decide⟩
theorem lk_X1_60 : LkV RX1 60 RX1 yX1_markOfPlain cX1_markOfPlain 1 (some .int) 0 := ⟨qM_X1_60, qI_X1_markOfPlain, qS_X1_markOfPlain, qi_X1, qC_X1_markOfPlain, by decide +kernel, by decide +kernel, by decide +kernel, by decide⟩
theorem lk_X1_63 : LkV RX1 63 RX1 yX1_sizeLent cX1_sizeLent 1 (some .int) 0 := ⟨qM_X1_63, qI_X1_sizeLent, qS_X1_sizeLent, qi_X1, qC_X1_sizeLent, by decide +kernel, by decide +kernel, by decide +kernel, by decide⟩
theorem lk_X1_66 : LkV RX1 66 RX1 yX1_markLent cX1_markLent 1 (some .int) 0 := ⟨qM_X1_66, qI_X1_markLent, qS_X1_markLent, qi_X1, qC_X1_markLent, by decide +kernel, by decide +kernel, by decide +kernel, by decide⟩
theorem lk_X10_19 : LkV RX10 19 RX10 yX10_at cX10_at 2 (some .int) 1 := ⟨qM_X10_19, qI_X10_at, qS_X10_at, qi_X10, qC_X10_at, by decide +kernel, by decide +kernel, by decide +kernel, by decide⟩
theorem lk_X10_34 : LkV RX10 34 RX10 yX10_spells cX10_spells 3 (some .boolean) 1 := ⟨qM_X10_34, qI_X10_spells, qS_X10_spells, qi_X10, qC_X10_spells, by decide +kernel, by decide +kernel, by decide +kernel, by decide⟩
theorem lk_X11_80 : LkS RX11 80 yX11_isRow cX11_isRow 1 (some .boolean) 1 := ⟨qM_X11_80, qT_X11_isRow, qi_X11, qC_X11_isRow, by decide +kernel, by decide +kernel, by decide +kernel, by decide⟩
theorem lk_X11_85 : LkV RX11 85 RX11 yX11_finds cX11_finds 2 (some .int) 1 := ⟨qM_X11_85, qI_X11_finds, qS_X11_finds, qi_X11, qC_X11_finds, by decide +kernel, by decide +kernel, by decide +kernel, by decide⟩
theorem lk_X11_89 : LkV RX11 89 RX8 yX8_lay cX8_lay 4 (none) 3 := ⟨qM_X11_89, qI_X8_lay, qS_X8_lay, qi_X8, qC_X8_lay, by decide +kernel, by decide +kernel, by decide +kernel, by decide⟩
theorem lk_X11_93 : LkV RX11 93 RX8 yX8_isMissing cX8_isMissing 2 (some .boolean) 1 := ⟨qM_X11_93, qI_X8_isMissing, qS_X8_isMissing, qi_X8, qC_X8_isMissing, by decide +kernel, by decide +kernel, by decide +kernel, by decide⟩
theorem lk_X11_96 : LkV RX11 96 RX8 yX8_holds cX8_holds 4 (some .boolean) 3 := ⟨qM_X11_96, qI_X8_holds, qS_X8_holds, qi_X8, qC_X8_holds, by decide +kernel, by decide +kernel, by decide +kernel, by decide⟩
theorem lk_X11_100 : LkV RX11 100 RX8 yX8_write cX8_write 5 (some .int) 3 := ⟨qM_X11_100, qI_X8_write, qS_X8_write, qi_X8, qC_X8_write, by decide +kernel, by decide +kernel, by decide +kernel, by decide⟩
theorem lk_X11_118 : LkV RX11 118 RX8 yX8_lose cX8_lose 3 (some .int) 1 := ⟨qM_X11_118, qI_X8_lose, qS_X8_lose, qi_X8, qC_X8_lose, by decide +kernel, by decide +kernel, by decide +kernel, by decide⟩
theorem lk_X11_125 : LkV RX11 125 RX10 yX10_add cX10_add 2 (some .int) 1 := ⟨qM_X11_125, qI_X10_add, qS_X10_add, qi_X10, qC_X10_add, by decide +kernel, by decide +kernel, by decide +kernel, by decide⟩
theorem lk_X11_128 : LkV RX11 128 RX7 yX7_reads cX7_reads 3 (some .boolean) 1 := ⟨qM_X11_128, qI_X7_reads, qS_X7_reads, qi_X7, qC_X7_reads, by decide +kernel, by decide +kernel, by decide +kernel, by decide⟩
theorem lk_X11_142 : LkV RX11 142 RX11 yX11_begin cX11_begin 2 (none) 1 := ⟨qM_X11_142, qI_X11_begin, qS_X11_begin, qi_X11, qC_X11_begin, by decide +kernel, by decide +kernel, by decide +kernel, by decide⟩
theorem lk_X11_153 : LkV RX11 153 RX0 yX0_goBack cX0_goBack 2 (none) 1 := ⟨qM_X11_153, qI_X0_goBack, qS_X0_goBack, qi_X0, qC_X0_goBack, by decide +kernel, by decide +kernel, by decide +kernel, by decide⟩
theorem lk_X11_156 : LkV RX11 156 RX11 yX11_isWithoutBook cX11_isWithoutBook 1 (some .boolean) 0 := ⟨qM_X11_156, qI_X11_isWithoutBook, qS_X11_isWithoutBook, qi_X11, qC_X11_isWithoutBook, by decide +kernel, by decide +kernel, by decide +kernel, by decide⟩
theorem lk_X11_160 : LkS RX11 160 yX11_isKindOfPage cX11_isKindOfPage 1 (some .boolean) 1 := ⟨qM_X11_160, qT_X11_isKindOfPage, qi_X11, qC_X11_isKindOfPage, by decide +kernel, by decide +kernel, by decide +kernel, by decide⟩
theorem lk_X11_163 : LkS RX11 163 yX11_isMeasure cX11_isMeasure 1 (some .boolean) 1 := ⟨qM_X11_163, qT_X11_isMeasure, qi_X11, qC_X11_isMeasure, by decide +kernel, by decide +kernel, by decide +kernel, by decide⟩
theorem lk_X11_166 : LkV RX11 166 RX11 yX11_beginAct cX11_beginAct 1 (none) 0 := ⟨qM_X11_166, qI_X11_beginAct, qS_X11_beginAct, qi_X11, qC_X11_beginAct, by decide +kernel, by decide +kernel, by decide +kernel, by decide⟩
theorem lk_X11_169 : LkV RX11 169 RX2 yX2_insert cX2_insert 7 (none) 5 := ⟨qM_X11_169, qI_X2_insert, qS_X2_insert, qi_X2, qC_X2_insert, by decide +kernel, by decide +kernel, by decide +kernel, by decide⟩
theorem lk_X11_173 : LkV RX11 173 RX11 yX11_isPage cX11_isPage 2 (some .boolean) 1 := ⟨qM_X11_173, qI_X11_isPage, qS_X11_isPage, qi_X11, qC_X11_isPage, by decide +kernel, by decide +kernel, by decide +kernel, by decide⟩
theorem lk_X11_176 : LkV RX11 176 RX2 yX2_cut cX2_cut 3 (none) 1 := ⟨qM_X11_176, qI_X2_cut, qS_X2_cut, qi_X2, qC_X2_cut, by decide +kernel, by decide +kernel, by decide +kernel, by decide⟩
theorem lk_X11_180 : LkV RX11 180 RX2 yX2_carry cX2_carry 7 (none) 2 := ⟨qM_X11_180, qI_X2_carry, qS_X2_carry, qi_X2, qC_X2_carry, by decide +kernel, by decide +kernel, by decide +kernel, by decide⟩
theorem lk_X11_196 : LkV RX11 196 RX11 yX11_look cX11_look 1 (none) 0 := ⟨qM_X11_196, qI_X11_look, qS_X11_look, qi_X11, qC_X11_look, by decide +kernel, by decide +kernel, by decide +kernel, by decide⟩
theorem lk_X11_232 : LkV RX11 232 RX5 yX5_widest cX5_widest 4 (some .int) 1 := ⟨qM_X11_232, qI_X5_widest, qS_X5_widest, qi_X5, qC_X5_widest, by decide +kernel, by decide +kernel, by decide +kernel, by decide⟩
theorem lk_X11_235 : LkV RX11 235 RX11 yX11_answer cX11_answer 2 (some .int) 1 := ⟨qM_X11_235, qI_X11_answer, qS_X11_answer, qi_X11, qC_X11_answer, by decide +kernel, by decide +kernel, by decide +kernel, by decide⟩
theorem lk_X11_242 : LkV RX11 242 RX5 yX5_middle cX5_middle 6 (some .int) 1 := ⟨qM_X11_242, qI_X5_middle, qS_X5_middle, qi_X5, qC_X5_middle, by decide +kernel, by decide +kernel, by decide +kernel, by decide⟩
theorem lk_X11_254 : LkV RX11 254 RX10 yX10_asks cX10_asks 1 (some .int) 0 := ⟨qM_X11_254, qI_X10_asks, qS_X10_asks, qi_X10, qC_X10_asks, by decide +kernel, by decide +kernel, by decide +kernel, by decide⟩
theorem lk_X11_257 : LkV RX11 257 RX3 yX3_handsWithout cX3_handsWithout 3 (some .int) 2 := ⟨qM_X11_257, qI_X3_handsWithout, qS_X3_handsWithout, qi_X3, qC_X3_handsWithout, by decide +kernel, by decide +kernel, by decide +kernel, by decide⟩
theorem lk_X11_261 : LkV RX11 261 RX3 yX3_leastLimit cX3_leastLimit 7 (some .int) 2 := ⟨qM_X11_261, qI_X3_leastLimit, qS_X3_leastLimit, qi_X3, qC_X3_leastLimit, by decide +kernel, by decide +kernel, by decide +kernel, by decide⟩
theorem lk_X11_267 : LkV RX11 267 RX3 yX3_hear cX3_hear 5 (none) 3 := ⟨qM_X11_267, qI_X3_hear, qS_X3_hear, qi_X3, qC_X3_hear, by decide +kernel, by decide +kernel, by decide +kernel, by decide⟩
theorem lk_X11_271 : LkV RX11 271 RX3 yX3_kindsOf cX3_kindsOf 5 (some .int) 2 := ⟨qM_X11_271, qI_X3_kindsOf, qS_X3_kindsOf, qi_X3, qC_X3_kindsOf, by decide +kernel, by decide +kernel, by decide +kernel, by decide⟩
theorem lk_X11_274 : LkV RX11 274 RX3 yX3_numbersOf cX3_numbersOf 6 (some .int) 3 := ⟨qM_X11_274, qI_X3_numbersOf, qS_X3_numbersOf, qi_X3, qC_X3_numbersOf, by decide +kernel, by decide +kernel, by decide +kernel, by decide⟩
theorem lk_X11_278 : LkV RX11 278 RX3 yX3_limitsOf cX3_limitsOf 5 (some .long) 1 := ⟨qM_X11_278, qI_X3_limitsOf, qS_X3_limitsOf, qi_X3, qC_X3_limitsOf, by decide +kernel, by decide +kernel, by decide +kernel, by decide⟩
theorem lk_X11_282 : LkS RX11 282 yJ13_bitCount_95d88 cJ13_bitCount_95d88 2 (some .int) 1 := ⟨qM_X11_282, qT_J13_bitCount_95d88, qi_J13, qC_J13_bitCount_95d88, by decide +kernel, by decide +kernel, by decide +kernel, by decide⟩
theorem lk_X11_288 : LkS RX11 288 yJ13_numberOfTrailingZeros_95d88 cJ13_numberOfTrailingZeros_95d88 3 (some .int) 1 := ⟨qM_X11_288, qT_J13_numberOfTrailingZeros_95d88, qi_J13, qC_J13_numberOfTrailingZeros_95d88, by decide +kernel, by decide +kernel, by decide +kernel, by decide⟩
theorem lk_X11_295 : LkV RX11 295 RX3 yX3_goodCases cX3_goodCases 7 (some .long) 3 := ⟨qM_X11_295, qI_X3_goodCases, qS_X3_goodCases, qi_X3, qC_X3_goodCases, by decide +kernel, by decide +kernel, by decide +kernel, by decide⟩
theorem lk_X11_299 : LkS RX11 299 yX11_power cX11_power 5 (some .long) 2 := ⟨qM_X11_299, qT_X11_power, qi_X11, qC_X11_power, by decide +kernel, by decide +kernel, by decide +kernel, by decide⟩
theorem lk_X11_303 : LkS RX11 303 yX11_sharedDivisor cX11_sharedDivisor 11 (some .long) 2 := ⟨qM_X11_303, qT_X11_sharedDivisor, qi_X11, qC_X11_sharedDivisor, by decide +kernel, by decide +kernel, by decide +kernel, by decide⟩
theorem lk_X11_308 : LkV RX11 308 RX3 yX3_draw cX3_draw 10 (some .int) 3 := ⟨qM_X11_308, qI_X3_draw, qS_X3_draw, qi_X3, qC_X3_draw, by decide +kernel, by decide +kernel, by decide +kernel, by decide⟩
theorem lk_X11_311 : LkV RX11 311 RX3 yX3_spreadOfAll cX3_spreadOfAll 1 (some .int) 0 := ⟨qM_X11_311, qI_X3_spreadOfAll, qS_X3_spreadOfAll, qi_X3, qC_X3_spreadOfAll, by decide +kernel, by decide +kernel, by decide +kernel, by decide⟩
theorem lk_X11_314 : LkV RX11 314 RX2 yX2_becomeLike cX2_becomeLike 3 (none) 1 := ⟨qM_X11_314, qI_X2_becomeLike, qS_X2_becomeLike, qi_X2, qC_X2_becomeLike, by decide +kernel, by decide +kernel, by decide +kernel, by decide⟩
theorem lk_X11_317 : LkS RX11 317 yX11_isSuch cX11_isSuch 4 (some .boolean) 2 := ⟨qM_X11_317, qT_X11_isSuch, qi_X11, qC_X11_isSuch, by decide +kernel, by decide +kernel, by decide +kernel, by decide⟩
theorem lk_X11_321 : LkV RX11 321 RX1 yX1_begin cX1_begin 4 (none) 3 := ⟨qM_X11_321, qI_X1_begin, qS_X1_begin, qi_X1, qC_X1_begin, by decide +kernel, by decide +kernel, by decide +kernel, by decide⟩
theorem lk_X11_324 : LkV RX11 324 RX1 yX1_size cX1_size 1 (some .int) 0 := ⟨qM_X11_324, qI_X1_size, qS_X1_size, qi_X1, qC_X1_size, by decide +kernel, by decide +kernel, by decide +kernel, by decide⟩
theorem lk_X11_327 : LkV RX11 327 RX1 yX1_mark cX1_mark 1 (some .int) 0 := ⟨qM_X11_327, qI_X1_mark, qS_X1_mark, qi_X1, qC_X1_mark, by decide +kernel, by decide +kernel, by decide +kernel, by decide⟩
theorem lk_X11_336 : LkV RX11 336 RX8 yX8_laid cX8_laid 3 (some .int) 0 := ⟨qM_X11_336, qI_X8_laid, qS_X8_laid, qi_X8, qC_X8_laid, by decide +kernel, by decide +kernel, by decide +kernel, by decide⟩
theorem lk_X11_339 : LkV RX11 339 RX2 yX2_together cX2_together 4 (some .int) 1 := ⟨qM_X11_339, qI_X2_together, qS_X2_together, qi_X2, qC_X2_together, by decide +kernel, by decide +kernel, by decide +kernel, by decide⟩
theorem lk_X11_343 : LkV RX11 343 RX0 yX0_forgetAll cX0_forgetAll 1 (none) 0 := ⟨qM_X11_343, qI_X0_forgetAll, qS_X0_forgetAll, qi_X0, qC_X0_forgetAll, by decide +kernel, by decide +kernel, by decide +kernel, by decide⟩
theorem lk_X11_346 : LkV RX11 346 RX0 yX0_keep cX0_keep 2 (none) 1 := ⟨qM_X11_346, qI_X0_keep, qS_X0_keep, qi_X0, qC_X0_keep, by decide +kernel, by decide +kernel, by decide +kernel, by decide⟩
theorem lk_X11_349 : LkV RX11 349 RX4 yX4_lookAt cX4_lookAt 2 (none) 1 := ⟨qM_X11_349, qI_X4_lookAt, qS_X4_lookAt, qi_X4, qC_X4_lookAt, by decide +kernel, by decide +kernel, by decide +kernel, by decide⟩
theorem lk_X11_352 : LkS RX11 352 yJ6_bitCount_0f7a4 cJ6_bitCount_0f7a4 1 (some .int) 1 := ⟨qM_X11_352, qT_J6_bitCount_0f7a4, qi_J6, qC_J6_bitCount_0f7a4, by decide +kernel, by decide +kernel, by decide +kernel, by decide⟩
theorem lk_X12_75 : LkS RX12 75 yX12_in cX12_in 6 (some .boolean) 3 := ⟨qM_X12_75, qT_X12_in, qi_X12, qC_X12_in, by decide +kernel, by decide +kernel, by decide +kernel, by decide⟩
theorem lk_X12_79 : LkS RX12 79 yX12_isRow cX12_isRow 1 (some .boolean) 1 := ⟨qM_X12_79, qT_X12_isRow, qi_X12, qC_X12_isRow, by decide +kernel, by decide +kernel, by decide +kernel, by decide⟩
theorem lk_X12_86 : LkV RX12 86 RX12 yX12_finding cX12_finding 2 (some .int) 1 := ⟨qM_X12_86, qI_X12_finding, qS_X12_finding, qi_X12, qC_X12_finding, by decide +kernel, by decide +kernel, by decide +kernel, by decide⟩
theorem lk_X12_90 : LkS RX12 90 yX12_has cX12_has 2 (some .boolean) 2 := ⟨qM_X12_90, qT_X12_has, qi_X12, qC_X12_has, by decide +kernel, by decide +kernel, by decide +kernel, by decide⟩
theorem lk_X12_127 : LkV RX12 127 RX12 yX12_bad cX12_bad 2 (none) 1 := ⟨qM_X12_127, qI_X12_bad, qS_X12_bad, qi_X12, qC_X12_bad, by decide +kernel, by decide +kernel, by decide +kernel, by decide⟩
theorem lk_X12_131 : LkV RX12 131 RX12 yX12_nextToken cX12_nextToken 1 (none) 0 := ⟨qM_X12_131, qI_X12_nextToken, qS_X12_nextToken, qi_X12, qC_X12_nextToken, by decide +kernel, by decide +kernel, by decide +kernel, by decide⟩
theorem lk_X12_134 : LkV RX12 134 RX12 yX12_must cX12_must 2 (none) 1 := ⟨qM_X12_134, qI_X12_must, qS_X12_must, qi_X12, qC_X12_must, by decide +kernel, by decide +kernel, by decide +kernel, by decide⟩
theorem lk_X12_138 : LkS RX12 138 yX12_sortOf cX12_sortOf 1 (some .int) 1 := ⟨qM_X12_138, qT_X12_sortOf, qi_X12, qC_X12_sortOf, by decide +kernel, by decide +kernel, by decide +kernel, by decide⟩
theorem lk_X12_141 : LkV RX12 141 RX12 yX12_number cX12_number 4 (some .int) 2 := ⟨qM_X12_141, qI_X12_number, qS_X12_number, qi_X12, qC_X12_number, by decide +kernel, by decide +kernel, by decide +kernel, by decide⟩
theorem lk_X12_145 : LkV RX12 145 RX12 yX12_mustSign cX12_mustSign 2 (none) 1 := ⟨qM_X12_145, qI_X12_mustSign, qS_X12_mustSign, qi_X12, qC_X12_mustSign, by decide +kernel, by decide +kernel, by decide +kernel, by decide⟩
theorem lk_X12_148 : LkV RX12 148 RX12 yX12_readPage cX12_readPage 3 (none) 0 := ⟨qM_X12_148, qI_X12_readPage, qS_X12_readPage, qi_X12, qC_X12_readPage, by decide +kernel, by decide +kernel, by decide +kernel, by decide⟩
theorem lk_X12_159 : LkV RX12 159 RX12 yX12_isThere cX12_isThere 1 (some .boolean) 0 := ⟨qM_X12_159, qI_X12_isThere, qS_X12_isThere, qi_X12, qC_X12_isThere, by decide +kernel, by decide +kernel, by decide +kernel, by decide⟩
theorem lk_X12_167 : LkV RX12 167 RX12 yX12_keeps cX12_keeps 2 (none) 0 := ⟨qM_X12_167, qI_X12_keeps, qS_X12_keeps, qi_X12, qC_X12_keeps, by decide +kernel, by decide +kernel, by decide +kernel, by decide⟩
theorem lk_X12_170 : LkS RX12 170 yX12_opens cX12_opens 3 (none) 2 := ⟨qM_X12_170, qT_X12_opens, qi_X12, qC_X12_opens, by decide +kernel, by decide +kernel, by decide +kernel, by decide⟩
theorem lk_X12_174 : LkS RX12 174 yX12_lays cX12_lays 7 (none) 6 := ⟨qM_X12_174, qT_X12_lays, qi_X12, qC_X12_lays, by decide +kernel, by decide +kernel, by decide +kernel, by decide⟩
theorem lk_X12_178 : LkV RX12 178 RX12 yX12_isPage cX12_isPage 2 (some .boolean) 1 := ⟨qM_X12_178, qI_X12_isPage, qS_X12_isPage, qi_X12, qC_X12_isPage, by decide +kernel, by decide +kernel, by decide +kernel, by decide⟩
theorem lk_X12_181 : LkS RX12 181 yX12_closes cX12_closes 3 (none) 2 := ⟨qM_X12_181, qT_X12_closes, qi_X12, qC_X12_closes, by decide +kernel, by decide +kernel, by decide +kernel, by decide⟩
theorem lk_X12_184 : LkS RX12 184 yX12_kindOf cX12_kindOf 2 (some .int) 2 := ⟨qM_X12_184, qT_X12_kindOf, qi_X12, qC_X12_kindOf, by decide +kernel, by decide +kernel, by decide +kernel, by decide⟩
theorem lk_X12_192 : LkS RX12 192 yX12_awayBy cX12_awayBy 5 (some .int) 4 := ⟨qM_X12_192, qT_X12_awayBy, qi_X12, qC_X12_awayBy, by decide +kernel, by decide +kernel, by decide +kernel, by decide⟩
theorem lk_X12_196 : LkS RX12 196 yX12_givenBy cX12_givenBy 5 (some .int) 4 := ⟨qM_X12_196, qT_X12_givenBy, qi_X12, qC_X12_givenBy, by decide +kernel, by decide +kernel, by decide +kernel, by decide⟩
theorem lk_X12_200 : LkS RX12 200 yX12_farOf cX12_farOf 8 (some .int) 3 := ⟨qM_X12_200, qT_X12_farOf, qi_X12, qC_X12_farOf, by decide +kernel, by decide +kernel, by decide +kernel, by decide⟩
theorem lk_X12_204 : LkS RX12 204 yX12_allOf cX12_allOf 1 (some .int) 1 := ⟨qM_X12_204, qT_X12_allOf, qi_X12, qC_X12_allOf, by decide +kernel, by decide +kernel, by decide +kernel, by decide⟩
theorem lk_X12_208 : LkS RX12 208 yX12_spreadOf cX12_spreadOf 6 (some .int) 2 := ⟨qM_X12_208, qT_X12_spreadOf, qi_X12, qC_X12_spreadOf, by decide +kernel, by decide +kernel, by decide +kernel, by decide⟩
theorem lk_X12_211 : LkV RX12 211 RX12 yX12_nextJoin cX12_nextJoin 6 (some .int) 0 := ⟨qM_X12_211, qI_X12_nextJoin, qS_X12_nextJoin, qi_X12, qC_X12_nextJoin, by decide +kernel, by decide +kernel, by decide +kernel, by decide⟩
theorem lk_X12_215 : LkS RX12 215 yX12_firstOf cX12_firstOf 2 (some .int) 1 := ⟨qM_X12_215, qT_X12_firstOf, qi_X12, qC_X12_firstOf, by decide +kernel, by decide +kernel, by decide +kernel, by decide⟩
theorem lk_X12_218 : LkV RX12 218 RX12 yX12_oneOf cX12_oneOf 2 (some .int) 1 := ⟨qM_X12_218, qI_X12_oneOf, qS_X12_oneOf, qi_X12, qC_X12_oneOf, by decide +kernel, by decide +kernel, by decide +kernel, by decide⟩
theorem lk_X12_221 : LkV RX12 221 RX12 yX12_opensSet cX12_opensSet 3 (none) 2 := ⟨qM_X12_221, qI_X12_opensSet, qS_X12_opensSet, qi_X12, qC_X12_opensSet, by decide +kernel, by decide +kernel, by decide +kernel, by decide⟩
theorem lk_X12_226 : LkV RX12 226 RX12 yX12_turns cX12_turns 4 (none) 2 := ⟨qM_X12_226, qI_X12_turns, qS_X12_turns, qi_X12, qC_X12_turns, by decide +kernel, by decide +kernel, by decide +kernel, by decide⟩
theorem lk_X12_229 : LkV RX12 229 RX12 yX12_isNear cX12_isNear 4 (some .boolean) 1 := ⟨qM_X12_229, qI_X12_isNear, qS_X12_isNear, qi_X12, qC_X12_isNear, by decide +kernel, by decide +kernel, by decide +kernel, by decide⟩
theorem lk_X12_232 : LkV RX12 232 RX12 yX12_tells cX12_tells 6 (none) 2 := ⟨qM_X12_232, qI_X12_tells, qS_X12_tells, qi_X12, qC_X12_tells, by decide +kernel, by decide +kernel, by decide +kernel, by decide⟩
theorem lk_X12_236 : LkV RX12 236 RX12 yX12_layNear cX12_layNear 5 (none) 2 := ⟨qM_X12_236, qI_X12_layNear, qS_X12_layNear, qi_X12, qC_X12_layNear, by decide +kernel, by decide +kernel, by decide +kernel, by decide⟩
theorem lk_X12_239 : LkV RX12 239 RX12 yX12_parts cX12_parts 9 (some .boolean) 3 := ⟨qM_X12_239, qI_X12_parts, qS_X12_parts, qi_X12, qC_X12_parts, by decide +kernel, by decide +kernel, by decide +kernel, by decide⟩
theorem lk_X12_243 : LkV RX12 243 RX12 yX12_pagesOf cX12_pagesOf 4 (some .int) 1 := ⟨qM_X12_243, qI_X12_pagesOf, qS_X12_pagesOf, qi_X12, qC_X12_pagesOf, by decide +kernel, by decide +kernel, by decide +kernel, by decide⟩
theorem lk_X12_246 : LkV RX12 246 RX12 yX12_isInDoubt cX12_isInDoubt 5 (some .boolean) 2 := ⟨qM_X12_246, qI_X12_isInDoubt, qS_X12_isInDoubt, qi_X12, qC_X12_isInDoubt, by decide +kernel, by decide +kernel, by decide +kernel, by decide⟩
theorem lk_X12_249 : LkV RX12 249 RX12 yX12_layHands cX12_layHands 4 (some .int) 1 := ⟨qM_X12_249, qI_X12_layHands, qS_X12_layHands, qi_X12, qC_X12_layHands, by decide +kernel, by decide +kernel, by decide +kernel, by decide⟩
theorem lk_X12_252 : LkV RX12 252 RX12 yX12_middleOf cX12_middleOf 8 (some .int) 1 := ⟨qM_X12_252, qI_X12_middleOf, qS_X12_middleOf, qi_X12, qC_X12_middleOf, by decide +kernel, by decide +kernel, by decide +kernel, by decide⟩
theorem lk_X12_255 : LkS RX12 255 yX12_cutsAt cX12_cutsAt 3 (some .boolean) 3 := ⟨qM_X12_255, qT_X12_cutsAt, qi_X12, qC_X12_cutsAt, by decide +kernel, by decide +kernel, by decide +kernel, by decide⟩
theorem lk_X12_259 : LkS RX12 259 yX12_weightOf cX12_weightOf 6 (some .int) 2 := ⟨qM_X12_259, qT_X12_weightOf, qi_X12, qC_X12_weightOf, by decide +kernel, by decide +kernel, by decide +kernel, by decide⟩
theorem lk_X12_262 : LkS RX12 262 yX12_sizeOf cX12_sizeOf 3 (some .int) 1 := ⟨qM_X12_262, qT_X12_sizeOf, qi_X12, qC_X12_sizeOf, by decide +kernel, by decide +kernel, by decide +kernel, by decide⟩
theorem lk_X12_268 : LkV RX12 268 RX12 yX12_layRuns cX12_layRuns 6 (some .int) 0 := ⟨qM_X12_268, qI_X12_layRuns, qS_X12_layRuns, qi_X12, qC_X12_layRuns, by decide +kernel, by decide +kernel, by decide +kernel, by decide⟩
theorem lk_X12_274 : LkV RX12 274 RX12 yX12_writes cX12_writes 2 (none) 1 := ⟨qM_X12_274, qI_X12_writes, qS_X12_writes, qi_X12, qC_X12_writes, by decide +kernel, by decide +kernel, by decide +kernel, by decide⟩
theorem lk_X12_277 : LkV RX12 277 RX12 yX12_layWritten cX12_layWritten 5 (none) 0 := ⟨qM_X12_277, qI_X12_layWritten, qS_X12_layWritten, qi_X12, qC_X12_layWritten, by decide +kernel, by decide +kernel, by decide +kernel, by decide⟩
theorem lk_X12_280 : LkV RX12 280 RX12 yX12_layGroups cX12_layGroups 3 (some .int) 0 := ⟨qM_X12_280, qI_X12_layGroups, qS_X12_layGroups, qi_X12, qC_X12_layGroups, by decide +kernel, by decide +kernel, by decide +kernel, by decide⟩
theorem lk_X12_283 : LkV RX12 283 RX12 yX12_groupOf cX12_groupOf 4 (some .int) 1 := ⟨qM_X12_283, qI_X12_groupOf, qS_X12_groupOf, qi_X12, qC_X12_groupOf, by decide +kernel, by decide +kernel, by decide +kernel, by decide⟩
theorem lk_X12_286 : LkV RX12 286 RX12 yX12_runOf cX12_runOf 4 (some .int) 2 := ⟨qM_X12_286, qI_X12_runOf, qS_X12_runOf, qi_X12, qC_X12_runOf, by decide +kernel, by decide +kernel, by decide +kernel, by decide⟩
theorem lk_X12_289 : LkV RX12 289 RX12 yX12_doubts cX12_doubts 4 (some .int) 1 := ⟨qM_X12_289, qI_X12_doubts, qS_X12_doubts, qi_X12, qC_X12_doubts, by decide +kernel, by decide +kernel, by decide +kernel, by decide⟩
theorem lk_X12_292 : LkV RX12 292 RX12 yX12_isAt cX12_isAt 3 (some .boolean) 2 := ⟨qM_X12_292, qI_X12_isAt, qS_X12_isAt, qi_X12, qC_X12_isAt, by decide +kernel, by decide +kernel, by decide +kernel, by decide⟩
theorem lk_X12_295 : LkV RX12 295 RX12 yX12_isTold cX12_isTold 7 (some .boolean) 6 := ⟨qM_X12_295, qI_X12_isTold, qS_X12_isTold, qi_X12, qC_X12_isTold, by decide +kernel, by decide +kernel, by decide +kernel, by decide⟩
theorem lk_X12_299 : LkV RX12 299 RX12 yX12_askedLater cX12_askedLater 1 (some .int) 0 := ⟨qM_X12_299, qI_X12_askedLater, qS_X12_askedLater, qi_X12, qC_X12_askedLater, by decide +kernel, by decide +kernel, by decide +kernel, by decide⟩
theorem lk_X12_302 : LkV RX12 302 RX12 yX12_asked cX12_asked 1 (some .int) 0 := ⟨qM_X12_302, qI_X12_asked, qS_X12_asked, qi_X12, qC_X12_asked, by decide +kernel, by decide +kernel, by decide +kernel, by decide⟩
theorem lk_X12_305 : LkV RX12 305 RX12 yX12_whole cX12_whole 3 (some .int) 1 := ⟨qM_X12_305, qI_X12_whole, qS_X12_whole, qi_X12, qC_X12_whole, by decide +kernel, by decide +kernel, by decide +kernel, by decide⟩
theorem lk_X12_308 : LkV RX12 308 RX12 yX12_layThen cX12_layThen 2 (none) 0 := ⟨qM_X12_308, qI_X12_layThen, qS_X12_layThen, qi_X12, qC_X12_layThen, by decide +kernel, by decide +kernel, by decide +kernel, by decide⟩
theorem lk_X12_313 : LkV RX12 313 RX12 yX12_areHandsSo cX12_areHandsSo 6 (some .boolean) 2 := ⟨qM_X12_313, qI_X12_areHandsSo, qS_X12_areHandsSo, qi_X12, qC_X12_areHandsSo, by decide +kernel, by decide +kernel, by decide +kernel, by decide⟩
theorem lk_X12_316 : LkV RX12 316 RX12 yX12_fittingLimits cX12_fittingLimits 7 (some .int) 3 := ⟨qM_X12_316, qI_X12_fittingLimits, qS_X12_fittingLimits, qi_X12, qC_X12_fittingLimits, by decide +kernel, by decide +kernel, by decide +kernel, by decide⟩
theorem lk_X12_320 : LkV RX12 320 RX12 yX12_fitting cX12_fitting 8 (some .int) 5 := ⟨qM_X12_320, qI_X12_fitting, qS_X12_fitting, qi_X12, qC_X12_fitting, by decide +kernel, by decide +kernel, by decide +kernel, by decide⟩
theorem lk_X12_342 : LkS RX12 342 yX12_isOf cX12_isOf 2 (some .boolean) 2 := ⟨qM_X12_342, qT_X12_isOf, qi_X12, qC_X12_isOf, by decide +kernel, by decide +kernel, by decide +kernel, by decide⟩
theorem lk_X12_348 : LkV RX12 348 RX12 yX12_began cX12_began 2 (none) 1 := ⟨qM_X12_348, qI_X12_began, qS_X12_began, qi_X12, qC_X12_began, by decide +kernel, by decide +kernel, by decide +kernel, by decide⟩
theorem lk_X12_351 : LkV RX12 351 RX12 yX12_lentSize cX12_lentSize 2 (some .int) 1 := ⟨qM_X12_351, qI_X12_lentSize, qS_X12_lentSize, qi_X12, qC_X12_lentSize, by decide +kernel, by decide +kernel, by decide +kernel, by decide⟩
theorem lk_X12_354 : LkV RX12 354 RX12 yX12_copySize cX12_copySize 4 (some .int) 1 := ⟨qM_X12_354, qI_X12_copySize, qS_X12_copySize, qi_X12, qC_X12_copySize, by decide +kernel, by decide +kernel, by decide +kernel, by decide⟩
theorem lk_X12_357 : LkV RX12 357 RX12 yX12_markOf cX12_markOf 5 (some .int) 1 := ⟨qM_X12_357, qI_X12_markOf, qS_X12_markOf, qi_X12, qC_X12_markOf, by decide +kernel, by decide +kernel, by decide +kernel, by decide⟩
theorem lk_X12_360 : LkV RX12 360 RX12 yX12_askedSize cX12_askedSize 4 (some .int) 1 := ⟨qM_X12_360, qI_X12_askedSize, qS_X12_askedSize, qi_X12, qC_X12_askedSize, by decide +kernel, by decide +kernel, by decide +kernel, by decide⟩
theorem lk_X12_363 : LkV RX12 363 RX12 yX12_sumOf cX12_sumOf 4 (some .int) 1 := ⟨qM_X12_363, qI_X12_sumOf, qS_X12_sumOf, qi_X12, qC_X12_sumOf, by decide +kernel, by decide +kernel, by decide +kernel, by decide⟩
theorem lk_X2_36 : LkV RX2 36 RX2 yX2_overwrite cX2_overwrite 4 (none) 2 := ⟨qM_X2_36, qI_X2_overwrite, qS_X2_overwrite, qi_X2, qC_X2_overwrite, by decide +kernel, by decide +kernel, by decide +kernel, by decide⟩
theorem lk_X2_40 : LkV RX2 40 RX2 yX2_cut cX2_cut 3 (none) 1 := ⟨qM_X2_40, qI_X2_cut, qS_X2_cut, qi_X2, qC_X2_cut, by decide +kernel, by decide +kernel, by decide +kernel, by decide⟩
theorem lk_X2_44 : LkV RX2 44 RX2 yX2_insert cX2_insert 7 (none) 5 := ⟨qM_X2_44, qI_X2_insert, qS_X2_insert, qi_X2, qC_X2_insert, by decide +kernel, by decide +kernel, by decide +kernel, by decide⟩
theorem lk_X3_39 : LkV RX3 39 RX2 yX2_becomeLike cX2_becomeLike 3 (none) 1 := ⟨qM_X3_39, qI_X2_becomeLike, qS_X2_becomeLike, qi_X2, qC_X2_becomeLike, by decide +kernel, by decide +kernel, by decide +kernel, by decide⟩
theorem lk_X3_43 : LkV RX3 43 RX2 yX2_cut cX2_cut 3 (none) 1 := ⟨qM_X3_43, qI_X2_cut, qS_X2_cut, qi_X2, qC_X2_cut, by decide +kernel, by decide +kernel, by decide +kernel, by decide⟩
theorem lk_X3_51 : LkV RX3 51 RX5 yX5_survey cX5_survey 3 (none) 1 := ⟨qM_X3_51, qI_X5_survey, qS_X5_survey, qi_X5, qC_X5_survey, by decide +kernel, by decide +kernel, by decide +kernel, by decide⟩
theorem lk_X3_59 : LkV RX3 59 RX6 yX6_findFor cX6_findFor 3 (none) 1 := ⟨qM_X3_59, qI_X6_findFor, qS_X6_findFor, qi_X6, qC_X6_findFor, by decide +kernel, by decide +kernel, by decide +kernel, by decide⟩
theorem lk_X3_65 : LkV RX3 65 RX5 yX5_markNear cX5_markNear 4 (none) 1 := ⟨qM_X3_65, qI_X5_markNear, qS_X5_markNear, qi_X5, qC_X5_markNear, by decide +kernel, by decide +kernel, by decide +kernel, by decide⟩
theorem lk_X3_68 : LkV RX3 68 RX6 yX6_wantedAtLeast cX6_wantedAtLeast 5 (some .int) 0 := ⟨qM_X3_68, qI_X6_wantedAtLeast, qS_X6_wantedAtLeast, qi_X6, qC_X6_wantedAtLeast, by decide +kernel, by decide +kernel, by decide +kernel, by decide⟩
theorem lk_X3_72 : LkV RX3 72 RX6 yX6_areEnough cX6_areEnough 2 (some .boolean) 1 := ⟨qM_X3_72, qI_X6_areEnough, qS_X6_areEnough, qi_X6, qC_X6_areEnough, by decide +kernel, by decide +kernel, by decide +kernel, by decide⟩
theorem lk_X3_76 : LkV RX3 76 RX3 yX3_isSoBy cX3_isSoBy 3 (some .boolean) 1 := ⟨qM_X3_76, qI_X3_isSoBy, qS_X3_isSoBy, qi_X3, qC_X3_isSoBy, by decide +kernel, by decide +kernel, by decide +kernel, by decide⟩
theorem lk_X3_82 : LkV RX3 82 RX5 yX5_surveyFrom cX5_surveyFrom 5 (none) 2 := ⟨qM_X3_82, qI_X5_surveyFrom, qS_X5_surveyFrom, qi_X5, qC_X5_surveyFrom, by decide +kernel, by decide +kernel, by decide +kernel, by decide⟩
theorem lk_X3_93 : LkS RX3 93 yJ7_fill_53178 cJ7_fill_53178 4 (none) 2 := ⟨qM_X3_93, qT_J7_fill_53178, qi_J7, qC_J7_fill_53178, by decide +kernel, by decide +kernel, by decide +kernel, by decide⟩
theorem lk_X3_102 : LkV RX3 102 RX3 yX3_fewestFor cX3_fewestFor 7 (some .int) 1 := ⟨qM_X3_102, qI_X3_fewestFor, qS_X3_fewestFor, qi_X3, qC_X3_fewestFor, by decide +kernel, by decide +kernel, by decide +kernel, by decide⟩
theorem lk_X3_106 : LkS RX3 106 yJ6_bitCount_0f7a4 cJ6_bitCount_0f7a4 1 (some .int) 1 := ⟨qM_X3_106, qT_J6_bitCount_0f7a4, qi_J6, qC_J6_bitCount_0f7a4, by decide +kernel, by decide +kernel, by decide +kernel, by decide⟩
theorem lk_X3_111 : LkSN yX11_power cX11_power 5 (some .long) 2 := ⟨qT_X11_power, qi_X11, qC_X11_power, by decide +kernel, by decide +kernel, by decide +kernel, by decide⟩
theorem lk_X3_115 : LkS RX3 115 yJ6_numberOfTrailingZeros_0f7a4 cJ6_numberOfTrailingZeros_0f7a4 2 (some .int) 1 := ⟨qM_X3_115, qT_J6_numberOfTrailingZeros_0f7a4, qi_J6, qC_J6_numberOfTrailingZeros_0f7a4, by decide +kernel, by decide +kernel, by decide +kernel, by decide⟩
theorem lk_X3_139 : LkV RX3 139 RX5 yX5_widest cX5_widest 4 (some .int) 1 := ⟨qM_X3_139, qI_X5_widest, qS_X5_widest, qi_X5, qC_X5_widest, by decide +kernel, by decide +kernel, by decide +kernel, by decide⟩
theorem lk_X4_51 : LkV RX4 51 RX5 yX5_survey cX5_survey 3 (none) 1 := ⟨qM_X4_51, qI_X5_survey, qS_X5_survey, qi_X5, qC_X5_survey, by decide +kernel, by decide +kernel, by decide +kernel, by decide⟩
theorem lk_X4_62 : LkV RX4 62 RX6 yX6_findFor cX6_findFor 3 (none) 1 := ⟨qM_X4_62, qI_X6_findFor, qS_X6_findFor, qi_X6, qC_X6_findFor, by decide +kernel, by decide +kernel, by decide +kernel, by decide⟩
theorem lk_X4_69 : LkV RX4 69 RX9 yX9_find cX9_find 4 (none) 2 := ⟨qM_X4_69, qI_X9_find, qS_X9_find, qi_X9, qC_X9_find, by decide +kernel, by decide +kernel, by decide +kernel, by decide⟩
theorem lk_X4_76 : LkV RX4 76 RX4 yX4_join cX4_join 4 (none) 2 := ⟨qM_X4_76, qI_X4_join, qS_X4_join, qi_X4, qC_X4_join, by decide +kernel, by decide +kernel, by decide +kernel, by decide⟩
theorem lk_X4_80 : LkV RX4 80 RX4 yX4_doubt cX4_doubt 4 (none) 1 := ⟨qM_X4_80, qI_X4_doubt, qS_X4_doubt, qi_X4, qC_X4_doubt, by decide +kernel, by decide +kernel, by decide +kernel, by decide⟩
theorem lk_X4_83 : LkV RX4 83 RX4 yX4_write cX4_write 3 (none) 1 := ⟨qM_X4_83, qI_X4_write, qS_X4_write, qi_X4, qC_X4_write, by decide +kernel, by decide +kernel, by decide +kernel, by decide⟩
theorem lk_X4_95 : LkV RX4 95 RX4 yX4_joinsOnce cX4_joinsOnce 8 (some .boolean) 2 := ⟨qM_X4_95, qI_X4_joinsOnce, qS_X4_joinsOnce, qi_X4, qC_X4_joinsOnce, by decide +kernel, by decide +kernel, by decide +kernel, by decide⟩
theorem lk_X4_100 : LkV RX4 100 RX4 yX4_unite cX4_unite 7 (none) 3 := ⟨qM_X4_100, qI_X4_unite, qS_X4_unite, qi_X4, qC_X4_unite, by decide +kernel, by decide +kernel, by decide +kernel, by decide⟩
theorem lk_X4_116 : LkV RX4 116 RX6 yX6_fits cX6_fits 3 (some .boolean) 2 := ⟨qM_X4_116, qI_X6_fits, qS_X6_fits, qi_X6, qC_X6_fits, by decide +kernel, by decide +kernel, by decide +kernel, by decide⟩
theorem lk_X4_119 : LkV RX4 119 RX4 yX4_add cX4_add 2 (none) 1 := ⟨qM_X4_119, qI_X4_add, qS_X4_add, qi_X4, qC_X4_add, by decide +kernel, by decide +kernel, by decide +kernel, by decide⟩
theorem lk_X4_125 : LkV RX4 125 RX4 yX4_writePages cX4_writePages 5 (none) 2 := ⟨qM_X4_125, qI_X4_writePages, qS_X4_writePages, qi_X4, qC_X4_writePages, by decide +kernel, by decide +kernel, by decide +kernel, by decide⟩
theorem lk_X4_132 : LkV RX4 132 RX4 yX4_addNumber cX4_addNumber 2 (none) 1 := ⟨qM_X4_132, qI_X4_addNumber, qS_X4_addNumber, qi_X4, qC_X4_addNumber, by decide +kernel, by decide +kernel, by decide +kernel, by decide⟩
theorem lk_X5_27 : LkV RX5 27 RX5 yX5_surveyFrom cX5_surveyFrom 5 (none) 2 := ⟨qM_X5_27, qI_X5_surveyFrom, qS_X5_surveyFrom, qi_X5, qC_X5_surveyFrom, by decide +kernel, by decide +kernel, by decide +kernel, by decide⟩
theorem lk_X5_31 : LkS RX5 31 yX5_between cX5_between 6 (some .int) 3 := ⟨qM_X5_31, qT_X5_between, qi_X5, qC_X5_between, by decide +kernel, by decide +kernel, by decide +kernel, by decide⟩
theorem lk_X5_35 : LkV RX5 35 RX5 yX5_furthest cX5_furthest 5 (some .int) 2 := ⟨qM_X5_35, qI_X5_furthest, qS_X5_furthest, qi_X5, qC_X5_furthest, by decide +kernel, by decide +kernel, by decide +kernel, by decide⟩
theorem lk_X5_55 : LkS RX5 55 yX5_given cX5_given 5 (some .int) 4 := ⟨qM_X5_55, qT_X5_given, qi_X5, qC_X5_given, by decide +kernel, by decide +kernel, by decide +kernel, by decide⟩
theorem lk_X6_29 : LkV RX6 29 RX5 yX5_markNear cX5_markNear 4 (none) 1 := ⟨qM_X6_29, qI_X5_markNear, qS_X5_markNear, qi_X5, qC_X5_markNear, by decide +kernel, by decide +kernel, by decide +kernel, by decide⟩
theorem lk_X6_33 : LkV RX6 33 RX6 yX6_wantedAtLeast cX6_wantedAtLeast 5 (some .int) 0 := ⟨qM_X6_33, qI_X6_wantedAtLeast, qS_X6_wantedAtLeast, qi_X6, qC_X6_wantedAtLeast, by decide +kernel, by decide +kernel, by decide +kernel, by decide⟩
theorem lk_X6_40 : LkV RX6 40 RX6 yX6_areEnough cX6_areEnough 2 (some .boolean) 1 := ⟨qM_X6_40, qI_X6_areEnough, qS_X6_areEnough, qi_X6, qC_X6_areEnough, by decide +kernel, by decide +kernel, by decide +kernel, by decide⟩
theorem lk_X6_47 : LkS RX6 47 yJ6_bitCount_0f7a4 cJ6_bitCount_0f7a4 1 (some .int) 1 := ⟨qM_X6_47, qT_J6_bitCount_0f7a4, qi_J6, qC_J6_bitCount_0f7a4, by decide +kernel, by decide +kernel, by decide +kernel, by decide⟩
theorem lk_X6_59 : LkS RX6 59 yJ7_fill_53178 cJ7_fill_53178 4 (none) 2 := ⟨qM_X6_59, qT_J7_fill_53178, qi_J7, qC_J7_fill_53178, by decide +kernel, by decide +kernel, by decide +kernel, by decide⟩
theorem lk_X6_65 : LkV RX6 65 RX6 yX6_settles cX6_settles 5 (some .boolean) 3 := ⟨qM_X6_65, qI_X6_settles, qS_X6_settles, qi_X6, qC_X6_settles, by decide +kernel, by decide +kernel, by decide +kernel, by decide⟩
theorem lk_X6_69 : LkV RX6 69 RX6 yX6_fits cX6_fits 3 (some .boolean) 2 := ⟨qM_X6_69, qI_X6_fits, qS_X6_fits, qi_X6, qC_X6_fits, by decide +kernel, by decide +kernel, by decide +kernel, by decide⟩
theorem lk_X7_28 : LkV RX7 28 RX7 yX7_readsLaw cX7_readsLaw 2 (some .boolean) 1 := ⟨qM_X7_28, qI_X7_readsLaw, qS_X7_readsLaw, qi_X7, qC_X7_readsLaw, by decide +kernel, by decide +kernel, by decide +kernel, by decide⟩
theorem lk_X7_37 : LkV RX7 37 RX7 yX7_readsPage cX7_readsPage 6 (some .boolean) 1 := ⟨qM_X7_37, qI_X7_readsPage, qS_X7_readsPage, qi_X7, qC_X7_readsPage, by decide +kernel, by decide +kernel, by decide +kernel, by decide⟩
theorem lk_X7_40 : LkV RX7 40 RX7 yX7_readsByte cX7_readsByte 3 (some .boolean) 2 := ⟨qM_X7_40, qI_X7_readsByte, qS_X7_readsByte, qi_X7, qC_X7_readsByte, by decide +kernel, by decide +kernel, by decide +kernel, by decide⟩
theorem lk_X7_44 : LkV RX7 44 RX7 yX7_readNumber cX7_readNumber 5 (some .int) 2 := ⟨qM_X7_44, qI_X7_readNumber, qS_X7_readNumber, qi_X7, qC_X7_readNumber, by decide +kernel, by decide +kernel, by decide +kernel, by decide⟩
theorem lk_X7_54 : LkV RX7 54 RX10 yX10_at cX10_at 2 (some .int) 1 := ⟨qM_X7_54, qI_X10_at, qS_X10_at, qi_X10, qC_X10_at, by decide +kernel, by decide +kernel, by decide +kernel, by decide⟩
theorem lk_X7_57 : LkS RX7 57 yX7_kindOfLetter cX7_kindOfLetter 1 (some .int) 1 := ⟨qM_X7_57, qT_X7_kindOfLetter, qi_X7, qC_X7_kindOfLetter, by decide +kernel, by decide +kernel, by decide +kernel, by decide⟩
theorem lk_X7_61 : LkV RX7 61 RX7 yX7_fails cX7_fails 2 (some .boolean) 1 := ⟨qM_X7_61, qI_X7_fails, qS_X7_fails, qi_X7, qC_X7_fails, by decide +kernel, by decide +kernel, by decide +kernel, by decide⟩
theorem lk_X7_65 : LkV RX7 65 RX2 yX2_insert cX2_insert 7 (none) 5 := ⟨qM_X7_65, qI_X2_insert, qS_X2_insert, qi_X2, qC_X2_insert, by decide +kernel, by decide +kernel, by decide +kernel, by decide⟩
theorem lk_X7_69 : LkV RX7 69 RX10 yX10_figuresAt cX10_figuresAt 4 (some .int) 1 := ⟨qM_X7_69, qI_X10_figuresAt, qS_X10_figuresAt, qi_X10, qC_X10_figuresAt, by decide +kernel, by decide +kernel, by decide +kernel, by decide⟩
theorem lk_X8_23 : LkS RX8 23 yJ7_fill_53178 cJ7_fill_53178 4 (none) 2 := ⟨qM_X8_23, qT_J7_fill_53178, qi_J7, qC_J7_fill_53178, by decide +kernel, by decide +kernel, by decide +kernel, by decide⟩
theorem lk_X9_36 : LkV RX9 36 RX9 yX9_weigh cX9_weigh 10 (none) 3 := ⟨qM_X9_36, qI_X9_weigh, qS_X9_weigh, qi_X9, qC_X9_weigh, by decide +kernel, by decide +kernel, by decide +kernel, by decide⟩
theorem lk_X9_40 : LkV RX9 40 RX9 yX9_collect cX9_collect 3 (none) 1 := ⟨qM_X9_40, qI_X9_collect, qS_X9_collect, qi_X9, qC_X9_collect, by decide +kernel, by decide +kernel, by decide +kernel, by decide⟩
theorem lk_X9_44 : LkV RX9 44 RX5 yX5_furthest cX5_furthest 5 (some .int) 2 := ⟨qM_X9_44, qI_X5_furthest, qS_X5_furthest, qi_X5, qC_X5_furthest, by decide +kernel, by decide +kernel, by decide +kernel, by decide⟩
theorem z_X11_isRow (v0 : Int32) : X11_isRow v0 = 0 ∨ X11_isRow v0 = 1 := by
  unfold X11_isRow X11_isRow_b0
  repeat' split
  all_goals decide
theorem z_X11_isKindOfPage (v0 : Int32) : X11_isKindOfPage v0 = 0 ∨ X11_isKindOfPage v0 = 1 := by
  unfold X11_isKindOfPage X11_isKindOfPage_b0
  repeat' split
  all_goals decide
theorem z_X11_isMeasure (v0 : Int32) : X11_isMeasure v0 = 0 ∨ X11_isMeasure v0 = 1 := by
  unfold X11_isMeasure X11_isMeasure_b0
  repeat' split
  all_goals decide
theorem z_X11_isWithoutBook (k0 : Nat) (σ : Mem) : X11_isWithoutBook k0 σ = 0 ∨ X11_isWithoutBook k0 σ = 1 := by
  unfold X11_isWithoutBook X11_isWithoutBook_b0
  repeat' split
  all_goals decide
theorem z_X11_isPage (k0 : Nat) (v1 : Int32) (σ : Mem) : X11_isPage k0 v1 σ = 0 ∨ X11_isPage k0 v1 σ = 1 := by
  unfold X11_isPage X11_isPage_b0
  repeat' split
  all_goals decide
theorem z_X12_in (v0 : Int64) (v2 : Int64) (v4 : Int64) : X12_in v0 v2 v4 = 0 ∨ X12_in v0 v2 v4 = 1 := by
  unfold X12_in X12_in_b0
  repeat' split
  all_goals decide
theorem z_X12_isRow (v0 : Int32) : X12_isRow v0 = 0 ∨ X12_isRow v0 = 1 := by
  unfold X12_isRow X12_isRow_b0
  exact z_X12_in _ _ _
theorem z_X12_has (v0 : Int32) (v1 : Int32) : X12_has v0 v1 = 0 ∨ X12_has v0 v1 = 1 := by
  unfold X12_has X12_has_b0
  repeat' split
  all_goals decide
theorem z_X12_cutsAt (v0 : Int32) (v1 : Int32) (v2 : Int32) : X12_cutsAt v0 v1 v2 = 0 ∨ X12_cutsAt v0 v1 v2 = 1 := by
  unfold X12_cutsAt X12_cutsAt_b0
  exact z_X12_has _ _
theorem z_X12_isOf (v0 : Int32) (v1 : Int32) : X12_isOf v0 v1 = 0 ∨ X12_isOf v0 v1 = 1 := by
  unfold X12_isOf X12_isOf_b0 X12_isOf_b19 X12_isOf_b29
  repeat' split
  all_goals decide
