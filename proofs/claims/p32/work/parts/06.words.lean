/-! what each method is, by the tables -/
abbrev mX0_init : Yd := (yX0_init, cX0_init, 1, none)
abbrev mX0_signOf : Yd := (yX0_signOf, cX0_signOf, 2, (some .int))
abbrev mX0_numberOf : Yd := (yX0_numberOf, cX0_numberOf, 4, (some .int))
abbrev mX0_read : Yd := (yX0_read, cX0_read, 4, (some .int))
abbrev mX0_isOrder : Yd := (yX0_isOrder, cX0_isOrder, 3, (some .boolean))
abbrev mX0_isCode : Yd := (yX0_isCode, cX0_isCode, 3, (some .boolean))
abbrev mX0_isNumber : Yd := (yX0_isNumber, cX0_isNumber, 6, (some .boolean))
abbrev mX0_isDigit : Yd := (yX0_isDigit, cX0_isDigit, 1, (some .boolean))
abbrev mX1_init : Yd := (yX1_init, cX1_init, 1, none)
abbrev mX1_isPlace : Yd := (yX1_isPlace, cX1_isPlace, 2, (some .boolean))
abbrev mX1_weightAt : Yd := (yX1_weightAt, cX1_weightAt, 2, (some .int))
abbrev mX1_loadAt : Yd := (yX1_loadAt, cX1_loadAt, 2, (some .int))
abbrev mX1_depthAt : Yd := (yX1_depthAt, cX1_depthAt, 2, (some .int))
abbrev mX1_find : Yd := (yX1_find, cX1_find, 3, (some .int))
abbrev mX1_firstOf : Yd := (yX1_firstOf, cX1_firstOf, 3, (some .int))
abbrev mX1_lastOf : Yd := (yX1_lastOf, cX1_lastOf, 3, (some .int))
abbrev mX1_topOf : Yd := (yX1_topOf, cX1_topOf, 5, (some .int))
abbrev mX1_above : Yd := (yX1_above, cX1_above, 5, (some .int))
abbrev mX1_leans : Yd := (yX1_leans, cX1_leans, 6, (some .boolean))
abbrev mX1_loadsFrom : Yd := (yX1_loadsFrom, cX1_loadsFrom, 5, (some .int))
abbrev mX1_depths : Yd := (yX1_depths, cX1_depths, 3, (some .int))
abbrev mX1_greatestDepth : Yd := (yX1_greatestDepth, cX1_greatestDepth, 3, (some .int))
abbrev mX1_leaning : Yd := (yX1_leaning, cX1_leaning, 4, (some .int))
abbrev mX1_lowest : Yd := (yX1_lowest, cX1_lowest, 3, (some .int))
abbrev mX1_cartsUpTo : Yd := (yX1_cartsUpTo, cX1_cartsUpTo, 6, (some .int))
abbrev mX1_lighterByParts : Yd := (yX1_lighterByParts, cX1_lighterByParts, 7, (some .int))
abbrev mX1_lighterOneByOne : Yd := (yX1_lighterOneByOne, cX1_lighterOneByOne, 4, (some .int))
abbrev mX1_loadsByParts : Yd := (yX1_loadsByParts, cX1_loadsByParts, 3, (some .int))
abbrev mX1_loadsOfLighter : Yd := (yX1_loadsOfLighter, cX1_loadsOfLighter, 8, (some .int))
abbrev mX1_loadsOneByOne : Yd := (yX1_loadsOneByOne, cX1_loadsOneByOne, 5, (some .int))
abbrev mX1_isInOrder : Yd := (yX1_isInOrder, cX1_isInOrder, 2, (some .boolean))
abbrev mX1_lay : Yd := (yX1_lay, cX1_lay, 6, (some .int))
abbrev mX1_lift : Yd := (yX1_lift, cX1_lift, 5, none)
abbrev mX1_buildPartAbove : Yd := (yX1_buildPartAbove, cX1_buildPartAbove, 7, (some .int))
abbrev mX1_buildWhole : Yd := (yX1_buildWhole, cX1_buildWhole, 1, (some .int))
abbrev mX1_spread : Yd := (yX1_spread, cX1_spread, 6, (some .int))
abbrev mX1_raise : Yd := (yX1_raise, cX1_raise, 4, none)
abbrev mX1_set : Yd := (yX1_set, cX1_set, 5, none)
abbrev mX1_setDepth : Yd := (yX1_setDepth, cX1_setDepth, 3, none)
abbrev mX1_copyFrom : Yd := (yX1_copyFrom, cX1_copyFrom, 2, none)
abbrev mX2_init : Yd := (yX2_init, cX2_init, 1, none)
abbrev mX2_clear : Yd := (yX2_clear, cX2_clear, 1, none)
abbrev mX2_add : Yd := (yX2_add, cX2_add, 2, (some .boolean))
abbrev mX2_addNumber : Yd := (yX2_addNumber, cX2_addNumber, 2, none)
abbrev mX2_codeAt : Yd := (yX2_codeAt, cX2_codeAt, 2, (some .int))
abbrev mX3_init : Yd := (yX3_init, cX3_init, 2, none)
abbrev mX3_rickAt : Yd := (yX3_rickAt, cX3_rickAt, 2, (some (.object "LeaningRicks$Rick")))
abbrev mX3_sheaves : Yd := (yX3_sheaves, cX3_sheaves, 4, (some .int))
abbrev mX3_loads : Yd := (yX3_loads, cX3_loads, 4, (some .int))
abbrev mX3_keyAfter : Yd := (yX3_keyAfter, cX3_keyAfter, 8, (some .int))
abbrev mX3_copyFrom : Yd := (yX3_copyFrom, cX3_copyFrom, 5, none)
abbrev mX4_init : Yd := (yX4_init, cX4_init, 2, none)
abbrev mX4_put : Yd := (yX4_put, cX4_put, 4, (some .int))
abbrev mX4_take : Yd := (yX4_take, cX4_take, 3, (some .int))
abbrev mX4_build : Yd := (yX4_build, cX4_build, 2, (some .int))
abbrev mX4_pour : Yd := (yX4_pour, cX4_pour, 3, (some .int))
abbrev mX4_limit : Yd := (yX4_limit, cX4_limit, 2, (some .int))
abbrev mX4_sheafOf : Yd := (yX4_sheafOf, cX4_sheafOf, 8, (some .int))
abbrev mX4_rickOf : Yd := (yX4_rickOf, cX4_rickOf, 4, (some .int))
abbrev mX4_rank : Yd := (yX4_rank, cX4_rank, 4, (some .int))
abbrev mX4_rankAgain : Yd := (yX4_rankAgain, cX4_rankAgain, 4, (some .int))
abbrev mX4_at : Yd := (yX4_at, cX4_at, 4, (some .int))
abbrev mX4_between : Yd := (yX4_between, cX4_between, 5, (some .int))
abbrev mX4_betweenAgain : Yd := (yX4_betweenAgain, cX4_betweenAgain, 5, (some .int))
abbrev mX4_heaviest : Yd := (yX4_heaviest, cX4_heaviest, 4, (some .int))
abbrev mX4_carts : Yd := (yX4_carts, cX4_carts, 4, (some .int))
abbrev mX4_cartOf : Yd := (yX4_cartOf, cX4_cartOf, 6, (some .int))
abbrev mX4_shape : Yd := (yX4_shape, cX4_shape, 3, (some .long))
abbrev mX4_weights : Yd := (yX4_weights, cX4_weights, 8, (some .long))
abbrev mX4_leaningShare : Yd := (yX4_leaningShare, cX4_leaningShare, 3, (some .int))
abbrev mX4_meanDepth : Yd := (yX4_meanDepth, cX4_meanDepth, 3, (some .long))
abbrev mX4_append : Yd := (yX4_append, cX4_append, 2, (some .int))
abbrev mX4_run : Yd := (yX4_run, cX4_run, 3, (some .int))
abbrev mX4_tell : Yd := (yX4_tell, cX4_tell, 3, (some .int))
abbrev mX4_reason : Yd := (yX4_reason, cX4_reason, 2, (some .int))
abbrev mX4_account : Yd := (yX4_account, cX4_account, 2, (some .int))
abbrev mX4_isBalanced : Yd := (yX4_isBalanced, cX4_isBalanced, 3, (some .int))
abbrev mX4_undo : Yd := (yX4_undo, cX4_undo, 1, (some .int))
abbrev mX4_save : Yd := (yX4_save, cX4_save, 1, (some .int))
abbrev mX4_restore : Yd := (yX4_restore, cX4_restore, 1, (some .int))
abbrev mX4_putNow : Yd := (yX4_putNow, cX4_putNow, 7, (some .int))
abbrev mX4_takeNow : Yd := (yX4_takeNow, cX4_takeNow, 6, (some .int))
abbrev mX4_buildNow : Yd := (yX4_buildNow, cX4_buildNow, 3, (some .int))
abbrev mX4_pourNow : Yd := (yX4_pourNow, cX4_pourNow, 6, (some .int))
abbrev mX4_limitNow : Yd := (yX4_limitNow, cX4_limitNow, 3, (some .int))
abbrev mX4_buildWhole : Yd := (yX4_buildWhole, cX4_buildWhole, 3, (some .int))
abbrev mX4_carryOut : Yd := (yX4_carryOut, cX4_carryOut, 4, (some .int))
abbrev mX4_refuse : Yd := (yX4_refuse, cX4_refuse, 3, (some .int))
abbrev mX4_hold : Yd := (yX4_hold, cX4_hold, 2, none)
abbrev mX4_keep : Yd := (yX4_keep, cX4_keep, 2, (some .int))
abbrev mX4_giveBack : Yd := (yX4_giveBack, cX4_giveBack, 2, none)
abbrev mX4_beforeNow : Yd := (yX4_beforeNow, cX4_beforeNow, 1, (some (.object "LeaningRicks$Yard")))
abbrev mX4_isBears : Yd := (yX4_isBears, cX4_isBears, 1, (some .boolean))
abbrev mX4_depthFor : Yd := (yX4_depthFor, cX4_depthFor, 5, (some .int))
abbrev mX4_shapeOf : Yd := (yX4_shapeOf, cX4_shapeOf, 9, (some .long))
abbrev mX4_write : Yd := (yX4_write, cX4_write, 7, none)
abbrev mX4_isSound : Yd := (yX4_isSound, cX4_isSound, 3, (some .boolean))
abbrev mX4_isTree : Yd := (yX4_isTree, cX4_isTree, 5, (some .boolean))
abbrev mX4_shareBits : Yd := (yX4_shareBits, cX4_shareBits, 4, (some .int))
abbrev mX4_meanBits : Yd := (yX4_meanBits, cX4_meanBits, 7, (some .long))
abbrev mJxe99ae_isNaN_b9ae7 : Yd := (yJxe99ae_isNaN_b9ae7, cJxe99ae_isNaN_b9ae7, 2, (some .boolean))
abbrev mJxe99ae_doubleToLongBits_ccdee : Yd := (yJxe99ae_doubleToLongBits_ccdee, cJxe99ae_doubleToLongBits_ccdee, 2, (some .long))
abbrev mJxf58ca_isNaN_12338 : Yd := (yJxf58ca_isNaN_12338, cJxf58ca_isNaN_12338, 1, (some .boolean))
abbrev mJxf58ca_floatToIntBits_5c35a : Yd := (yJxf58ca_floatToIntBits_5c35a, cJxf58ca_floatToIntBits_5c35a, 1, (some .int))
abbrev mJ13_bitCount_95d88 : Yd := (yJ13_bitCount_95d88, cJ13_bitCount_95d88, 2, (some .int))
abbrev mJ9_max_7cf53 : Yd := (yJ9_max_7cf53, cJ9_max_7cf53, 2, (some .int))
abbrev mJ9_min_7cf53 : Yd := (yJ9_min_7cf53, cJ9_min_7cf53, 2, (some .int))
abbrev mJ0_length_8abf5 : Yd := (yJ0_length_8abf5, cJ0_length_8abf5, 1, (some .int))
abbrev mJ0_charAt_5068e : Yd := (yJ0_charAt_5068e, cJ0_charAt_5068e, 2, (some .char))
abbrev mJ0_coder_7d493 : Yd := (yJ0_coder_7d493, cJ0_coder_7d493, 1, (some .byte))
abbrev mJ0_isLatin1_aae02 : Yd := (yJ0_isLatin1_aae02, cJ0_isLatin1_aae02, 1, (some .boolean))
abbrev mJ0_checkIndex_df160 : Yd := (yJ0_checkIndex_df160, cJ0_checkIndex_df160, 2, none)
abbrev mJ1_charAt_3b067 : Yd := (yJ1_charAt_3b067, cJ1_charAt_3b067, 2, (some .char))
abbrev mJ2_getChar_3b067 : Yd := (yJ2_getChar_3b067, cJ2_getChar_3b067, 2, (some .char))
abbrev mJ2_length_9d52b : Yd := (yJ2_length_9d52b, cJ2_length_9d52b, 1, (some .int))
abbrev mJ2_charAt_3b067 : Yd := (yJ2_charAt_3b067, cJ2_charAt_3b067, 2, (some .char))
abbrev mJ2_checkIndex_2214a : Yd := (yJ2_checkIndex_2214a, cJ2_checkIndex_2214a, 2, none)
abbrev mJ3_checkIndex_8e157 : Yd := (yJ3_checkIndex_8e157, cJ3_checkIndex_8e157, 3, (some .int))
abbrev mL_cell : Yd := (yL_cell, cL_cell, 2, (some .int))
abbrev mL_write : Yd := (yL_write, cL_write, 3, (some (.object "LeaningRicks")))
abbrev mL_act : Yd := (yL_act, cL_act, 6, (some .int))
abbrev mL_digest : Yd := (yL_digest, cL_digest, 6, (some .long))
abbrev mL_isSheaf : Yd := (yL_isSheaf, cL_isSheaf, 12, (some .boolean))
abbrev mL_isRick : Yd := (yL_isRick, cL_isRick, 11, (some .boolean))
abbrev mL_areCarts : Yd := (yL_areCarts, cL_areCarts, 10, (some .boolean))
abbrev mL_areHeaviest : Yd := (yL_areHeaviest, cL_areHeaviest, 8, (some .boolean))
abbrev mL_isFit : Yd := (yL_isFit, cL_isFit, 5, (some .boolean))
abbrev mL_isPut : Yd := (yL_isPut, cL_isPut, 10, (some .boolean))
theorem mwX0_signOf : MthV mX0_signOf 0 1 := ⟨gw_mem 373 (by decide +kernel) (by decide +kernel), gw_mem 374 (by decide +kernel) (by decide +kernel), gw_mem 24 (by decide +kernel) (by decide +kernel), gw_mem 375 (by decide +kernel) (by decide +kernel), ⟨by decide +kernel, by decide +kernel, by decide +kernel⟩, by decide, ⟨_, _, rfl⟩, by decide⟩
theorem mwX0_numberOf : MthV mX0_numberOf 0 2 := ⟨gw_mem 369 (by decide +kernel) (by decide +kernel), gw_mem 370 (by decide +kernel) (by decide +kernel), gw_mem 24 (by decide +kernel) (by decide +kernel), gw_mem 371 (by decide +kernel) (by decide +kernel), ⟨by decide +kernel, by decide +kernel, by decide +kernel⟩, by decide, ⟨_, _, rfl⟩, by decide⟩
theorem mwX0_read : MthV mX0_read 0 1 := ⟨gw_mem 338 (by decide +kernel) (by decide +kernel), gw_mem 339 (by decide +kernel) (by decide +kernel), gw_mem 24 (by decide +kernel) (by decide +kernel), gw_mem 340 (by decide +kernel) (by decide +kernel), ⟨by decide +kernel, by decide +kernel, by decide +kernel⟩, by decide, ⟨_, _, rfl⟩, by decide⟩
theorem mwX0_isOrder : MthV mX0_isOrder 0 1 := ⟨gw_mem 343 (by decide +kernel) (by decide +kernel), gw_mem 12 (by decide +kernel) (by decide +kernel), gw_mem 24 (by decide +kernel) (by decide +kernel), gw_mem 344 (by decide +kernel) (by decide +kernel), ⟨by decide +kernel, by decide +kernel, by decide +kernel⟩, by decide, ⟨_, _, rfl⟩, by decide⟩
theorem mwX0_isCode : MthV mX0_isCode 0 2 := ⟨gw_mem 351 (by decide +kernel) (by decide +kernel), gw_mem 13 (by decide +kernel) (by decide +kernel), gw_mem 24 (by decide +kernel) (by decide +kernel), gw_mem 352 (by decide +kernel) (by decide +kernel), ⟨by decide +kernel, by decide +kernel, by decide +kernel⟩, by decide, ⟨_, _, rfl⟩, by decide⟩
theorem mwX0_isNumber : MthV mX0_isNumber 0 3 := ⟨gw_mem 355 (by decide +kernel) (by decide +kernel), gw_mem 14 (by decide +kernel) (by decide +kernel), gw_mem 24 (by decide +kernel) (by decide +kernel), gw_mem 356 (by decide +kernel) (by decide +kernel), ⟨by decide +kernel, by decide +kernel, by decide +kernel⟩, by decide, ⟨_, _, rfl⟩, by decide⟩
theorem mwX0_isDigit : MthS mX0_isDigit 1 := ⟨gw_mem 358 (by decide +kernel) (by decide +kernel), gw_mem 24 (by decide +kernel) (by decide +kernel), gw_mem 359 (by decide +kernel) (by decide +kernel), ⟨by decide +kernel, by decide +kernel, by decide +kernel⟩, by decide⟩
theorem mwX1_isPlace : MthV mX1_isPlace 1 1 := ⟨gw_mem 265 (by decide +kernel) (by decide +kernel), gw_mem 266 (by decide +kernel) (by decide +kernel), gw_mem 22 (by decide +kernel) (by decide +kernel), gw_mem 267 (by decide +kernel) (by decide +kernel), ⟨by decide +kernel, by decide +kernel, by decide +kernel⟩, by decide, ⟨_, _, rfl⟩, by decide⟩
theorem mwX1_weightAt : MthV mX1_weightAt 1 1 := ⟨gw_mem 213 (by decide +kernel) (by decide +kernel), gw_mem 214 (by decide +kernel) (by decide +kernel), gw_mem 22 (by decide +kernel) (by decide +kernel), gw_mem 215 (by decide +kernel) (by decide +kernel), ⟨by decide +kernel, by decide +kernel, by decide +kernel⟩, by decide, ⟨_, _, rfl⟩, by decide⟩
theorem mwX1_loadAt : MthV mX1_loadAt 1 1 := ⟨gw_mem 236 (by decide +kernel) (by decide +kernel), gw_mem 237 (by decide +kernel) (by decide +kernel), gw_mem 22 (by decide +kernel) (by decide +kernel), gw_mem 238 (by decide +kernel) (by decide +kernel), ⟨by decide +kernel, by decide +kernel, by decide +kernel⟩, by decide, ⟨_, _, rfl⟩, by decide⟩
theorem mwX1_depthAt : MthV mX1_depthAt 1 1 := ⟨gw_mem 229 (by decide +kernel) (by decide +kernel), gw_mem 230 (by decide +kernel) (by decide +kernel), gw_mem 22 (by decide +kernel) (by decide +kernel), gw_mem 231 (by decide +kernel) (by decide +kernel), ⟨by decide +kernel, by decide +kernel, by decide +kernel⟩, by decide, ⟨_, _, rfl⟩, by decide⟩
theorem mwX1_find : MthV mX1_find 1 1 := ⟨gw_mem 209 (by decide +kernel) (by decide +kernel), gw_mem 210 (by decide +kernel) (by decide +kernel), gw_mem 22 (by decide +kernel) (by decide +kernel), gw_mem 211 (by decide +kernel) (by decide +kernel), ⟨by decide +kernel, by decide +kernel, by decide +kernel⟩, by decide, ⟨_, _, rfl⟩, by decide⟩
theorem mwX1_firstOf : MthV mX1_firstOf 1 1 := ⟨gw_mem 257 (by decide +kernel) (by decide +kernel), gw_mem 258 (by decide +kernel) (by decide +kernel), gw_mem 22 (by decide +kernel) (by decide +kernel), gw_mem 259 (by decide +kernel) (by decide +kernel), ⟨by decide +kernel, by decide +kernel, by decide +kernel⟩, by decide, ⟨_, _, rfl⟩, by decide⟩
theorem mwX1_lastOf : MthV mX1_lastOf 1 1 := ⟨gw_mem 261 (by decide +kernel) (by decide +kernel), gw_mem 262 (by decide +kernel) (by decide +kernel), gw_mem 22 (by decide +kernel) (by decide +kernel), gw_mem 263 (by decide +kernel) (by decide +kernel), ⟨by decide +kernel, by decide +kernel, by decide +kernel⟩, by decide, ⟨_, _, rfl⟩, by decide⟩
theorem mwX1_topOf : MthV mX1_topOf 1 2 := ⟨gw_mem 479 (by decide +kernel) (by decide +kernel), gw_mem 480 (by decide +kernel) (by decide +kernel), gw_mem 22 (by decide +kernel) (by decide +kernel), gw_mem 481 (by decide +kernel) (by decide +kernel), ⟨by decide +kernel, by decide +kernel, by decide +kernel⟩, by decide, ⟨_, _, rfl⟩, by decide⟩
theorem mwX1_above : MthV mX1_above 1 1 := ⟨gw_mem 253 (by decide +kernel) (by decide +kernel), gw_mem 254 (by decide +kernel) (by decide +kernel), gw_mem 22 (by decide +kernel) (by decide +kernel), gw_mem 255 (by decide +kernel) (by decide +kernel), ⟨by decide +kernel, by decide +kernel, by decide +kernel⟩, by decide, ⟨_, _, rfl⟩, by decide⟩
theorem mwX1_leans : MthV mX1_leans 1 2 := ⟨gw_mem 269 (by decide +kernel) (by decide +kernel), gw_mem 270 (by decide +kernel) (by decide +kernel), gw_mem 22 (by decide +kernel) (by decide +kernel), gw_mem 271 (by decide +kernel) (by decide +kernel), ⟨by decide +kernel, by decide +kernel, by decide +kernel⟩, by decide, ⟨_, _, rfl⟩, by decide⟩
theorem mwX1_loadsFrom : MthV mX1_loadsFrom 1 2 := ⟨gw_mem 475 (by decide +kernel) (by decide +kernel), gw_mem 476 (by decide +kernel) (by decide +kernel), gw_mem 22 (by decide +kernel) (by decide +kernel), gw_mem 477 (by decide +kernel) (by decide +kernel), ⟨by decide +kernel, by decide +kernel, by decide +kernel⟩, by decide, ⟨_, _, rfl⟩, by decide⟩
theorem mwX1_depths : MthV mX1_depths 1 0 := ⟨gw_mem 491 (by decide +kernel) (by decide +kernel), gw_mem 492 (by decide +kernel) (by decide +kernel), gw_mem 22 (by decide +kernel) (by decide +kernel), gw_mem 493 (by decide +kernel) (by decide +kernel), ⟨by decide +kernel, by decide +kernel, by decide +kernel⟩, by decide, ⟨_, _, rfl⟩, by decide⟩
theorem mwX1_greatestDepth : MthV mX1_greatestDepth 1 0 := ⟨gw_mem 483 (by decide +kernel) (by decide +kernel), gw_mem 484 (by decide +kernel) (by decide +kernel), gw_mem 22 (by decide +kernel) (by decide +kernel), gw_mem 485 (by decide +kernel) (by decide +kernel), ⟨by decide +kernel, by decide +kernel, by decide +kernel⟩, by decide, ⟨_, _, rfl⟩, by decide⟩
theorem mwX1_leaning : MthV mX1_leaning 1 1 := ⟨gw_mem 487 (by decide +kernel) (by decide +kernel), gw_mem 488 (by decide +kernel) (by decide +kernel), gw_mem 22 (by decide +kernel) (by decide +kernel), gw_mem 489 (by decide +kernel) (by decide +kernel), ⟨by decide +kernel, by decide +kernel, by decide +kernel⟩, by decide, ⟨_, _, rfl⟩, by decide⟩
theorem mwX1_lowest : MthV mX1_lowest 1 0 := ⟨gw_mem 495 (by decide +kernel) (by decide +kernel), gw_mem 496 (by decide +kernel) (by decide +kernel), gw_mem 22 (by decide +kernel) (by decide +kernel), gw_mem 497 (by decide +kernel) (by decide +kernel), ⟨by decide +kernel, by decide +kernel, by decide +kernel⟩, by decide, ⟨_, _, rfl⟩, by decide⟩
theorem mwX1_cartsUpTo : MthV mX1_cartsUpTo 1 2 := ⟨gw_mem 681 (by decide +kernel) (by decide +kernel), gw_mem 682 (by decide +kernel) (by decide +kernel), gw_mem 22 (by decide +kernel) (by decide +kernel), gw_mem 683 (by decide +kernel) (by decide +kernel), ⟨by decide +kernel, by decide +kernel, by decide +kernel⟩, by decide, ⟨_, _, rfl⟩, by decide⟩
theorem mwX1_lighterByParts : MthV mX1_lighterByParts 1 1 := ⟨gw_mem 553 (by decide +kernel) (by decide +kernel), gw_mem 554 (by decide +kernel) (by decide +kernel), gw_mem 22 (by decide +kernel) (by decide +kernel), gw_mem 555 (by decide +kernel) (by decide +kernel), ⟨by decide +kernel, by decide +kernel, by decide +kernel⟩, by decide, ⟨_, _, rfl⟩, by decide⟩
theorem mwX1_lighterOneByOne : MthV mX1_lighterOneByOne 1 1 := ⟨gw_mem 225 (by decide +kernel) (by decide +kernel), gw_mem 226 (by decide +kernel) (by decide +kernel), gw_mem 22 (by decide +kernel) (by decide +kernel), gw_mem 227 (by decide +kernel) (by decide +kernel), ⟨by decide +kernel, by decide +kernel, by decide +kernel⟩, by decide, ⟨_, _, rfl⟩, by decide⟩
theorem mwX1_loadsByParts : MthV mX1_loadsByParts 1 2 := ⟨gw_mem 559 (by decide +kernel) (by decide +kernel), gw_mem 560 (by decide +kernel) (by decide +kernel), gw_mem 22 (by decide +kernel) (by decide +kernel), gw_mem 561 (by decide +kernel) (by decide +kernel), ⟨by decide +kernel, by decide +kernel, by decide +kernel⟩, by decide, ⟨_, _, rfl⟩, by decide⟩
theorem mwX1_loadsOfLighter : MthV mX1_loadsOfLighter 1 1 := ⟨gw_mem 564 (by decide +kernel) (by decide +kernel), gw_mem 18 (by decide +kernel) (by decide +kernel), gw_mem 22 (by decide +kernel) (by decide +kernel), gw_mem 565 (by decide +kernel) (by decide +kernel), ⟨by decide +kernel, by decide +kernel, by decide +kernel⟩, by decide, ⟨_, _, rfl⟩, by decide⟩
theorem mwX1_loadsOneByOne : MthV mX1_loadsOneByOne 1 2 := ⟨gw_mem 568 (by decide +kernel) (by decide +kernel), gw_mem 569 (by decide +kernel) (by decide +kernel), gw_mem 22 (by decide +kernel) (by decide +kernel), gw_mem 570 (by decide +kernel) (by decide +kernel), ⟨by decide +kernel, by decide +kernel, by decide +kernel⟩, by decide, ⟨_, _, rfl⟩, by decide⟩
theorem mwX1_isInOrder : MthV mX1_isInOrder 1 0 := ⟨gw_mem 546 (by decide +kernel) (by decide +kernel), gw_mem 547 (by decide +kernel) (by decide +kernel), gw_mem 22 (by decide +kernel) (by decide +kernel), gw_mem 548 (by decide +kernel) (by decide +kernel), ⟨by decide +kernel, by decide +kernel, by decide +kernel⟩, by decide, ⟨_, _, rfl⟩, by decide⟩
theorem mwX1_lay : MthV mX1_lay 1 2 := ⟨gw_mem 221 (by decide +kernel) (by decide +kernel), gw_mem 222 (by decide +kernel) (by decide +kernel), gw_mem 22 (by decide +kernel) (by decide +kernel), gw_mem 223 (by decide +kernel) (by decide +kernel), ⟨by decide +kernel, by decide +kernel, by decide +kernel⟩, by decide, ⟨_, _, rfl⟩, by decide⟩
theorem mwX1_lift : MthV mX1_lift 1 1 := ⟨gw_mem 296 (by decide +kernel) (by decide +kernel), gw_mem 297 (by decide +kernel) (by decide +kernel), gw_mem 22 (by decide +kernel) (by decide +kernel), gw_mem 298 (by decide +kernel) (by decide +kernel), ⟨by decide +kernel, by decide +kernel, by decide +kernel⟩, by decide, ⟨_, _, rfl⟩, by decide⟩
theorem mwX1_buildPartAbove : MthV mX1_buildPartAbove 1 2 := ⟨gw_mem 249 (by decide +kernel) (by decide +kernel), gw_mem 250 (by decide +kernel) (by decide +kernel), gw_mem 22 (by decide +kernel) (by decide +kernel), gw_mem 251 (by decide +kernel) (by decide +kernel), ⟨by decide +kernel, by decide +kernel, by decide +kernel⟩, by decide, ⟨_, _, rfl⟩, by decide⟩
theorem mwX1_buildWhole : MthV mX1_buildWhole 1 0 := ⟨gw_mem 308 (by decide +kernel) (by decide +kernel), gw_mem 309 (by decide +kernel) (by decide +kernel), gw_mem 22 (by decide +kernel) (by decide +kernel), gw_mem 310 (by decide +kernel) (by decide +kernel), ⟨by decide +kernel, by decide +kernel, by decide +kernel⟩, by decide, ⟨_, _, rfl⟩, by decide⟩
theorem mwX1_spread : MthS mX1_spread 4 := ⟨gw_mem 273 (by decide +kernel) (by decide +kernel), gw_mem 22 (by decide +kernel) (by decide +kernel), gw_mem 274 (by decide +kernel) (by decide +kernel), ⟨by decide +kernel, by decide +kernel, by decide +kernel⟩, by decide⟩
theorem mwX1_raise : MthV mX1_raise 1 2 := ⟨gw_mem 301 (by decide +kernel) (by decide +kernel), gw_mem 8 (by decide +kernel) (by decide +kernel), gw_mem 22 (by decide +kernel) (by decide +kernel), gw_mem 302 (by decide +kernel) (by decide +kernel), ⟨by decide +kernel, by decide +kernel, by decide +kernel⟩, by decide, ⟨_, _, rfl⟩, by decide⟩
theorem mwX1_set : MthV mX1_set 1 4 := ⟨gw_mem 241 (by decide +kernel) (by decide +kernel), gw_mem 4 (by decide +kernel) (by decide +kernel), gw_mem 22 (by decide +kernel) (by decide +kernel), gw_mem 242 (by decide +kernel) (by decide +kernel), ⟨by decide +kernel, by decide +kernel, by decide +kernel⟩, by decide, ⟨_, _, rfl⟩, by decide⟩
theorem mwX1_setDepth : MthV mX1_setDepth 1 2 := ⟨gw_mem 277 (by decide +kernel) (by decide +kernel), gw_mem 5 (by decide +kernel) (by decide +kernel), gw_mem 22 (by decide +kernel) (by decide +kernel), gw_mem 278 (by decide +kernel) (by decide +kernel), ⟨by decide +kernel, by decide +kernel, by decide +kernel⟩, by decide, ⟨_, _, rfl⟩, by decide⟩
theorem mwX1_copyFrom : MthV mX1_copyFrom 1 1 := ⟨gw_mem 197 (by decide +kernel) (by decide +kernel), gw_mem 198 (by decide +kernel) (by decide +kernel), gw_mem 22 (by decide +kernel) (by decide +kernel), gw_mem 199 (by decide +kernel) (by decide +kernel), ⟨by decide +kernel, by decide +kernel, by decide +kernel⟩, by decide, ⟨_, _, rfl⟩, by decide⟩
theorem mwX2_clear : MthV mX2_clear 2 0 := ⟨gw_mem 361 (by decide +kernel) (by decide +kernel), gw_mem 362 (by decide +kernel) (by decide +kernel), gw_mem 23 (by decide +kernel) (by decide +kernel), gw_mem 363 (by decide +kernel) (by decide +kernel), ⟨by decide +kernel, by decide +kernel, by decide +kernel⟩, by decide, ⟨_, _, rfl⟩, by decide⟩
theorem mwX2_add : MthV mX2_add 2 1 := ⟨gw_mem 464 (by decide +kernel) (by decide +kernel), gw_mem 465 (by decide +kernel) (by decide +kernel), gw_mem 23 (by decide +kernel) (by decide +kernel), gw_mem 466 (by decide +kernel) (by decide +kernel), ⟨by decide +kernel, by decide +kernel, by decide +kernel⟩, by decide, ⟨_, _, rfl⟩, by decide⟩
theorem mwX2_addNumber : MthV mX2_addNumber 2 1 := ⟨gw_mem 602 (by decide +kernel) (by decide +kernel), gw_mem 603 (by decide +kernel) (by decide +kernel), gw_mem 23 (by decide +kernel) (by decide +kernel), gw_mem 604 (by decide +kernel) (by decide +kernel), ⟨by decide +kernel, by decide +kernel, by decide +kernel⟩, by decide, ⟨_, _, rfl⟩, by decide⟩
theorem mwX2_codeAt : MthV mX2_codeAt 2 1 := ⟨gw_mem 346 (by decide +kernel) (by decide +kernel), gw_mem 347 (by decide +kernel) (by decide +kernel), gw_mem 23 (by decide +kernel) (by decide +kernel), gw_mem 348 (by decide +kernel) (by decide +kernel), ⟨by decide +kernel, by decide +kernel, by decide +kernel⟩, by decide, ⟨_, _, rfl⟩, by decide⟩
theorem mwX3_rickAt : MthV mX3_rickAt 3 1 := ⟨gw_mem 193 (by decide +kernel) (by decide +kernel), gw_mem 194 (by decide +kernel) (by decide +kernel), gw_mem 21 (by decide +kernel) (by decide +kernel), gw_mem 195 (by decide +kernel) (by decide +kernel), ⟨by decide +kernel, by decide +kernel, by decide +kernel⟩, by decide, ⟨_, _, rfl⟩, by decide⟩
theorem mwX3_sheaves : MthV mX3_sheaves 3 0 := ⟨gw_mem 397 (by decide +kernel) (by decide +kernel), gw_mem 398 (by decide +kernel) (by decide +kernel), gw_mem 21 (by decide +kernel) (by decide +kernel), gw_mem 399 (by decide +kernel) (by decide +kernel), ⟨by decide +kernel, by decide +kernel, by decide +kernel⟩, by decide, ⟨_, _, rfl⟩, by decide⟩
theorem mwX3_loads : MthV mX3_loads 3 0 := ⟨gw_mem 515 (by decide +kernel) (by decide +kernel), gw_mem 516 (by decide +kernel) (by decide +kernel), gw_mem 21 (by decide +kernel) (by decide +kernel), gw_mem 517 (by decide +kernel) (by decide +kernel), ⟨by decide +kernel, by decide +kernel, by decide +kernel⟩, by decide, ⟨_, _, rfl⟩, by decide⟩
theorem mwX3_keyAfter : MthV mX3_keyAfter 3 1 := ⟨gw_mem 579 (by decide +kernel) (by decide +kernel), gw_mem 580 (by decide +kernel) (by decide +kernel), gw_mem 21 (by decide +kernel) (by decide +kernel), gw_mem 581 (by decide +kernel) (by decide +kernel), ⟨by decide +kernel, by decide +kernel, by decide +kernel⟩, by decide, ⟨_, _, rfl⟩, by decide⟩
theorem mwX3_copyFrom : MthV mX3_copyFrom 3 1 := ⟨gw_mem 189 (by decide +kernel) (by decide +kernel), gw_mem 190 (by decide +kernel) (by decide +kernel), gw_mem 21 (by decide +kernel) (by decide +kernel), gw_mem 191 (by decide +kernel) (by decide +kernel), ⟨by decide +kernel, by decide +kernel, by decide +kernel⟩, by decide, ⟨_, _, rfl⟩, by decide⟩
theorem mwX4_put : MthV mX4_put 4 3 := ⟨gw_mem 177 (by decide +kernel) (by decide +kernel), gw_mem 178 (by decide +kernel) (by decide +kernel), gw_mem 20 (by decide +kernel) (by decide +kernel), gw_mem 179 (by decide +kernel) (by decide +kernel), ⟨by decide +kernel, by decide +kernel, by decide +kernel⟩, by decide, ⟨_, _, rfl⟩, by decide⟩
theorem mwX4_take : MthV mX4_take 4 2 := ⟨gw_mem 287 (by decide +kernel) (by decide +kernel), gw_mem 288 (by decide +kernel) (by decide +kernel), gw_mem 20 (by decide +kernel) (by decide +kernel), gw_mem 289 (by decide +kernel) (by decide +kernel), ⟨by decide +kernel, by decide +kernel, by decide +kernel⟩, by decide, ⟨_, _, rfl⟩, by decide⟩
theorem mwX4_build : MthV mX4_build 4 1 := ⟨gw_mem 312 (by decide +kernel) (by decide +kernel), gw_mem 313 (by decide +kernel) (by decide +kernel), gw_mem 20 (by decide +kernel) (by decide +kernel), gw_mem 314 (by decide +kernel) (by decide +kernel), ⟨by decide +kernel, by decide +kernel, by decide +kernel⟩, by decide, ⟨_, _, rfl⟩, by decide⟩
theorem mwX4_pour : MthV mX4_pour 4 2 := ⟨gw_mem 500 (by decide +kernel) (by decide +kernel), gw_mem 501 (by decide +kernel) (by decide +kernel), gw_mem 20 (by decide +kernel) (by decide +kernel), gw_mem 502 (by decide +kernel) (by decide +kernel), ⟨by decide +kernel, by decide +kernel, by decide +kernel⟩, by decide, ⟨_, _, rfl⟩, by decide⟩
theorem mwX4_limit : MthV mX4_limit 4 1 := ⟨gw_mem 320 (by decide +kernel) (by decide +kernel), gw_mem 321 (by decide +kernel) (by decide +kernel), gw_mem 20 (by decide +kernel) (by decide +kernel), gw_mem 322 (by decide +kernel) (by decide +kernel), ⟨by decide +kernel, by decide +kernel, by decide +kernel⟩, by decide, ⟨_, _, rfl⟩, by decide⟩
theorem mwX4_sheafOf : MthV mX4_sheafOf 4 3 := ⟨gw_mem 528 (by decide +kernel) (by decide +kernel), gw_mem 529 (by decide +kernel) (by decide +kernel), gw_mem 20 (by decide +kernel) (by decide +kernel), gw_mem 530 (by decide +kernel) (by decide +kernel), ⟨by decide +kernel, by decide +kernel, by decide +kernel⟩, by decide, ⟨_, _, rfl⟩, by decide⟩
theorem mwX4_rickOf : MthV mX4_rickOf 4 2 := ⟨gw_mem 471 (by decide +kernel) (by decide +kernel), gw_mem 472 (by decide +kernel) (by decide +kernel), gw_mem 20 (by decide +kernel) (by decide +kernel), gw_mem 473 (by decide +kernel) (by decide +kernel), ⟨by decide +kernel, by decide +kernel, by decide +kernel⟩, by decide, ⟨_, _, rfl⟩, by decide⟩
theorem mwX4_rank : MthV mX4_rank 4 2 := ⟨gw_mem 611 (by decide +kernel) (by decide +kernel), gw_mem 612 (by decide +kernel) (by decide +kernel), gw_mem 20 (by decide +kernel) (by decide +kernel), gw_mem 613 (by decide +kernel) (by decide +kernel), ⟨by decide +kernel, by decide +kernel, by decide +kernel⟩, by decide, ⟨_, _, rfl⟩, by decide⟩
theorem mwX4_rankAgain : MthV mX4_rankAgain 4 2 := ⟨gw_mem 615 (by decide +kernel) (by decide +kernel), gw_mem 616 (by decide +kernel) (by decide +kernel), gw_mem 20 (by decide +kernel) (by decide +kernel), gw_mem 617 (by decide +kernel) (by decide +kernel), ⟨by decide +kernel, by decide +kernel, by decide +kernel⟩, by decide, ⟨_, _, rfl⟩, by decide⟩
theorem mwX4_at : MthV mX4_at 4 2 := ⟨gw_mem 328 (by decide +kernel) (by decide +kernel), gw_mem 329 (by decide +kernel) (by decide +kernel), gw_mem 20 (by decide +kernel) (by decide +kernel), gw_mem 330 (by decide +kernel) (by decide +kernel), ⟨by decide +kernel, by decide +kernel, by decide +kernel⟩, by decide, ⟨_, _, rfl⟩, by decide⟩
theorem mwX4_between : MthV mX4_between 4 3 := ⟨gw_mem 619 (by decide +kernel) (by decide +kernel), gw_mem 620 (by decide +kernel) (by decide +kernel), gw_mem 20 (by decide +kernel) (by decide +kernel), gw_mem 621 (by decide +kernel) (by decide +kernel), ⟨by decide +kernel, by decide +kernel, by decide +kernel⟩, by decide, ⟨_, _, rfl⟩, by decide⟩
theorem mwX4_betweenAgain : MthV mX4_betweenAgain 4 3 := ⟨gw_mem 623 (by decide +kernel) (by decide +kernel), gw_mem 624 (by decide +kernel) (by decide +kernel), gw_mem 20 (by decide +kernel) (by decide +kernel), gw_mem 625 (by decide +kernel) (by decide +kernel), ⟨by decide +kernel, by decide +kernel, by decide +kernel⟩, by decide, ⟨_, _, rfl⟩, by decide⟩
theorem mwX4_heaviest : MthV mX4_heaviest 4 1 := ⟨gw_mem 575 (by decide +kernel) (by decide +kernel), gw_mem 576 (by decide +kernel) (by decide +kernel), gw_mem 20 (by decide +kernel) (by decide +kernel), gw_mem 577 (by decide +kernel) (by decide +kernel), ⟨by decide +kernel, by decide +kernel, by decide +kernel⟩, by decide, ⟨_, _, rfl⟩, by decide⟩
theorem mwX4_carts : MthV mX4_carts 4 2 := ⟨gw_mem 674 (by decide +kernel) (by decide +kernel), gw_mem 675 (by decide +kernel) (by decide +kernel), gw_mem 20 (by decide +kernel) (by decide +kernel), gw_mem 676 (by decide +kernel) (by decide +kernel), ⟨by decide +kernel, by decide +kernel, by decide +kernel⟩, by decide, ⟨_, _, rfl⟩, by decide⟩
theorem mwX4_cartOf : MthV mX4_cartOf 4 3 := ⟨gw_mem 685 (by decide +kernel) (by decide +kernel), gw_mem 686 (by decide +kernel) (by decide +kernel), gw_mem 20 (by decide +kernel) (by decide +kernel), gw_mem 687 (by decide +kernel) (by decide +kernel), ⟨by decide +kernel, by decide +kernel, by decide +kernel⟩, by decide, ⟨_, _, rfl⟩, by decide⟩
theorem mwX4_shape : MthV mX4_shape 4 1 := ⟨gw_mem 520 (by decide +kernel) (by decide +kernel), gw_mem 521 (by decide +kernel) (by decide +kernel), gw_mem 20 (by decide +kernel) (by decide +kernel), gw_mem 522 (by decide +kernel) (by decide +kernel), ⟨by decide +kernel, by decide +kernel, by decide +kernel⟩, by decide, ⟨_, _, rfl⟩, by decide⟩
theorem mwX4_weights : MthV mX4_weights 4 2 := ⟨gw_mem 627 (by decide +kernel) (by decide +kernel), gw_mem 628 (by decide +kernel) (by decide +kernel), gw_mem 20 (by decide +kernel) (by decide +kernel), gw_mem 629 (by decide +kernel) (by decide +kernel), ⟨by decide +kernel, by decide +kernel, by decide +kernel⟩, by decide, ⟨_, _, rfl⟩, by decide⟩
theorem mwX4_leaningShare : MthV mX4_leaningShare 4 1 := ⟨gw_mem 631 (by decide +kernel) (by decide +kernel), gw_mem 632 (by decide +kernel) (by decide +kernel), gw_mem 20 (by decide +kernel) (by decide +kernel), gw_mem 633 (by decide +kernel) (by decide +kernel), ⟨by decide +kernel, by decide +kernel, by decide +kernel⟩, by decide, ⟨_, _, rfl⟩, by decide⟩
theorem mwX4_meanDepth : MthV mX4_meanDepth 4 1 := ⟨gw_mem 649 (by decide +kernel) (by decide +kernel), gw_mem 650 (by decide +kernel) (by decide +kernel), gw_mem 20 (by decide +kernel) (by decide +kernel), gw_mem 651 (by decide +kernel) (by decide +kernel), ⟨by decide +kernel, by decide +kernel, by decide +kernel⟩, by decide, ⟨_, _, rfl⟩, by decide⟩
theorem mwX4_append : MthV mX4_append 4 1 := ⟨gw_mem 460 (by decide +kernel) (by decide +kernel), gw_mem 461 (by decide +kernel) (by decide +kernel), gw_mem 20 (by decide +kernel) (by decide +kernel), gw_mem 462 (by decide +kernel) (by decide +kernel), ⟨by decide +kernel, by decide +kernel, by decide +kernel⟩, by decide, ⟨_, _, rfl⟩, by decide⟩
theorem mwX4_run : MthV mX4_run 4 0 := ⟨gw_mem 334 (by decide +kernel) (by decide +kernel), gw_mem 335 (by decide +kernel) (by decide +kernel), gw_mem 20 (by decide +kernel) (by decide +kernel), gw_mem 336 (by decide +kernel) (by decide +kernel), ⟨by decide +kernel, by decide +kernel, by decide +kernel⟩, by decide, ⟨_, _, rfl⟩, by decide⟩
theorem mwX4_tell : MthV mX4_tell 4 1 := ⟨gw_mem 595 (by decide +kernel) (by decide +kernel), gw_mem 596 (by decide +kernel) (by decide +kernel), gw_mem 20 (by decide +kernel) (by decide +kernel), gw_mem 597 (by decide +kernel) (by decide +kernel), ⟨by decide +kernel, by decide +kernel, by decide +kernel⟩, by decide, ⟨_, _, rfl⟩, by decide⟩
theorem mwX4_reason : MthV mX4_reason 4 1 := ⟨gw_mem 385 (by decide +kernel) (by decide +kernel), gw_mem 386 (by decide +kernel) (by decide +kernel), gw_mem 20 (by decide +kernel) (by decide +kernel), gw_mem 387 (by decide +kernel) (by decide +kernel), ⟨by decide +kernel, by decide +kernel, by decide +kernel⟩, by decide, ⟨_, _, rfl⟩, by decide⟩
theorem mwX4_account : MthV mX4_account 4 1 := ⟨gw_mem 511 (by decide +kernel) (by decide +kernel), gw_mem 512 (by decide +kernel) (by decide +kernel), gw_mem 20 (by decide +kernel) (by decide +kernel), gw_mem 513 (by decide +kernel) (by decide +kernel), ⟨by decide +kernel, by decide +kernel, by decide +kernel⟩, by decide, ⟨_, _, rfl⟩, by decide⟩
theorem mwX4_isBalanced : MthV mX4_isBalanced 4 0 := ⟨gw_mem 539 (by decide +kernel) (by decide +kernel), gw_mem 540 (by decide +kernel) (by decide +kernel), gw_mem 20 (by decide +kernel) (by decide +kernel), gw_mem 541 (by decide +kernel) (by decide +kernel), ⟨by decide +kernel, by decide +kernel, by decide +kernel⟩, by decide, ⟨_, _, rfl⟩, by decide⟩
theorem mwX4_undo : MthV mX4_undo 4 0 := ⟨gw_mem 389 (by decide +kernel) (by decide +kernel), gw_mem 390 (by decide +kernel) (by decide +kernel), gw_mem 20 (by decide +kernel) (by decide +kernel), gw_mem 391 (by decide +kernel) (by decide +kernel), ⟨by decide +kernel, by decide +kernel, by decide +kernel⟩, by decide, ⟨_, _, rfl⟩, by decide⟩
theorem mwX4_save : MthV mX4_save 4 0 := ⟨gw_mem 393 (by decide +kernel) (by decide +kernel), gw_mem 394 (by decide +kernel) (by decide +kernel), gw_mem 20 (by decide +kernel) (by decide +kernel), gw_mem 395 (by decide +kernel) (by decide +kernel), ⟨by decide +kernel, by decide +kernel, by decide +kernel⟩, by decide, ⟨_, _, rfl⟩, by decide⟩
theorem mwX4_restore : MthV mX4_restore 4 0 := ⟨gw_mem 401 (by decide +kernel) (by decide +kernel), gw_mem 402 (by decide +kernel) (by decide +kernel), gw_mem 20 (by decide +kernel) (by decide +kernel), gw_mem 403 (by decide +kernel) (by decide +kernel), ⟨by decide +kernel, by decide +kernel, by decide +kernel⟩, by decide, ⟨_, _, rfl⟩, by decide⟩
theorem mwX4_putNow : MthV mX4_putNow 4 3 := ⟨gw_mem 205 (by decide +kernel) (by decide +kernel), gw_mem 2 (by decide +kernel) (by decide +kernel), gw_mem 20 (by decide +kernel) (by decide +kernel), gw_mem 206 (by decide +kernel) (by decide +kernel), ⟨by decide +kernel, by decide +kernel, by decide +kernel⟩, by decide, ⟨_, _, rfl⟩, by decide⟩
theorem mwX4_takeNow : MthV mX4_takeNow 4 2 := ⟨gw_mem 292 (by decide +kernel) (by decide +kernel), gw_mem 7 (by decide +kernel) (by decide +kernel), gw_mem 20 (by decide +kernel) (by decide +kernel), gw_mem 293 (by decide +kernel) (by decide +kernel), ⟨by decide +kernel, by decide +kernel, by decide +kernel⟩, by decide, ⟨_, _, rfl⟩, by decide⟩
theorem mwX4_buildNow : MthV mX4_buildNow 4 1 := ⟨gw_mem 317 (by decide +kernel) (by decide +kernel), gw_mem 10 (by decide +kernel) (by decide +kernel), gw_mem 20 (by decide +kernel) (by decide +kernel), gw_mem 318 (by decide +kernel) (by decide +kernel), ⟨by decide +kernel, by decide +kernel, by decide +kernel⟩, by decide, ⟨_, _, rfl⟩, by decide⟩
theorem mwX4_pourNow : MthV mX4_pourNow 4 2 := ⟨gw_mem 378 (by decide +kernel) (by decide +kernel), gw_mem 16 (by decide +kernel) (by decide +kernel), gw_mem 20 (by decide +kernel) (by decide +kernel), gw_mem 379 (by decide +kernel) (by decide +kernel), ⟨by decide +kernel, by decide +kernel, by decide +kernel⟩, by decide, ⟨_, _, rfl⟩, by decide⟩
theorem mwX4_limitNow : MthV mX4_limitNow 4 1 := ⟨gw_mem 325 (by decide +kernel) (by decide +kernel), gw_mem 11 (by decide +kernel) (by decide +kernel), gw_mem 20 (by decide +kernel) (by decide +kernel), gw_mem 326 (by decide +kernel) (by decide +kernel), ⟨by decide +kernel, by decide +kernel, by decide +kernel⟩, by decide, ⟨_, _, rfl⟩, by decide⟩
theorem mwX4_buildWhole : MthV mX4_buildWhole 4 1 := ⟨gw_mem 305 (by decide +kernel) (by decide +kernel), gw_mem 9 (by decide +kernel) (by decide +kernel), gw_mem 20 (by decide +kernel) (by decide +kernel), gw_mem 306 (by decide +kernel) (by decide +kernel), ⟨by decide +kernel, by decide +kernel, by decide +kernel⟩, by decide, ⟨_, _, rfl⟩, by decide⟩
theorem mwX4_carryOut : MthV mX4_carryOut 4 1 := ⟨gw_mem 366 (by decide +kernel) (by decide +kernel), gw_mem 15 (by decide +kernel) (by decide +kernel), gw_mem 20 (by decide +kernel) (by decide +kernel), gw_mem 367 (by decide +kernel) (by decide +kernel), ⟨by decide +kernel, by decide +kernel, by decide +kernel⟩, by decide, ⟨_, _, rfl⟩, by decide⟩
theorem mwX4_refuse : MthV mX4_refuse 4 2 := ⟨gw_mem 218 (by decide +kernel) (by decide +kernel), gw_mem 3 (by decide +kernel) (by decide +kernel), gw_mem 20 (by decide +kernel) (by decide +kernel), gw_mem 219 (by decide +kernel) (by decide +kernel), ⟨by decide +kernel, by decide +kernel, by decide +kernel⟩, by decide, ⟨_, _, rfl⟩, by decide⟩
theorem mwX4_hold : MthV mX4_hold 4 0 := ⟨gw_mem 182 (by decide +kernel) (by decide +kernel), gw_mem 0 (by decide +kernel) (by decide +kernel), gw_mem 20 (by decide +kernel) (by decide +kernel), gw_mem 183 (by decide +kernel) (by decide +kernel), ⟨by decide +kernel, by decide +kernel, by decide +kernel⟩, by decide, ⟨_, _, rfl⟩, by decide⟩
theorem mwX4_keep : MthV mX4_keep 4 1 := ⟨gw_mem 281 (by decide +kernel) (by decide +kernel), gw_mem 6 (by decide +kernel) (by decide +kernel), gw_mem 20 (by decide +kernel) (by decide +kernel), gw_mem 282 (by decide +kernel) (by decide +kernel), ⟨by decide +kernel, by decide +kernel, by decide +kernel⟩, by decide, ⟨_, _, rfl⟩, by decide⟩
theorem mwX4_giveBack : MthV mX4_giveBack 4 0 := ⟨gw_mem 382 (by decide +kernel) (by decide +kernel), gw_mem 17 (by decide +kernel) (by decide +kernel), gw_mem 20 (by decide +kernel) (by decide +kernel), gw_mem 383 (by decide +kernel) (by decide +kernel), ⟨by decide +kernel, by decide +kernel, by decide +kernel⟩, by decide, ⟨_, _, rfl⟩, by decide⟩
theorem mwX4_beforeNow : MthV mX4_beforeNow 4 0 := ⟨gw_mem 186 (by decide +kernel) (by decide +kernel), gw_mem 1 (by decide +kernel) (by decide +kernel), gw_mem 20 (by decide +kernel) (by decide +kernel), gw_mem 187 (by decide +kernel) (by decide +kernel), ⟨by decide +kernel, by decide +kernel, by decide +kernel⟩, by decide, ⟨_, _, rfl⟩, by decide⟩
theorem mwX4_isBears : MthS mX4_isBears 1 := ⟨gw_mem 678 (by decide +kernel) (by decide +kernel), gw_mem 20 (by decide +kernel) (by decide +kernel), gw_mem 679 (by decide +kernel) (by decide +kernel), ⟨by decide +kernel, by decide +kernel, by decide +kernel⟩, by decide⟩
theorem mwX4_depthFor : MthS mX4_depthFor 2 := ⟨gw_mem 246 (by decide +kernel) (by decide +kernel), gw_mem 20 (by decide +kernel) (by decide +kernel), gw_mem 247 (by decide +kernel) (by decide +kernel), ⟨by decide +kernel, by decide +kernel, by decide +kernel⟩, by decide⟩
theorem mwX4_shapeOf : MthS mX4_shapeOf 5 := ⟨gw_mem 525 (by decide +kernel) (by decide +kernel), gw_mem 20 (by decide +kernel) (by decide +kernel), gw_mem 526 (by decide +kernel) (by decide +kernel), ⟨by decide +kernel, by decide +kernel, by decide +kernel⟩, by decide⟩
theorem mwX4_write : MthS mX4_write 6 := ⟨gw_mem 599 (by decide +kernel) (by decide +kernel), gw_mem 20 (by decide +kernel) (by decide +kernel), gw_mem 600 (by decide +kernel) (by decide +kernel), ⟨by decide +kernel, by decide +kernel, by decide +kernel⟩, by decide⟩
theorem mwX4_isSound : MthS mX4_isSound 1 := ⟨gw_mem 543 (by decide +kernel) (by decide +kernel), gw_mem 20 (by decide +kernel) (by decide +kernel), gw_mem 544 (by decide +kernel) (by decide +kernel), ⟨by decide +kernel, by decide +kernel, by decide +kernel⟩, by decide⟩
theorem mwX4_isTree : MthS mX4_isTree 4 := ⟨gw_mem 550 (by decide +kernel) (by decide +kernel), gw_mem 20 (by decide +kernel) (by decide +kernel), gw_mem 551 (by decide +kernel) (by decide +kernel), ⟨by decide +kernel, by decide +kernel, by decide +kernel⟩, by decide⟩
theorem mwX4_shareBits : MthS mX4_shareBits 1 := ⟨gw_mem 635 (by decide +kernel) (by decide +kernel), gw_mem 20 (by decide +kernel) (by decide +kernel), gw_mem 636 (by decide +kernel) (by decide +kernel), ⟨by decide +kernel, by decide +kernel, by decide +kernel⟩, by decide⟩
theorem mwX4_meanBits : MthS mX4_meanBits 1 := ⟨gw_mem 654 (by decide +kernel) (by decide +kernel), gw_mem 20 (by decide +kernel) (by decide +kernel), gw_mem 655 (by decide +kernel) (by decide +kernel), ⟨by decide +kernel, by decide +kernel, by decide +kernel⟩, by decide⟩
theorem mwJxe99ae_isNaN_b9ae7 : MthS mJxe99ae_isNaN_b9ae7 1 := ⟨gw_mem 664 (by decide +kernel) (by decide +kernel), gw_mem 33 (by decide +kernel) (by decide +kernel), gw_mem 665 (by decide +kernel) (by decide +kernel), ⟨by decide +kernel, by decide +kernel, by decide +kernel⟩, by decide⟩
theorem mwJxe99ae_doubleToLongBits_ccdee : MthS mJxe99ae_doubleToLongBits_ccdee 1 := ⟨gw_mem 661 (by decide +kernel) (by decide +kernel), gw_mem 33 (by decide +kernel) (by decide +kernel), gw_mem 662 (by decide +kernel) (by decide +kernel), ⟨by decide +kernel, by decide +kernel, by decide +kernel⟩, by decide⟩
theorem mwL_write : MthS mL_write 2 := ⟨gw_mem 409 (by decide +kernel) (by decide +kernel), gw_mem 19 (by decide +kernel) (by decide +kernel), gw_mem 410 (by decide +kernel) (by decide +kernel), ⟨by decide +kernel, by decide +kernel, by decide +kernel⟩, by decide⟩
theorem mwL_act : MthS mL_act 2 := ⟨gw_mem 468 (by decide +kernel) (by decide +kernel), gw_mem 19 (by decide +kernel) (by decide +kernel), gw_mem 469 (by decide +kernel) (by decide +kernel), ⟨by decide +kernel, by decide +kernel, by decide +kernel⟩, by decide⟩
theorem mwL_digest : MthS mL_digest 1 := ⟨gw_mem 506 (by decide +kernel) (by decide +kernel), gw_mem 19 (by decide +kernel) (by decide +kernel), gw_mem 507 (by decide +kernel) (by decide +kernel), ⟨by decide +kernel, by decide +kernel, by decide +kernel⟩, by decide⟩
theorem mwL_isSheaf : MthS mL_isSheaf 3 := ⟨gw_mem 608 (by decide +kernel) (by decide +kernel), gw_mem 19 (by decide +kernel) (by decide +kernel), gw_mem 609 (by decide +kernel) (by decide +kernel), ⟨by decide +kernel, by decide +kernel, by decide +kernel⟩, by decide⟩
theorem mwL_isRick : MthS mL_isRick 2 := ⟨gw_mem 586 (by decide +kernel) (by decide +kernel), gw_mem 19 (by decide +kernel) (by decide +kernel), gw_mem 587 (by decide +kernel) (by decide +kernel), ⟨by decide +kernel, by decide +kernel, by decide +kernel⟩, by decide⟩
theorem mwL_areCarts : MthS mL_areCarts 3 := ⟨gw_mem 671 (by decide +kernel) (by decide +kernel), gw_mem 19 (by decide +kernel) (by decide +kernel), gw_mem 672 (by decide +kernel) (by decide +kernel), ⟨by decide +kernel, by decide +kernel, by decide +kernel⟩, by decide⟩
theorem mwL_areHeaviest : MthS mL_areHeaviest 1 := ⟨gw_mem 572 (by decide +kernel) (by decide +kernel), gw_mem 19 (by decide +kernel) (by decide +kernel), gw_mem 573 (by decide +kernel) (by decide +kernel), ⟨by decide +kernel, by decide +kernel, by decide +kernel⟩, by decide⟩
theorem mwL_isFit : MthS mL_isFit 1 := ⟨gw_mem 536 (by decide +kernel) (by decide +kernel), gw_mem 19 (by decide +kernel) (by decide +kernel), gw_mem 537 (by decide +kernel) (by decide +kernel), ⟨by decide +kernel, by decide +kernel, by decide +kernel⟩, by decide⟩
theorem mwL_isPut : MthS mL_isPut 3 := ⟨gw_mem 689 (by decide +kernel) (by decide +kernel), gw_mem 19 (by decide +kernel) (by decide +kernel), gw_mem 690 (by decide +kernel) (by decide +kernel), ⟨by decide +kernel, by decide +kernel, by decide +kernel⟩, by decide⟩
theorem mlX4_9 : Cond.methodLink RX4 9 yX3_init ∈ lw_good := gw_mem 44 (by decide +kernel) (by decide +kernel)
theorem mlX4_47 : Cond.methodLink RX4 47 yX4_hold ∈ lw_good := gw_mem 180 (by decide +kernel) (by decide +kernel)
theorem mlX4_50 : Cond.methodLink RX4 50 yX4_putNow ∈ lw_good := gw_mem 203 (by decide +kernel) (by decide +kernel)
theorem mlX4_54 : Cond.methodLink RX4 54 yX4_keep ∈ lw_good := gw_mem 279 (by decide +kernel) (by decide +kernel)
theorem mlX4_58 : Cond.methodLink RX4 58 yX4_takeNow ∈ lw_good := gw_mem 290 (by decide +kernel) (by decide +kernel)
theorem mlX4_62 : Cond.methodLink RX4 62 yX4_buildNow ∈ lw_good := gw_mem 315 (by decide +kernel) (by decide +kernel)
theorem mlX4_65 : Cond.methodLink RX4 65 yX4_pourNow ∈ lw_good := gw_mem 376 (by decide +kernel) (by decide +kernel)
theorem mlX4_68 : Cond.methodLink RX4 68 yX4_limitNow ∈ lw_good := gw_mem 323 (by decide +kernel) (by decide +kernel)
theorem mlX4_71 : Cond.methodLink RX4 71 yX3_rickAt ∈ lw_good := gw_mem 207 (by decide +kernel) (by decide +kernel)
theorem mlX4_75 : Cond.methodLink RX4 75 yX1_find ∈ lw_good := gw_mem 208 (by decide +kernel) (by decide +kernel)
theorem mlX4_80 : Cond.methodLink RX4 80 yX1_firstOf ∈ lw_good := gw_mem 531 (by decide +kernel) (by decide +kernel)
theorem mlX4_83 : Cond.methodLink RX4 83 yX1_lastOf ∈ lw_good := gw_mem 532 (by decide +kernel) (by decide +kernel)
theorem mlX4_86 : Cond.methodLink RX4 86 yX1_loadAt ∈ lw_good := gw_mem 294 (by decide +kernel) (by decide +kernel)
theorem mlX4_89 : Cond.methodLink RX4 89 yX1_depthAt ∈ lw_good := gw_mem 244 (by decide +kernel) (by decide +kernel)
theorem mlX4_92 : Cond.methodLink RX4 92 yX1_loadsFrom ∈ lw_good := gw_mem 474 (by decide +kernel) (by decide +kernel)
theorem mlX4_98 : Cond.methodLink RX4 98 yX1_leans ∈ lw_good := gw_mem 533 (by decide +kernel) (by decide +kernel)
theorem mlX4_102 : Cond.methodLink RX4 102 yX1_above ∈ lw_good := gw_mem 534 (by decide +kernel) (by decide +kernel)
theorem mlX4_105 : Cond.methodLink RX4 105 yX1_weightAt ∈ lw_good := gw_mem 332 (by decide +kernel) (by decide +kernel)
theorem mlX4_108 : Cond.methodLink RX4 108 yX1_topOf ∈ lw_good := gw_mem 478 (by decide +kernel) (by decide +kernel)
theorem mlX4_114 : Cond.methodLink RX4 114 yX1_greatestDepth ∈ lw_good := gw_mem 482 (by decide +kernel) (by decide +kernel)
theorem mlX4_118 : Cond.methodLink RX4 118 yX4_depthFor ∈ lw_good := gw_mem 245 (by decide +kernel) (by decide +kernel)
theorem mlX4_124 : Cond.methodLink RX4 124 yX1_leaning ∈ lw_good := gw_mem 486 (by decide +kernel) (by decide +kernel)
theorem mlX4_127 : Cond.methodLink RX4 127 yX1_depths ∈ lw_good := gw_mem 490 (by decide +kernel) (by decide +kernel)
theorem mlX4_130 : Cond.methodLink RX4 130 yX1_lowest ∈ lw_good := gw_mem 494 (by decide +kernel) (by decide +kernel)
theorem mlX4_133 : Cond.methodLink RX4 133 yX1_lighterByParts ∈ lw_good := gw_mem 552 (by decide +kernel) (by decide +kernel)
theorem mlX4_136 : Cond.methodLink RX4 136 yX1_lighterOneByOne ∈ lw_good := gw_mem 557 (by decide +kernel) (by decide +kernel)
theorem mlX4_139 : Cond.methodLink RX4 139 yX1_isPlace ∈ lw_good := gw_mem 331 (by decide +kernel) (by decide +kernel)
theorem mlX4_143 : Cond.methodLink RX4 143 yX1_loadsByParts ∈ lw_good := gw_mem 558 (by decide +kernel) (by decide +kernel)
theorem mlX4_146 : Cond.methodLink RX4 146 yX1_loadsOneByOne ∈ lw_good := gw_mem 567 (by decide +kernel) (by decide +kernel)
theorem mlX4_149 : Cond.methodLink RX4 149 yX3_sheaves ∈ lw_good := gw_mem 396 (by decide +kernel) (by decide +kernel)
theorem mlX4_152 : Cond.methodLink RX4 152 yX3_keyAfter ∈ lw_good := gw_mem 578 (by decide +kernel) (by decide +kernel)
theorem mlX4_155 : Cond.methodLink RX4 155 yX4_isBears ∈ lw_good := gw_mem 677 (by decide +kernel) (by decide +kernel)
theorem mlX4_158 : Cond.methodLink RX4 158 yX1_cartsUpTo ∈ lw_good := gw_mem 680 (by decide +kernel) (by decide +kernel)
theorem mlX4_163 : Cond.methodLink RX4 163 yX4_shapeOf ∈ lw_good := gw_mem 524 (by decide +kernel) (by decide +kernel)
theorem mlX4_167 : Cond.methodLink RX4 167 yX4_shareBits ∈ lw_good := gw_mem 634 (by decide +kernel) (by decide +kernel)
theorem mlX4_173 : Cond.methodLink RX4 173 yX4_meanBits ∈ lw_good := gw_mem 653 (by decide +kernel) (by decide +kernel)
theorem mlX4_177 : Cond.methodLink RX4 177 yX2_add ∈ lw_good := gw_mem 463 (by decide +kernel) (by decide +kernel)
theorem mlX4_183 : Cond.methodLink RX4 183 yX0_read ∈ lw_good := gw_mem 337 (by decide +kernel) (by decide +kernel)
theorem mlX4_187 : Cond.methodLink RX4 187 yX2_clear ∈ lw_good := gw_mem 360 (by decide +kernel) (by decide +kernel)
theorem mlX4_190 : Cond.methodLink RX4 190 yX4_carryOut ∈ lw_good := gw_mem 364 (by decide +kernel) (by decide +kernel)
theorem mlX4_193 : Cond.methodLink RX4 193 yX4_giveBack ∈ lw_good := gw_mem 380 (by decide +kernel) (by decide +kernel)
theorem mlX4_196 : Cond.methodLink RX4 196 yX4_refuse ∈ lw_good := gw_mem 216 (by decide +kernel) (by decide +kernel)
theorem mlX4_199 : Cond.methodLink RX4 199 yX4_write ∈ lw_good := gw_mem 598 (by decide +kernel) (by decide +kernel)
theorem mlX4_206 : Cond.methodLink RX4 206 yX3_loads ∈ lw_good := gw_mem 514 (by decide +kernel) (by decide +kernel)
theorem mlX4_230 : Cond.methodLink RX4 230 yX4_isSound ∈ lw_good := gw_mem 542 (by decide +kernel) (by decide +kernel)
theorem mlX4_237 : Cond.methodLink RX4 237 yX3_copyFrom ∈ lw_good := gw_mem 188 (by decide +kernel) (by decide +kernel)
theorem mlX4_245 : Cond.methodLink RX4 245 yX1_lay ∈ lw_good := gw_mem 220 (by decide +kernel) (by decide +kernel)
theorem mlX4_248 : Cond.methodLink RX4 248 yJ9_max_7cf53 ∈ lw_good := gw_mem 243 (by decide +kernel) (by decide +kernel)
theorem mlX4_253 : Cond.methodLink RX4 253 yX1_buildPartAbove ∈ lw_good := gw_mem 248 (by decide +kernel) (by decide +kernel)
theorem mlX4_256 : Cond.methodLink RX4 256 yX1_lift ∈ lw_good := gw_mem 295 (by decide +kernel) (by decide +kernel)
theorem mlX4_260 : Cond.methodLink RX4 260 yX4_buildWhole ∈ lw_good := gw_mem 303 (by decide +kernel) (by decide +kernel)
theorem mlX4_264 : Cond.methodLink RX4 264 yX1_buildWhole ∈ lw_good := gw_mem 307 (by decide +kernel) (by decide +kernel)
theorem mlX4_266 : Cond.methodLink RX4 266 yX0_numberOf ∈ lw_good := gw_mem 368 (by decide +kernel) (by decide +kernel)
theorem mlX4_269 : Cond.methodLink RX4 269 yX0_signOf ∈ lw_good := gw_mem 372 (by decide +kernel) (by decide +kernel)
theorem mlX4_272 : Cond.methodLink RX4 272 yX4_beforeNow ∈ lw_good := gw_mem 184 (by decide +kernel) (by decide +kernel)
theorem mlX4_276 : Cond.methodLink RX4 276 yJ9_min_7cf53 ∈ lw_good := gw_mem 283 (by decide +kernel) (by decide +kernel)
theorem mlX4_279 : Cond.methodLink RX4 279 yX2_addNumber ∈ lw_good := gw_mem 601 (by decide +kernel) (by decide +kernel)
theorem mlX4_282 : Cond.methodLink RX4 282 yX1_isInOrder ∈ lw_good := gw_mem 545 (by decide +kernel) (by decide +kernel)
theorem mlX4_286 : Cond.methodLink RX4 286 yX4_isTree ∈ lw_good := gw_mem 549 (by decide +kernel) (by decide +kernel)
theorem mlX0_25 : Cond.methodLink RX0 25 yX0_isOrder ∈ lw_good := gw_mem 341 (by decide +kernel) (by decide +kernel)
theorem mlX0_34 : Cond.methodLink RX0 34 yX0_isCode ∈ lw_good := gw_mem 349 (by decide +kernel) (by decide +kernel)
theorem mlX0_38 : Cond.methodLink RX0 38 yX2_codeAt ∈ lw_good := gw_mem 345 (by decide +kernel) (by decide +kernel)
theorem mlX0_42 : Cond.methodLink RX0 42 yX0_isNumber ∈ lw_good := gw_mem 353 (by decide +kernel) (by decide +kernel)
theorem mlX0_46 : Cond.methodLink RX0 46 yX0_isDigit ∈ lw_good := gw_mem 357 (by decide +kernel) (by decide +kernel)
theorem mlX1_25 : Cond.methodLink RX1 25 yX1_weightAt ∈ lw_good := gw_mem 212 (by decide +kernel) (by decide +kernel)
theorem mlX1_29 : Cond.methodLink RX1 29 yX1_depthAt ∈ lw_good := gw_mem 228 (by decide +kernel) (by decide +kernel)
theorem mlX1_32 : Cond.methodLink RX1 32 yJ9_max_7cf53 ∈ lw_good := gw_mem 232 (by decide +kernel) (by decide +kernel)
theorem mlX1_38 : Cond.methodLink RX1 38 yX1_firstOf ∈ lw_good := gw_mem 256 (by decide +kernel) (by decide +kernel)
theorem mlX1_41 : Cond.methodLink RX1 41 yX1_lastOf ∈ lw_good := gw_mem 260 (by decide +kernel) (by decide +kernel)
theorem mlX1_44 : Cond.methodLink RX1 44 yX1_isPlace ∈ lw_good := gw_mem 264 (by decide +kernel) (by decide +kernel)
theorem mlX1_48 : Cond.methodLink RX1 48 yX1_loadAt ∈ lw_good := gw_mem 235 (by decide +kernel) (by decide +kernel)
theorem mlX1_51 : Cond.methodLink RX1 51 yX1_leans ∈ lw_good := gw_mem 268 (by decide +kernel) (by decide +kernel)
theorem mlX1_55 : Cond.methodLink RX1 55 yX1_topOf ∈ lw_good := gw_mem 556 (by decide +kernel) (by decide +kernel)
theorem mlX1_58 : Cond.methodLink RX1 58 yX1_loadsOfLighter ∈ lw_good := gw_mem 562 (by decide +kernel) (by decide +kernel)
theorem mlX1_62 : Cond.methodLink RX1 62 yX1_loadsFrom ∈ lw_good := gw_mem 566 (by decide +kernel) (by decide +kernel)
theorem mlX1_65 : Cond.methodLink RX1 65 yX1_lighterOneByOne ∈ lw_good := gw_mem 224 (by decide +kernel) (by decide +kernel)
theorem mlX1_68 : Cond.methodLink RX1 68 yX1_set ∈ lw_good := gw_mem 239 (by decide +kernel) (by decide +kernel)
theorem mlX1_72 : Cond.methodLink RX1 72 yX1_raise ∈ lw_good := gw_mem 299 (by decide +kernel) (by decide +kernel)
theorem mlX1_76 : Cond.methodLink RX1 76 yX1_setDepth ∈ lw_good := gw_mem 275 (by decide +kernel) (by decide +kernel)
theorem mlX1_79 : Cond.methodLink RX1 79 yX1_above ∈ lw_good := gw_mem 252 (by decide +kernel) (by decide +kernel)
theorem mlX1_82 : Cond.methodLink RX1 82 yX1_spread ∈ lw_good := gw_mem 272 (by decide +kernel) (by decide +kernel)
theorem mlX1_89 : Cond.methodLink RX1 89 ⟨"java/lang/System", "arraycopy", "(Ljava/lang/Object;ILjava/lang/Object;II)V"⟩ ∈ lw_good := gw_mem 200 (by decide +kernel) (by decide +kernel)
theorem mlX2_19 : Cond.methodLink RX2 19 yX2_add ∈ lw_good := gw_mem 605 (by decide +kernel) (by decide +kernel)
theorem mlX3_22 : Cond.methodLink RX3 22 yX3_rickAt ∈ lw_good := gw_mem 192 (by decide +kernel) (by decide +kernel)
theorem mlX3_29 : Cond.methodLink RX3 29 yX1_loadsFrom ∈ lw_good := gw_mem 518 (by decide +kernel) (by decide +kernel)
theorem mlX3_36 : Cond.methodLink RX3 36 yX1_loadAt ∈ lw_good := gw_mem 583 (by decide +kernel) (by decide +kernel)
theorem mlX3_40 : Cond.methodLink RX3 40 yX1_weightAt ∈ lw_good := gw_mem 584 (by decide +kernel) (by decide +kernel)
theorem mlX3_43 : Cond.methodLink RX3 43 yX1_copyFrom ∈ lw_good := gw_mem 196 (by decide +kernel) (by decide +kernel)
theorem mlL_10 : Cond.methodLink RL 10 yJ0_length_8abf5 ∈ lw_good := gw_mem 411 (by decide +kernel) (by decide +kernel)
theorem mlL_16 : Cond.methodLink RL 16 yJ0_charAt_5068e ∈ lw_good := gw_mem 421 (by decide +kernel) (by decide +kernel)
theorem mlL_20 : Cond.methodLink RL 20 yX4_append ∈ lw_good := gw_mem 459 (by decide +kernel) (by decide +kernel)
theorem mlL_24 : Cond.methodLink RL 24 yX4_put ∈ lw_good := gw_mem 176 (by decide +kernel) (by decide +kernel)
theorem mlL_28 : Cond.methodLink RL 28 yX4_rickOf ∈ lw_good := gw_mem 470 (by decide +kernel) (by decide +kernel)
theorem mlL_32 : Cond.methodLink RL 32 yJ9_min_7cf53 ∈ lw_good := gw_mem 498 (by decide +kernel) (by decide +kernel)
theorem mlL_37 : Cond.methodLink RL 37 yX4_at ∈ lw_good := gw_mem 327 (by decide +kernel) (by decide +kernel)
theorem mlL_40 : Cond.methodLink RL 40 yX4_take ∈ lw_good := gw_mem 286 (by decide +kernel) (by decide +kernel)
theorem mlL_43 : Cond.methodLink RL 43 yX4_build ∈ lw_good := gw_mem 311 (by decide +kernel) (by decide +kernel)
theorem mlL_46 : Cond.methodLink RL 46 yX4_pour ∈ lw_good := gw_mem 499 (by decide +kernel) (by decide +kernel)
theorem mlL_49 : Cond.methodLink RL 49 yX4_limit ∈ lw_good := gw_mem 319 (by decide +kernel) (by decide +kernel)
theorem mlL_58 : Cond.methodLink RL 58 yL_write ∈ lw_good := gw_mem 408 (by decide +kernel) (by decide +kernel)
theorem mlL_62 : Cond.methodLink RL 62 yX4_run ∈ lw_good := gw_mem 333 (by decide +kernel) (by decide +kernel)
theorem mlL_65 : Cond.methodLink RL 65 yX4_save ∈ lw_good := gw_mem 392 (by decide +kernel) (by decide +kernel)
theorem mlL_68 : Cond.methodLink RL 68 yX4_restore ∈ lw_good := gw_mem 400 (by decide +kernel) (by decide +kernel)
theorem mlL_71 : Cond.methodLink RL 71 yX4_undo ∈ lw_good := gw_mem 388 (by decide +kernel) (by decide +kernel)
theorem mlL_78 : Cond.methodLink RL 78 yX4_account ∈ lw_good := gw_mem 510 (by decide +kernel) (by decide +kernel)
theorem mlL_81 : Cond.methodLink RL 81 yX4_shape ∈ lw_good := gw_mem 519 (by decide +kernel) (by decide +kernel)
theorem mlL_85 : Cond.methodLink RL 85 yX4_sheafOf ∈ lw_good := gw_mem 527 (by decide +kernel) (by decide +kernel)
theorem mlL_88 : Cond.methodLink RL 88 yJ9_max_7cf53 ∈ lw_good := gw_mem 606 (by decide +kernel) (by decide +kernel)
theorem mlL_91 : Cond.methodLink RL 91 yX4_rank ∈ lw_good := gw_mem 610 (by decide +kernel) (by decide +kernel)
theorem mlL_94 : Cond.methodLink RL 94 yX4_rankAgain ∈ lw_good := gw_mem 614 (by decide +kernel) (by decide +kernel)
theorem mlL_97 : Cond.methodLink RL 97 yJ13_bitCount_95d88 ∈ lw_good := gw_mem 588 (by decide +kernel) (by decide +kernel)
theorem mlL_103 : Cond.methodLink RL 103 yX4_tell ∈ lw_good := gw_mem 594 (by decide +kernel) (by decide +kernel)
theorem mlL_106 : Cond.methodLink RL 106 yL_isSheaf ∈ lw_good := gw_mem 607 (by decide +kernel) (by decide +kernel)
theorem mlL_110 : Cond.methodLink RL 110 yX4_between ∈ lw_good := gw_mem 618 (by decide +kernel) (by decide +kernel)
theorem mlL_113 : Cond.methodLink RL 113 yX4_betweenAgain ∈ lw_good := gw_mem 622 (by decide +kernel) (by decide +kernel)
theorem mlL_116 : Cond.methodLink RL 116 yX4_weights ∈ lw_good := gw_mem 626 (by decide +kernel) (by decide +kernel)
theorem mlL_120 : Cond.methodLink RL 120 yX4_leaningShare ∈ lw_good := gw_mem 630 (by decide +kernel) (by decide +kernel)
theorem mlL_123 : Cond.methodLink RL 123 yJxf58ca_floatToIntBits_5c35a ∈ lw_good := gw_mem 638 (by decide +kernel) (by decide +kernel)
theorem mlL_129 : Cond.methodLink RL 129 yX4_meanDepth ∈ lw_good := gw_mem 648 (by decide +kernel) (by decide +kernel)
theorem mlL_134 : Cond.methodLink RL 134 yJxe99ae_doubleToLongBits_ccdee ∈ lw_good := gw_mem 660 (by decide +kernel) (by decide +kernel)
theorem mlL_140 : Cond.methodLink RL 140 yX4_carts ∈ lw_good := gw_mem 673 (by decide +kernel) (by decide +kernel)
theorem mlL_143 : Cond.methodLink RL 143 yX4_cartOf ∈ lw_good := gw_mem 684 (by decide +kernel) (by decide +kernel)
theorem mlL_146 : Cond.methodLink RL 146 yX4_heaviest ∈ lw_good := gw_mem 574 (by decide +kernel) (by decide +kernel)
theorem mlL_149 : Cond.methodLink RL 149 yX4_isBalanced ∈ lw_good := gw_mem 538 (by decide +kernel) (by decide +kernel)
theorem mlL_152 : Cond.methodLink RL 152 yL_areHeaviest ∈ lw_good := gw_mem 571 (by decide +kernel) (by decide +kernel)
theorem mlL_156 : Cond.methodLink RL 156 yL_isRick ∈ lw_good := gw_mem 585 (by decide +kernel) (by decide +kernel)
theorem mlL_160 : Cond.methodLink RL 160 yL_areCarts ∈ lw_good := gw_mem 670 (by decide +kernel) (by decide +kernel)
theorem mlL_163 : Cond.methodLink RL 163 yL_digest ∈ lw_good := gw_mem 505 (by decide +kernel) (by decide +kernel)
theorem mlL_167 : Cond.methodLink RL 167 yX4_init ∈ lw_good := gw_mem 36 (by decide +kernel) (by decide +kernel)
theorem mlL_168 : Cond.methodLink RL 168 yL_cell ∈ lw_good := gw_mem 404 (by decide +kernel) (by decide +kernel)
theorem mlL_172 : Cond.methodLink RL 172 yL_act ∈ lw_good := gw_mem 467 (by decide +kernel) (by decide +kernel)
theorem mlL_176 : Cond.methodLink RL 176 yL_isFit ∈ lw_good := gw_mem 535 (by decide +kernel) (by decide +kernel)
theorem mlL_179 : Cond.methodLink RL 179 yL_isPut ∈ lw_good := gw_mem 688 (by decide +kernel) (by decide +kernel)
theorem mlL_182 : Cond.methodLink RL 182 yX4_reason ∈ lw_good := gw_mem 384 (by decide +kernel) (by decide +kernel)
theorem mlJxe99ae_122 : Cond.methodLink RJxe99ae 122 yJxe99ae_isNaN_b9ae7 ∈ lw_good := gw_mem 663 (by decide +kernel) (by decide +kernel)
theorem mlJxe99ae_134 : Cond.methodLink RJxe99ae 134 ⟨"java/lang/Double", "doubleToRawLongBits", "(D)J"⟩ ∈ lw_good := gw_mem 666 (by decide +kernel) (by decide +kernel)
theorem mlJxf58ca_59 : Cond.methodLink RJxf58ca 59 yJxf58ca_isNaN_12338 ∈ lw_good := gw_mem 641 (by decide +kernel) (by decide +kernel)
theorem mlJxf58ca_74 : Cond.methodLink RJxf58ca 74 ⟨"java/lang/Float", "floatToRawIntBits", "(F)I"⟩ ∈ lw_good := gw_mem 644 (by decide +kernel) (by decide +kernel)
theorem mlJ0_335 : Cond.methodLink RJ0 335 yJ0_coder_7d493 ∈ lw_good := gw_mem 415 (by decide +kernel) (by decide +kernel)
theorem mlJ0_492 : Cond.methodLink RJ0 492 yJ0_isLatin1_aae02 ∈ lw_good := gw_mem 425 (by decide +kernel) (by decide +kernel)
theorem mlJ0_495 : Cond.methodLink RJ0 495 yJ1_charAt_3b067 ∈ lw_good := gw_mem 429 (by decide +kernel) (by decide +kernel)
theorem mlJ0_498 : Cond.methodLink RJ0 498 yJ2_charAt_3b067 ∈ lw_good := gw_mem 440 (by decide +kernel) (by decide +kernel)
theorem mlJ0_1059 : Cond.methodLink RJ0 1059 yJ3_checkIndex_8e157 ∈ lw_good := gw_mem 437 (by decide +kernel) (by decide +kernel)
theorem mlJ1_9 : Cond.methodLink RJ1 9 yJ0_checkIndex_df160 ∈ lw_good := gw_mem 432 (by decide +kernel) (by decide +kernel)
theorem mlJ2_48 : Cond.methodLink RJ2 48 yJ2_length_9d52b ∈ lw_good := gw_mem 446 (by decide +kernel) (by decide +kernel)
theorem mlJ2_67 : Cond.methodLink RJ2 67 yJ2_checkIndex_2214a ∈ lw_good := gw_mem 443 (by decide +kernel) (by decide +kernel)
theorem mlJ2_71 : Cond.methodLink RJ2 71 yJ2_getChar_3b067 ∈ lw_good := gw_mem 450 (by decide +kernel) (by decide +kernel)
theorem mlJ2_414 : Cond.methodLink RJ2 414 yJ0_checkIndex_df160 ∈ lw_good := gw_mem 449 (by decide +kernel) (by decide +kernel)
theorem w_max_s : Cond.static Lib.Math.max.name ∈ lw_good := gw_mem 233 (by decide +kernel) (by decide +kernel)
theorem w_max_c : Cond.code Lib.Math.max.name Lib.Math.max.code 2 (some .int) ∈ lw_good := gw_mem 234 (by decide +kernel) (by decide +kernel)
theorem w_min_s : Cond.static Lib.Math.min.name ∈ lw_good := gw_mem 284 (by decide +kernel) (by decide +kernel)
theorem w_min_c : Cond.code Lib.Math.min.name Lib.Math.min.code 2 (some .int) ∈ lw_good := gw_mem 285 (by decide +kernel) (by decide +kernel)
theorem wn_doubleToRawLongBits_n : Cond.native ⟨"java/lang/Double", "doubleToRawLongBits", "(D)J"⟩ ∈ lw_good := gw_mem 668 (by decide +kernel) (by decide +kernel)
theorem wn_doubleToRawLongBits_s : Cond.static ⟨"java/lang/Double", "doubleToRawLongBits", "(D)J"⟩ ∈ lw_good := gw_mem 667 (by decide +kernel) (by decide +kernel)
theorem wn_doubleToRawLongBits_i : Cond.initialized "java/lang/Double" ∈ lw_good := gw_mem 33 (by decide +kernel) (by decide +kernel)
theorem wn_floatToRawIntBits_n : Cond.native ⟨"java/lang/Float", "floatToRawIntBits", "(F)I"⟩ ∈ lw_good := gw_mem 646 (by decide +kernel) (by decide +kernel)
theorem wn_floatToRawIntBits_s : Cond.static ⟨"java/lang/Float", "floatToRawIntBits", "(F)I"⟩ ∈ lw_good := gw_mem 645 (by decide +kernel) (by decide +kernel)
theorem wn_floatToRawIntBits_i : Cond.initialized "java/lang/Float" ∈ lw_good := gw_mem 32 (by decide +kernel) (by decide +kernel)
theorem wn_arraycopy_n : Cond.native ⟨"java/lang/System", "arraycopy", "(Ljava/lang/Object;ILjava/lang/Object;II)V"⟩ ∈ lw_good := gw_mem 202 (by decide +kernel) (by decide +kernel)
theorem wn_arraycopy_s : Cond.static ⟨"java/lang/System", "arraycopy", "(Ljava/lang/Object;ILjava/lang/Object;II)V"⟩ ∈ lw_good := gw_mem 201 (by decide +kernel) (by decide +kernel)
theorem wn_arraycopy_i : Cond.initialized "java/lang/System" ∈ lw_good := gw_mem 25 (by decide +kernel) (by decide +kernel)
theorem w_math_i : Cond.initialized "java/lang/Math" ∈ lw_good := gw_mem 26 (by decide +kernel) (by decide +kernel)
theorem gX0 : ∀ w ∈ u_ws RX0 TX0 (nfs 0), w ∈ lw_good := fun w h => List.mem_filter.mpr ⟨inX0 w h, (by decide +kernel : ∀ w ∈ u_ws RX0 TX0 4, goodWord w = true) w h⟩
theorem gX1 : ∀ w ∈ u_ws RX1 TX1 (nfs 1), w ∈ lw_good := fun w h => List.mem_filter.mpr ⟨inX1 w h, (by decide +kernel : ∀ w ∈ u_ws RX1 TX1 5, goodWord w = true) w h⟩
theorem gX2 : ∀ w ∈ u_ws RX2 TX2 (nfs 2), w ∈ lw_good := fun w h => List.mem_filter.mpr ⟨inX2 w h, (by decide +kernel : ∀ w ∈ u_ws RX2 TX2 2, goodWord w = true) w h⟩
theorem gX3 : ∀ w ∈ u_ws RX3 TX3 (nfs 3), w ∈ lw_good := fun w h => List.mem_filter.mpr ⟨inX3 w h, (by decide +kernel : ∀ w ∈ u_ws RX3 TX3 8, goodWord w = true) w h⟩
theorem gX4 : ∀ w ∈ u_ws RX4 TX4 (nfs 4), w ∈ lw_good := fun w h => List.mem_filter.mpr ⟨inX4 w h, (by decide +kernel : ∀ w ∈ u_ws RX4 TX4 11, goodWord w = true) w h⟩
theorem foX4_10 : FldOK RX4 10 4 0 := ⟨TX4, RX4, rfl, by decide, by decide, gX4, rfl, Or.inl (gw_mem 142 (by decide +kernel) (by decide +kernel))⟩
theorem foX4_16 : FldOK RX4 16 4 1 := ⟨TX4, RX4, rfl, by decide, by decide, gX4, rfl, Or.inl (gw_mem 143 (by decide +kernel) (by decide +kernel))⟩
theorem foX4_19 : FldOK RX4 19 4 3 := ⟨TX4, RX4, rfl, by decide, by decide, gX4, rfl, Or.inl (gw_mem 145 (by decide +kernel) (by decide +kernel))⟩
theorem foX4_26 : FldOK RX4 26 4 6 := ⟨TX4, RX4, rfl, by decide, by decide, gX4, rfl, Or.inl (gw_mem 148 (by decide +kernel) (by decide +kernel))⟩
theorem foX4_30 : FldOK RX4 30 4 7 := ⟨TX4, RX4, rfl, by decide, by decide, gX4, rfl, Or.inl (gw_mem 149 (by decide +kernel) (by decide +kernel))⟩
theorem foX4_36 : FldOK RX4 36 4 8 := ⟨TX4, RX4, rfl, by decide, by decide, gX4, rfl, Or.inl (gw_mem 150 (by decide +kernel) (by decide +kernel))⟩
theorem foX4_40 : FldOK RX4 40 4 9 := ⟨TX4, RX4, rfl, by decide, by decide, gX4, rfl, Or.inl (gw_mem 151 (by decide +kernel) (by decide +kernel))⟩
theorem poX4_40 : PutOK RX4 40 4 9 .int := ⟨TX4, RX4, tyX4, rfl, by decide, by decide, gX4, rfl, Or.inl (gw_mem 151 (by decide +kernel) (by decide +kernel)), tyX4_ok, nmX4, rfl, by decide +kernel⟩
theorem foX4_44 : FldOK RX4 44 4 10 := ⟨TX4, RX4, rfl, by decide, by decide, gX4, rfl, Or.inl (gw_mem 152 (by decide +kernel) (by decide +kernel))⟩
theorem poX4_44 : PutOK RX4 44 4 10 .int := ⟨TX4, RX4, tyX4, rfl, by decide, by decide, gX4, rfl, Or.inl (gw_mem 152 (by decide +kernel) (by decide +kernel)), tyX4_ok, nmX4, rfl, by decide +kernel⟩
theorem foX4_95 : FldOK RX4 95 3 1 := ⟨TX3, RX3, rfl, by decide, by decide, gX3, rfl, Or.inr ⟨"LeaningRicks", nw_mem 77 (by decide +kernel) (by decide +kernel)⟩⟩
theorem poX4_95 : PutOK RX4 95 3 1 .int := ⟨TX3, RX3, tyX3, rfl, by decide, by decide, gX3, rfl, Or.inr ⟨"LeaningRicks", nw_mem 77 (by decide +kernel) (by decide +kernel)⟩, tyX3_ok, nmX3, rfl, by decide +kernel⟩
theorem foX4_111 : FldOK RX4 111 1 3 := ⟨TX1, RX1, rfl, by decide, by decide, gX1, rfl, Or.inr ⟨"LeaningRicks", nw_mem 60 (by decide +kernel) (by decide +kernel)⟩⟩
theorem poX4_111 : PutOK RX4 111 1 3 .int := ⟨TX1, RX1, tyX1, rfl, by decide, by decide, gX1, rfl, Or.inr ⟨"LeaningRicks", nw_mem 60 (by decide +kernel) (by decide +kernel)⟩, tyX1_ok, nmX1, rfl, by decide +kernel⟩
theorem foX4_121 : FldOK RX4 121 1 4 := ⟨TX1, RX1, rfl, by decide, by decide, gX1, rfl, Or.inr ⟨"LeaningRicks", nw_mem 61 (by decide +kernel) (by decide +kernel)⟩⟩
theorem poX4_121 : PutOK RX4 121 1 4 .int := ⟨TX1, RX1, tyX1, rfl, by decide, by decide, gX1, rfl, Or.inr ⟨"LeaningRicks", nw_mem 61 (by decide +kernel) (by decide +kernel)⟩, tyX1_ok, nmX1, rfl, by decide +kernel⟩
theorem foX4_180 : FldOK RX4 180 2 1 := ⟨TX2, RX2, rfl, by decide, by decide, gX2, rfl, Or.inr ⟨"LeaningRicks", nw_mem 117 (by decide +kernel) (by decide +kernel)⟩⟩
theorem poX4_180 : PutOK RX4 180 2 1 .int := ⟨TX2, RX2, tyX2, rfl, by decide, by decide, gX2, rfl, Or.inr ⟨"LeaningRicks", nw_mem 117 (by decide +kernel) (by decide +kernel)⟩, tyX2_ok, nmX2, rfl, by decide +kernel⟩
theorem foX4_209 : FldOK RX4 209 3 2 := ⟨TX3, RX3, rfl, by decide, by decide, gX3, rfl, Or.inr ⟨"LeaningRicks", nw_mem 79 (by decide +kernel) (by decide +kernel)⟩⟩
theorem poX4_209 : PutOK RX4 209 3 2 .int := ⟨TX3, RX3, tyX3, rfl, by decide, by decide, gX3, rfl, Or.inr ⟨"LeaningRicks", nw_mem 79 (by decide +kernel) (by decide +kernel)⟩, tyX3_ok, nmX3, rfl, by decide +kernel⟩
theorem foX4_212 : FldOK RX4 212 3 3 := ⟨TX3, RX3, rfl, by decide, by decide, gX3, rfl, Or.inr ⟨"LeaningRicks", nw_mem 81 (by decide +kernel) (by decide +kernel)⟩⟩
theorem poX4_212 : PutOK RX4 212 3 3 .int := ⟨TX3, RX3, tyX3, rfl, by decide, by decide, gX3, rfl, Or.inr ⟨"LeaningRicks", nw_mem 81 (by decide +kernel) (by decide +kernel)⟩, tyX3_ok, nmX3, rfl, by decide +kernel⟩
theorem foX4_215 : FldOK RX4 215 3 4 := ⟨TX3, RX3, rfl, by decide, by decide, gX3, rfl, Or.inr ⟨"LeaningRicks", nw_mem 83 (by decide +kernel) (by decide +kernel)⟩⟩
theorem poX4_215 : PutOK RX4 215 3 4 .int := ⟨TX3, RX3, tyX3, rfl, by decide, by decide, gX3, rfl, Or.inr ⟨"LeaningRicks", nw_mem 83 (by decide +kernel) (by decide +kernel)⟩, tyX3_ok, nmX3, rfl, by decide +kernel⟩
theorem foX4_218 : FldOK RX4 218 3 5 := ⟨TX3, RX3, rfl, by decide, by decide, gX3, rfl, Or.inr ⟨"LeaningRicks", nw_mem 85 (by decide +kernel) (by decide +kernel)⟩⟩
theorem poX4_218 : PutOK RX4 218 3 5 .int := ⟨TX3, RX3, tyX3, rfl, by decide, by decide, gX3, rfl, Or.inr ⟨"LeaningRicks", nw_mem 85 (by decide +kernel) (by decide +kernel)⟩, tyX3_ok, nmX3, rfl, by decide +kernel⟩
theorem foX4_221 : FldOK RX4 221 3 6 := ⟨TX3, RX3, rfl, by decide, by decide, gX3, rfl, Or.inr ⟨"LeaningRicks", nw_mem 87 (by decide +kernel) (by decide +kernel)⟩⟩
theorem poX4_221 : PutOK RX4 221 3 6 .int := ⟨TX3, RX3, tyX3, rfl, by decide, by decide, gX3, rfl, Or.inr ⟨"LeaningRicks", nw_mem 87 (by decide +kernel) (by decide +kernel)⟩, tyX3_ok, nmX3, rfl, by decide +kernel⟩
theorem foX4_224 : FldOK RX4 224 3 7 := ⟨TX3, RX3, rfl, by decide, by decide, gX3, rfl, Or.inr ⟨"LeaningRicks", nw_mem 89 (by decide +kernel) (by decide +kernel)⟩⟩
theorem poX4_224 : PutOK RX4 224 3 7 .int := ⟨TX3, RX3, tyX3, rfl, by decide, by decide, gX3, rfl, Or.inr ⟨"LeaningRicks", nw_mem 89 (by decide +kernel) (by decide +kernel)⟩, tyX3_ok, nmX3, rfl, by decide +kernel⟩
theorem foX4_227 : FldOK RX4 227 4 5 := ⟨TX4, RX4, rfl, by decide, by decide, gX4, rfl, Or.inl (gw_mem 147 (by decide +kernel) (by decide +kernel))⟩
theorem poX4_227 : PutOK RX4 227 4 5 .int := ⟨TX4, RX4, tyX4, rfl, by decide, by decide, gX4, rfl, Or.inl (gw_mem 147 (by decide +kernel) (by decide +kernel)), tyX4_ok, nmX4, rfl, by decide +kernel⟩
theorem foX4_234 : FldOK RX4 234 4 4 := ⟨TX4, RX4, rfl, by decide, by decide, gX4, rfl, Or.inl (gw_mem 146 (by decide +kernel) (by decide +kernel))⟩
theorem poX4_234 : PutOK RX4 234 4 4 .int := ⟨TX4, RX4, tyX4, rfl, by decide, by decide, gX4, rfl, Or.inl (gw_mem 146 (by decide +kernel) (by decide +kernel)), tyX4_ok, nmX4, rfl, by decide +kernel⟩
theorem foX4_241 : FldOK RX4 241 4 2 := ⟨TX4, RX4, rfl, by decide, by decide, gX4, rfl, Or.inl (gw_mem 144 (by decide +kernel) (by decide +kernel))⟩
theorem poX4_241 : PutOK RX4 241 4 2 .boolean := ⟨TX4, RX4, tyX4, rfl, by decide, by decide, gX4, rfl, Or.inl (gw_mem 144 (by decide +kernel) (by decide +kernel)), tyX4_ok, nmX4, rfl, by decide +kernel⟩
theorem foX0_9 : FldOK RX0 9 0 0 := ⟨TX0, RX0, rfl, by decide, by decide, gX0, rfl, Or.inl (gw_mem 129 (by decide +kernel) (by decide +kernel))⟩
theorem foX0_15 : FldOK RX0 15 0 1 := ⟨TX0, RX0, rfl, by decide, by decide, gX0, rfl, Or.inl (gw_mem 130 (by decide +kernel) (by decide +kernel))⟩
theorem foX0_18 : FldOK RX0 18 0 2 := ⟨TX0, RX0, rfl, by decide, by decide, gX0, rfl, Or.inl (gw_mem 131 (by decide +kernel) (by decide +kernel))⟩
theorem poX0_18 : PutOK RX0 18 0 2 .int := ⟨TX0, RX0, tyX0, rfl, by decide, by decide, gX0, rfl, Or.inl (gw_mem 131 (by decide +kernel) (by decide +kernel)), tyX0_ok, nmX0, rfl, by decide +kernel⟩
theorem foX0_22 : FldOK RX0 22 0 3 := ⟨TX0, RX0, rfl, by decide, by decide, gX0, rfl, Or.inl (gw_mem 132 (by decide +kernel) (by decide +kernel))⟩
theorem poX0_22 : PutOK RX0 22 0 3 .int := ⟨TX0, RX0, tyX0, rfl, by decide, by decide, gX0, rfl, Or.inl (gw_mem 132 (by decide +kernel) (by decide +kernel)), tyX0_ok, nmX0, rfl, by decide +kernel⟩
theorem foX0_29 : FldOK RX0 29 2 1 := ⟨TX2, RX2, rfl, by decide, by decide, gX2, rfl, Or.inr ⟨"LeaningRicks", nw_mem 116 (by decide +kernel) (by decide +kernel)⟩⟩
theorem poX0_29 : PutOK RX0 29 2 1 .int := ⟨TX2, RX2, tyX2, rfl, by decide, by decide, gX2, rfl, Or.inr ⟨"LeaningRicks", nw_mem 116 (by decide +kernel) (by decide +kernel)⟩, tyX2_ok, nmX2, rfl, by decide +kernel⟩
theorem foX1_9 : FldOK RX1 9 1 0 := ⟨TX1, RX1, rfl, by decide, by decide, gX1, rfl, Or.inl (gw_mem 55 (by decide +kernel) (by decide +kernel))⟩
theorem foX1_15 : FldOK RX1 15 1 1 := ⟨TX1, RX1, rfl, by decide, by decide, gX1, rfl, Or.inl (gw_mem 56 (by decide +kernel) (by decide +kernel))⟩
theorem foX1_18 : FldOK RX1 18 1 2 := ⟨TX1, RX1, rfl, by decide, by decide, gX1, rfl, Or.inl (gw_mem 57 (by decide +kernel) (by decide +kernel))⟩
theorem foX1_21 : FldOK RX1 21 1 3 := ⟨TX1, RX1, rfl, by decide, by decide, gX1, rfl, Or.inl (gw_mem 58 (by decide +kernel) (by decide +kernel))⟩
theorem poX1_21 : PutOK RX1 21 1 3 .int := ⟨TX1, RX1, tyX1, rfl, by decide, by decide, gX1, rfl, Or.inl (gw_mem 58 (by decide +kernel) (by decide +kernel)), tyX1_ok, nmX1, rfl, by decide +kernel⟩
theorem foX1_86 : FldOK RX1 86 1 4 := ⟨TX1, RX1, rfl, by decide, by decide, gX1, rfl, Or.inl (gw_mem 62 (by decide +kernel) (by decide +kernel))⟩
theorem poX1_86 : PutOK RX1 86 1 4 .int := ⟨TX1, RX1, tyX1, rfl, by decide, by decide, gX1, rfl, Or.inl (gw_mem 62 (by decide +kernel) (by decide +kernel)), tyX1_ok, nmX1, rfl, by decide +kernel⟩
theorem foX2_9 : FldOK RX2 9 2 0 := ⟨TX2, RX2, rfl, by decide, by decide, gX2, rfl, Or.inl (gw_mem 114 (by decide +kernel) (by decide +kernel))⟩
theorem foX2_15 : FldOK RX2 15 2 1 := ⟨TX2, RX2, rfl, by decide, by decide, gX2, rfl, Or.inl (gw_mem 115 (by decide +kernel) (by decide +kernel))⟩
theorem poX2_15 : PutOK RX2 15 2 1 .int := ⟨TX2, RX2, tyX2, rfl, by decide, by decide, gX2, rfl, Or.inl (gw_mem 115 (by decide +kernel) (by decide +kernel)), tyX2_ok, nmX2, rfl, by decide +kernel⟩
theorem foX3_11 : FldOK RX3 11 3 0 := ⟨TX3, RX3, rfl, by decide, by decide, gX3, rfl, Or.inl (gw_mem 75 (by decide +kernel) (by decide +kernel))⟩
theorem foX3_17 : FldOK RX3 17 3 1 := ⟨TX3, RX3, rfl, by decide, by decide, gX3, rfl, Or.inl (gw_mem 76 (by decide +kernel) (by decide +kernel))⟩
theorem poX3_17 : PutOK RX3 17 3 1 .int := ⟨TX3, RX3, tyX3, rfl, by decide, by decide, gX3, rfl, Or.inl (gw_mem 76 (by decide +kernel) (by decide +kernel)), tyX3_ok, nmX3, rfl, by decide +kernel⟩
theorem foX3_26 : FldOK RX3 26 1 3 := ⟨TX1, RX1, rfl, by decide, by decide, gX1, rfl, Or.inr ⟨"LeaningRicks", nw_mem 59 (by decide +kernel) (by decide +kernel)⟩⟩
theorem poX3_26 : PutOK RX3 26 1 3 .int := ⟨TX1, RX1, tyX1, rfl, by decide, by decide, gX1, rfl, Or.inr ⟨"LeaningRicks", nw_mem 59 (by decide +kernel) (by decide +kernel)⟩, tyX1_ok, nmX1, rfl, by decide +kernel⟩
theorem foX3_47 : FldOK RX3 47 3 2 := ⟨TX3, RX3, rfl, by decide, by decide, gX3, rfl, Or.inl (gw_mem 78 (by decide +kernel) (by decide +kernel))⟩
theorem poX3_47 : PutOK RX3 47 3 2 .int := ⟨TX3, RX3, tyX3, rfl, by decide, by decide, gX3, rfl, Or.inl (gw_mem 78 (by decide +kernel) (by decide +kernel)), tyX3_ok, nmX3, rfl, by decide +kernel⟩
theorem foX3_50 : FldOK RX3 50 3 3 := ⟨TX3, RX3, rfl, by decide, by decide, gX3, rfl, Or.inl (gw_mem 80 (by decide +kernel) (by decide +kernel))⟩
theorem poX3_50 : PutOK RX3 50 3 3 .int := ⟨TX3, RX3, tyX3, rfl, by decide, by decide, gX3, rfl, Or.inl (gw_mem 80 (by decide +kernel) (by decide +kernel)), tyX3_ok, nmX3, rfl, by decide +kernel⟩
theorem foX3_53 : FldOK RX3 53 3 4 := ⟨TX3, RX3, rfl, by decide, by decide, gX3, rfl, Or.inl (gw_mem 82 (by decide +kernel) (by decide +kernel))⟩
theorem poX3_53 : PutOK RX3 53 3 4 .int := ⟨TX3, RX3, tyX3, rfl, by decide, by decide, gX3, rfl, Or.inl (gw_mem 82 (by decide +kernel) (by decide +kernel)), tyX3_ok, nmX3, rfl, by decide +kernel⟩
theorem foX3_56 : FldOK RX3 56 3 5 := ⟨TX3, RX3, rfl, by decide, by decide, gX3, rfl, Or.inl (gw_mem 84 (by decide +kernel) (by decide +kernel))⟩
theorem poX3_56 : PutOK RX3 56 3 5 .int := ⟨TX3, RX3, tyX3, rfl, by decide, by decide, gX3, rfl, Or.inl (gw_mem 84 (by decide +kernel) (by decide +kernel)), tyX3_ok, nmX3, rfl, by decide +kernel⟩
theorem foX3_59 : FldOK RX3 59 3 6 := ⟨TX3, RX3, rfl, by decide, by decide, gX3, rfl, Or.inl (gw_mem 86 (by decide +kernel) (by decide +kernel))⟩
theorem poX3_59 : PutOK RX3 59 3 6 .int := ⟨TX3, RX3, tyX3, rfl, by decide, by decide, gX3, rfl, Or.inl (gw_mem 86 (by decide +kernel) (by decide +kernel)), tyX3_ok, nmX3, rfl, by decide +kernel⟩
theorem foX3_62 : FldOK RX3 62 3 7 := ⟨TX3, RX3, rfl, by decide, by decide, gX3, rfl, Or.inl (gw_mem 88 (by decide +kernel) (by decide +kernel))⟩
theorem poX3_62 : PutOK RX3 62 3 7 .int := ⟨TX3, RX3, tyX3, rfl, by decide, by decide, gX3, rfl, Or.inl (gw_mem 88 (by decide +kernel) (by decide +kernel)), tyX3_ok, nmX3, rfl, by decide +kernel⟩
theorem coX4_161 : Cond.constantLong RX4 161 (-11 : Int64) ∈ lw_good := gw_mem 523 (by decide +kernel) (by decide +kernel)
theorem coX4_171 : Cond.constantLong RX4 171 (-15 : Int64) ∈ lw_good := gw_mem 652 (by decide +kernel) (by decide +kernel)
theorem coX4_290 : Cond.constantFloat RX4 290 (1258291200 : UInt32) ∈ lw_good := gw_mem 637 (by decide +kernel) (by decide +kernel)
theorem coX4_291 : Cond.constantLong RX4 291 (1023 : Int64) ∈ lw_good := gw_mem 656 (by decide +kernel) (by decide +kernel)
theorem coX4_293 : Cond.constantDouble RX4 293 (4611686018427387904 : UInt64) ∈ lw_good := gw_mem 657 (by decide +kernel) (by decide +kernel)
theorem coX4_295 : Cond.constantDouble RX4 295 (4841369599423283200 : UInt64) ∈ lw_good := gw_mem 658 (by decide +kernel) (by decide +kernel)
theorem coX3_35 : Cond.constant RX3 35 (2147483647 : Int32) ∈ lw_good := gw_mem 582 (by decide +kernel) (by decide +kernel)
theorem coL_9 : Cond.constant RL 9 (65535 : Int32) ∈ lw_good := gw_mem 407 (by decide +kernel) (by decide +kernel)
theorem coL_74 : Cond.constantLong RL 74 (7 : Int64) ∈ lw_good := gw_mem 508 (by decide +kernel) (by decide +kernel)
theorem coL_76 : Cond.constantLong RL 76 (31 : Int64) ∈ lw_good := gw_mem 509 (by decide +kernel) (by decide +kernel)
theorem coL_132 : Cond.constantLong RL 132 (-15 : Int64) ∈ lw_good := gw_mem 659 (by decide +kernel) (by decide +kernel)
theorem coJxe99ae_137 : Cond.constantLong RJxe99ae 137 (9221120237041090560 : Int64) ∈ lw_good := gw_mem 669 (by decide +kernel) (by decide +kernel)
theorem coJxf58ca_77 : Cond.constant RJxf58ca 77 (2143289344 : Int32) ∈ lw_good := gw_mem 647 (by decide +kernel) (by decide +kernel)
theorem coJ13_314 : Cond.constantLong RJ13 314 (6148914691236517205 : Int64) ∈ lw_good := gw_mem 591 (by decide +kernel) (by decide +kernel)
theorem coJ13_316 : Cond.constantLong RJ13 316 (3689348814741910323 : Int64) ∈ lw_good := gw_mem 592 (by decide +kernel) (by decide +kernel)
theorem coJ13_318 : Cond.constantLong RJ13 318 (1085102592571150095 : Int64) ∈ lw_good := gw_mem 593 (by decide +kernel) (by decide +kernel)
theorem ic_m1 : Int32.ofInt (-1) = (-1) := by decide +kernel
theorem ic_0 : Int32.ofInt 0 = 0 := by decide +kernel
theorem ic_1 : Int32.ofInt 1 = 1 := by decide +kernel
theorem ic_2 : Int32.ofInt 2 = 2 := by decide +kernel
theorem ic_3 : Int32.ofInt 3 = 3 := by decide +kernel
theorem ic_4 : Int32.ofInt 4 = 4 := by decide +kernel
theorem ic_5 : Int32.ofInt 5 = 5 := by decide +kernel
theorem bi_m15 : (Int8.ofInt (-15)).toInt32 = (-15) := by decide +kernel
theorem bi_m14 : (Int8.ofInt (-14)).toInt32 = (-14) := by decide +kernel
theorem bi_m13 : (Int8.ofInt (-13)).toInt32 = (-13) := by decide +kernel
theorem bi_m12 : (Int8.ofInt (-12)).toInt32 = (-12) := by decide +kernel
theorem bi_m11 : (Int8.ofInt (-11)).toInt32 = (-11) := by decide +kernel
theorem bi_6 : (Int8.ofInt 6).toInt32 = 6 := by decide +kernel
theorem bi_7 : (Int8.ofInt 7).toInt32 = 7 := by decide +kernel
theorem bi_8 : (Int8.ofInt 8).toInt32 = 8 := by decide +kernel
theorem bi_9 : (Int8.ofInt 9).toInt32 = 9 := by decide +kernel
theorem bi_10 : (Int8.ofInt 10).toInt32 = 10 := by decide +kernel
theorem bi_11 : (Int8.ofInt 11).toInt32 = 11 := by decide +kernel
theorem bi_12 : (Int8.ofInt 12).toInt32 = 12 := by decide +kernel
theorem bi_14 : (Int8.ofInt 14).toInt32 = 14 := by decide +kernel
theorem bi_15 : (Int8.ofInt 15).toInt32 = 15 := by decide +kernel
theorem bi_16 : (Int8.ofInt 16).toInt32 = 16 := by decide +kernel
theorem bi_20 : (Int8.ofInt 20).toInt32 = 20 := by decide +kernel
theorem bi_23 : (Int8.ofInt 23).toInt32 = 23 := by decide +kernel
theorem bi_28 : (Int8.ofInt 28).toInt32 = 28 := by decide +kernel
theorem bi_30 : (Int8.ofInt 30).toInt32 = 30 := by decide +kernel
theorem bi_32 : (Int8.ofInt 32).toInt32 = 32 := by decide +kernel
theorem bi_33 : (Int8.ofInt 33).toInt32 = 33 := by decide +kernel
theorem bi_37 : (Int8.ofInt 37).toInt32 = 37 := by decide +kernel
theorem bi_38 : (Int8.ofInt 38).toInt32 = 38 := by decide +kernel
theorem bi_40 : (Int8.ofInt 40).toInt32 = 40 := by decide +kernel
theorem bi_41 : (Int8.ofInt 41).toInt32 = 41 := by decide +kernel
theorem bi_42 : (Int8.ofInt 42).toInt32 = 42 := by decide +kernel
theorem bi_44 : (Int8.ofInt 44).toInt32 = 44 := by decide +kernel
theorem bi_48 : (Int8.ofInt 48).toInt32 = 48 := by decide +kernel
theorem bi_52 : (Int8.ofInt 52).toInt32 = 52 := by decide +kernel
theorem bi_54 : (Int8.ofInt 54).toInt32 = 54 := by decide +kernel
theorem bi_55 : (Int8.ofInt 55).toInt32 = 55 := by decide +kernel
theorem bi_56 : (Int8.ofInt 56).toInt32 = 56 := by decide +kernel
theorem bi_57 : (Int8.ofInt 57).toInt32 = 57 := by decide +kernel
theorem bi_58 : (Int8.ofInt 58).toInt32 = 58 := by decide +kernel
theorem bi_59 : (Int8.ofInt 59).toInt32 = 59 := by decide +kernel
theorem bi_60 : (Int8.ofInt 60).toInt32 = 60 := by decide +kernel
theorem bi_64 : (Int8.ofInt 64).toInt32 = 64 := by decide +kernel
theorem bi_70 : (Int8.ofInt 70).toInt32 = 70 := by decide +kernel
theorem bi_71 : (Int8.ofInt 71).toInt32 = 71 := by decide +kernel
theorem bi_90 : (Int8.ofInt 90).toInt32 = 90 := by decide +kernel
theorem bi_99 : (Int8.ofInt 99).toInt32 = 99 := by decide +kernel
theorem bi_100 : (Int8.ofInt 100).toInt32 = 100 := by decide +kernel
theorem bi_101 : (Int8.ofInt 101).toInt32 = 101 := by decide +kernel
theorem bi_126 : (Int8.ofInt 126).toInt32 = 126 := by decide +kernel
theorem bi_127 : (Int8.ofInt 127).toInt32 = 127 := by decide +kernel
theorem si_m1000 : (Int16.ofInt (-1000)).toInt32 = (-1000) := by decide +kernel
theorem si_200 : (Int16.ofInt 200).toInt32 = 200 := by decide +kernel
theorem si_255 : (Int16.ofInt 255).toInt32 = 255 := by decide +kernel
theorem si_300 : (Int16.ofInt 300).toInt32 = 300 := by decide +kernel
theorem si_577 : (Int16.ofInt 577).toInt32 = 577 := by decide +kernel
theorem si_700 : (Int16.ofInt 700).toInt32 = 700 := by decide +kernel
theorem si_936 : (Int16.ofInt 936).toInt32 = 936 := by decide +kernel
theorem si_999 : (Int16.ofInt 999).toInt32 = 999 := by decide +kernel
theorem si_1000 : (Int16.ofInt 1000).toInt32 = 1000 := by decide +kernel
theorem si_1001 : (Int16.ofInt 1001).toInt32 = 1001 := by decide +kernel
