theorem ka_tm {w : Cond} (i : Nat) (h : tables_1[i]? = some w) (hg : goodWord w = true) : w ∈ ka_T := List.mem_filter.mpr ⟨List.mem_append_right _ (List.mem_of_getElem? h), hg⟩
theorem ka_pm {y : MethodName} (i : Nat) (h : (lw_privs[i]?).map Prod.fst = some y) (hg : goodWord (Cond.selects y.cls y y) = true) : Cond.selects y.cls y y ∈ ka_T := by
  cases hq : lw_privs[i]? with
  | none => rw [hq] at h; cases h
  | some z =>
    rw [hq] at h
    have e : z.1 = y := Option.some.inj h
    exact List.mem_filter.mpr ⟨List.mem_append_left _ (List.mem_map.mpr ⟨z, List.mem_of_getElem? hq, by rw [e]⟩), hg⟩
abbrev mM_max : ka_Md := (Lib.Math.max.name, Lib.Math.max.code, 2, some .int, [])
abbrev mM_min : ka_Md := (Lib.Math.min.name, Lib.Math.min.code, 2, some .int, [])
abbrev mM_minl : ka_Md := (Lib.MathLoose.min_long.x, Lib.MathLoose.min_long.code, 4, some .long, [])
abbrev mX0_init : ka_Md := (yX0_init, cX0_init, 1, none, [])
abbrev mX0_digitsOf : ka_Md := (yX0_digitsOf, cX0_digitsOf, 1, some .int, [])
abbrev mX0_split : ka_Md := (yX0_split, cX0_split, 3, none, [])
abbrev mX3_clear : ka_Md := (yX3_clear, cX3_clear, 2, none, [])
abbrev mX0_addMultiple : ka_Md := (yX0_addMultiple, cX0_addMultiple, 10, none, [])
abbrev mX0_merge : ka_Md := (yX0_merge, cX0_merge, 3, none, [])
abbrev mX0_multiply : ka_Md := (yX0_multiply, cX0_multiply, 6, none, [])
abbrev mX3_lengthOfLimb : ka_Md := (yX3_lengthOfLimb, cX3_lengthOfLimb, 3, some .int, [])
abbrev mX3_lengthOf : ka_Md := (yX3_lengthOf, cX3_lengthOf, 2, some .int, [])
abbrev mX3_limbOrNought : ka_Md := (yX3_limbOrNought, cX3_limbOrNought, 2, some .long, [])
abbrev mX3_bitsFrom : ka_Md := (yX3_bitsFrom, cX3_bitsFrom, 6, some .long, [])
abbrev mX3_moveUp : ka_Md := (yX3_moveUp, cX3_moveUp, 4, none, [])
abbrev mX0_quotientOf : ka_Md := (yX0_quotientOf, cX0_quotientOf, 6, some .long, [])
abbrev mX0_subtractMultiple : ka_Md := (yX0_subtractMultiple, cX0_subtractMultiple, 12, some .boolean, [])
abbrev mX0_addBack : ka_Md := (yX0_addBack, cX0_addBack, 8, some .boolean, [])
abbrev mX0_takeMultiple : ka_Md := (yX0_takeMultiple, cX0_takeMultiple, 9, some .long, [])
abbrev mX0_divide : ka_Md := (yX0_divide, cX0_divide, 8, none, [])
abbrev mX1_init : ka_Md := (yX1_init, cX1_init, 1, none, [])
abbrev mX3_add : ka_Md := (yX3_add, cX3_add, 12, none, [])
abbrev mX3_bitOrNought : ka_Md := (yX3_bitOrNought, cX3_bitOrNought, 2, some .int, [])
abbrev mX1_highest : ka_Md := (yX1_highest, cX1_highest, 2, some .int, [])
abbrev mX1_sum : ka_Md := (yX1_sum, cX1_sum, 4, none, [])
abbrev mX3_subtract : ka_Md := (yX3_subtract, cX3_subtract, 12, none, [])
abbrev mX1_difference : ka_Md := (yX1_difference, cX1_difference, 4, none, [])
abbrev mX3_isNought : ka_Md := (yX3_isNought, cX3_isNought, 4, some .boolean, [])
abbrev mX3_maskOf : ka_Md := (yX3_maskOf, cX3_maskOf, 3, some .long, [])
abbrev mX3_cut : ka_Md := (yX3_cut, cX3_cut, 3, none, [])
abbrev mX3_negate : ka_Md := (yX3_negate, cX3_negate, 7, none, [])
abbrev mX3_atMost : ka_Md := (yX3_atMost, cX3_atMost, 3, some .int, [])
abbrev mX1_fitsWithSign : ka_Md := (yX1_fitsWithSign, cX1_fitsWithSign, 5, some .boolean, [])
abbrev mX1_product : ka_Md := (yX1_product, cX1_product, 6, none, [])
abbrev mX1_quotientOrRest : ka_Md := (yX1_quotientOrRest, cX1_quotientOrRest, 10, none, [])
abbrev mX3_fillFrom : ka_Md := (yX3_fillFrom, cX3_fillFrom, 3, none, [])
abbrev mX1_moved : ka_Md := (yX1_moved, cX1_moved, 6, none, [])
abbrev mX3_restBy : ka_Md := (yX3_restBy, cX3_restBy, 5, some .int, [])
abbrev mX3_orMovedUp : ka_Md := (yX3_orMovedUp, cX3_orMovedUp, 4, none, [])
abbrev mX1_turned : ka_Md := (yX1_turned, cX1_turned, 7, none, [])
abbrev mX1_bitByBit : ka_Md := (yX1_bitByBit, cX1_bitByBit, 6, none, [])
abbrev mX3_swapped : ka_Md := (yX3_swapped, cX3_swapped, 5, some .long, [])
abbrev mX3_bytesReversed : ka_Md := (yX3_bytesReversed, cX3_bytesReversed, 4, some .long, [])
abbrev mX3_bitsReversed : ka_Md := (yX3_bitsReversed, cX3_bitsReversed, 6, some .long, [])
abbrev mX1_reversed : ka_Md := (yX1_reversed, cX1_reversed, 7, none, [])
abbrev mX1_run : ka_Md := (yX1_run, cX1_run, 6, none, [])
abbrev mX2_init : ka_Md := (yX2_init, cX2_init, 1, none, [])
abbrev mX2_choose : ka_Md := (yX2_choose, cX2_choose, 5, none, [])
abbrev mX2_exponentOf : ka_Md := (yX2_exponentOf, cX2_exponentOf, 3, some .int, [])
abbrev mX2_fractionOf : ka_Md := (yX2_fractionOf, cX2_fractionOf, 3, some .long, [])
abbrev mX2_isNone : ka_Md := (yX2_isNone, cX2_isNone, 3, some .boolean, [])
abbrev mX2_withSign : ka_Md := (yX2_withSign, cX2_withSign, 4, some .long, [])
abbrev mX2_infinite : ka_Md := (yX2_infinite, cX2_infinite, 2, some .long, [])
abbrev mX2_none : ka_Md := (yX2_none, cX2_none, 1, some .long, [])
abbrev mX2_isInfinite : ka_Md := (yX2_isInfinite, cX2_isInfinite, 3, some .boolean, [])
abbrev mX2_isNought : ka_Md := (yX2_isNought, cX2_isNought, 3, some .boolean, [])
abbrev mX2_signOf : ka_Md := (yX2_signOf, cX2_signOf, 3, some .boolean, [])
abbrev mX2_notValid : ka_Md := (yX2_notValid, cX2_notValid, 1, some .long, [])
abbrev mX2_withoutRounding : ka_Md := (yX2_withoutRounding, cX2_withoutRounding, 10, some .long, [])
abbrev mX2_wholeOf : ka_Md := (yX2_wholeOf, cX2_wholeOf, 3, some .long, [])
abbrev mX2_powerOf : ka_Md := (yX2_powerOf, cX2_powerOf, 3, some .int, [])
abbrev mX2_divide : ka_Md := (yX2_divide, cX2_divide, 12, none, [])
abbrev mX2_multiply : ka_Md := (yX2_multiply, cX2_multiply, 5, none, [])
abbrev mX2_movedDown : ka_Md := (yX2_movedDown, cX2_movedDown, 6, some .long, [])
abbrev mX2_add : ka_Md := (yX2_add, cX2_add, 19, none, [])
abbrev mX2_tooGreat : ka_Md := (yX2_tooGreat, cX2_tooGreat, 3, some .long, [])
abbrev mX2_finite : ka_Md := (yX2_finite, cX2_finite, 10, some .long, [])
abbrev mX2_goesAway : ka_Md := (yX2_goesAway, cX2_goesAway, 7, some .boolean, [])
abbrev mX2_rounded : ka_Md := (yX2_rounded, cX2_rounded, 9, some .long, [])
abbrev mX2_answer : ka_Md := (yX2_answer, cX2_answer, 9, some .long, [])
abbrev mJ9_floorMod_7cf53 : ka_Md := (yJ9_floorMod_7cf53, cJ9_floorMod_7cf53, 3, some .int, [])
abbrev mX4_init : ka_Md := (yX4_init, cX4_init, 2, none, [])
abbrev mX4_requireRoom : ka_Md := (yX4_requireRoom, cX4_requireRoom, 1, none, [])
abbrev mX4_keepMade : ka_Md := (yX4_keepMade, cX4_keepMade, 3, some .int, [])
abbrev mX4_word : ka_Md := (yX4_word, cX4_word, 1, some .int, [])
abbrev mX4_requireWord : ka_Md := (yX4_requireWord, cX4_requireWord, 2, none, [])
abbrev mX4_requireLimb : ka_Md := (yX4_requireLimb, cX4_requireLimb, 3, none, [])
abbrev mX4_set : ka_Md := (yX4_set, cX4_set, 7, some .boolean, [])
abbrev mX4_requireKind : ka_Md := (yX4_requireKind, cX4_requireKind, 3, none, [])
abbrev mX4_requireOneWidth : ka_Md := (yX4_requireOneWidth, cX4_requireOneWidth, 3, none, [])
abbrev mX4_load : ka_Md := (yX4_load, cX4_load, 3, none, [])
abbrev mX4_op : ka_Md := (yX4_op, cX4_op, 5, some .int, [])
abbrev mX4_flag : ka_Md := (yX4_flag, cX4_flag, 2, some .int, [])
abbrev mX4_field : ka_Md := (yX4_field, cX4_field, 4, some .int, [])
abbrev mX4_join : ka_Md := (yX4_join, cX4_join, 4, some .int, [])
abbrev mX4_hasBit : ka_Md := (yX4_hasBit, cX4_hasBit, 3, some .boolean, [])
abbrev mX4_isNegative : ka_Md := (yX4_isNegative, cX4_isNegative, 2, some .boolean, [])
abbrev mX4_extend : ka_Md := (yX4_extend, cX4_extend, 4, some .int, [])
abbrev mX4_compare : ka_Md := (yX4_compare, cX4_compare, 9, some .int, [])
abbrev mX4_bit : ka_Md := (yX4_bit, cX4_bit, 3, some .boolean, [])
abbrev mX4_limb : ka_Md := (yX4_limb, cX4_limb, 3, some .long, [])
abbrev mX4_real : ka_Md := (yX4_real, cX4_real, 6, some .int, [])
abbrev mX4_flags : ka_Md := (yX4_flags, cX4_flags, 1, some .int, [])
abbrev mJ13_bitCount_95d88 : ka_Md := (yJ13_bitCount_95d88, cJ13_bitCount_95d88, 2, some .int, [])
abbrev mX4_count : ka_Md := (yX4_count, cX4_count, 4, some .int, [])
abbrev mX4_width : ka_Md := (yX4_width, cX4_width, 2, some .int, [])
abbrev mX5_init : ka_Md := (yX5_init, cX5_init, 2, none, [])
abbrev mX5_thrown : ka_Md := (yX5_thrown, cX5_thrown, 1, some .int, [])
abbrev mX5_isWord : ka_Md := (yX5_isWord, cX5_isWord, 2, some .boolean, [])
abbrev mX5_throwing : ka_Md := (yX5_throwing, cX5_throwing, 5, some .boolean, [])
abbrev mX5_bitOf : ka_Md := (yX5_bitOf, cX5_bitOf, 3, some .int, [])
abbrev mX5_make : ka_Md := (yX5_make, cX5_make, 3, some .int, [])
abbrev mX5_word : ka_Md := (yX5_word, cX5_word, 1, some .int, [])
abbrev mX5_isLimb : ka_Md := (yX5_isLimb, cX5_isLimb, 3, some .boolean, [])
abbrev mX5_set : ka_Md := (yX5_set, cX5_set, 8, some .boolean, [])
abbrev mX5_limb : ka_Md := (yX5_limb, cX5_limb, 6, some .long, [])
abbrev mX5_load : ka_Md := (yX5_load, cX5_load, 4, none, [])
abbrev mX5_amounts : ka_Md := (yX5_amounts, cX5_amounts, 9, none, [])
abbrev mX5_turn : ka_Md := (yX5_turn, cX5_turn, 5, none, [])
abbrev mX5_add : ka_Md := (yX5_add, cX5_add, 6, some .int, [])
abbrev mX5_multiply : ka_Md := (yX5_multiply, cX5_multiply, 6, none, [])
abbrev mX5_divide : ka_Md := (yX5_divide, cX5_divide, 7, none, [])
abbrev mX5_takeRest : ka_Md := (yX5_takeRest, cX5_takeRest, 3, none, [])
abbrev mX5_amountOfB : ka_Md := (yX5_amountOfB, cX5_amountOfB, 4, some .int, [])
abbrev mX5_bAround : ka_Md := (yX5_bAround, cX5_bAround, 4, some .int, [])
abbrev mX5_isNought : ka_Md := (yX5_isNought, cX5_isNought, 6, some .boolean, [])
abbrev mX5_fits : ka_Md := (yX5_fits, cX5_fits, 3, some .boolean, [])
abbrev mX5_sums : ka_Md := (yX5_sums, cX5_sums, 5, none, [])
abbrev mX5_quotients : ka_Md := (yX5_quotients, cX5_quotients, 5, none, [])
abbrev mX5_moves : ka_Md := (yX5_moves, cX5_moves, 6, none, [])
abbrev mX5_others : ka_Md := (yX5_others, cX5_others, 5, none, [])
abbrev mX5_keep : ka_Md := (yX5_keep, cX5_keep, 5, some .int, [])
abbrev mX5_op : ka_Md := (yX5_op, cX5_op, 11, some .int, [])
abbrev mX5_flag : ka_Md := (yX5_flag, cX5_flag, 2, some .int, [])
abbrev mX5_field : ka_Md := (yX5_field, cX5_field, 6, some .int, [])
abbrev mX5_join : ka_Md := (yX5_join, cX5_join, 5, some .int, [])
abbrev mX5_extend : ka_Md := (yX5_extend, cX5_extend, 7, some .int, [])
abbrev mX5_compare : ka_Md := (yX5_compare, cX5_compare, 8, some .int, [])
abbrev mX5_bit : ka_Md := (yX5_bit, cX5_bit, 4, some .boolean, [])
abbrev mX5_count : ka_Md := (yX5_count, cX5_count, 4, some .int, [])
abbrev mX5_width : ka_Md := (yX5_width, cX5_width, 2, some .int, [])
abbrev mX5_fractionBits : ka_Md := (yX5_fractionBits, cX5_fractionBits, 1, some .int, [])
abbrev mX5_exponentBits : ka_Md := (yX5_exponentBits, cX5_exponentBits, 1, some .int, [])
abbrev mX5_bias : ka_Md := (yX5_bias, cX5_bias, 1, some .int, [])
abbrev mX5_take : ka_Md := (yX5_take, cX5_take, 12, none, [])
abbrev mX5_packed : ka_Md := (yX5_packed, cX5_packed, 5, some .long, [])
abbrev mX5_none : ka_Md := (yX5_none, cX5_none, 1, some .long, [])
abbrev mX5_infinite : ka_Md := (yX5_infinite, cX5_infinite, 2, some .long, [])
abbrev mX5_notValid : ka_Md := (yX5_notValid, cX5_notValid, 2, some .long, [])
abbrev mX5_highest : ka_Md := (yX5_highest, cX5_highest, 3, some .int, [])
abbrev mX5_isMore : ka_Md := (yX5_isMore, cX5_isMore, 5, some .boolean, [])
abbrev mX5_rounded : ka_Md := (yX5_rounded, cX5_rounded, 19, some .long, [])
abbrev mX5_sum : ka_Md := (yX5_sum, cX5_sum, 12, some .long, [])
abbrev mX5_product : ka_Md := (yX5_product, cX5_product, 5, some .long, [])
abbrev mX5_quotient : ka_Md := (yX5_quotient, cX5_quotient, 10, some .long, [])
abbrev mX5_real : ka_Md := (yX5_real, cX5_real, 11, some .int, [])
abbrev mX5_flags : ka_Md := (yX5_flags, cX5_flags, 1, some .int, [])
abbrev mL_cell : ka_Md := (yL_cell, cL_cell, 2, some .int, [])
abbrev mL_word : ka_Md := (yL_word, cL_word, 3, some .int, [(0, 8, 11, 13)])
abbrev mL_set : ka_Md := (yL_set, cL_set, 7, some .int, [(0, 19, 22, 19)])
abbrev mL_op : ka_Md := (yL_op, cL_op, 6, some .int, [(0, 12, 15, 19), (0, 12, 19, 25), (0, 12, 23, 27), (0, 12, 27, 13)])
abbrev mL_flag : ka_Md := (yL_flag, cL_flag, 4, some .int, [(0, 9, 12, 25)])
abbrev mL_field : ka_Md := (yL_field, cL_field, 6, some .int, [(0, 12, 15, 19), (0, 12, 19, 25), (0, 12, 23, 13)])
abbrev mL_join : ka_Md := (yL_join, cL_join, 5, some .int, [(0, 10, 13, 19), (0, 10, 17, 25), (0, 10, 21, 13)])
abbrev mL_extend : ka_Md := (yL_extend, cL_extend, 6, some .int, [(0, 12, 15, 19), (0, 12, 19, 25), (0, 12, 23, 13)])
abbrev mL_compare : ka_Md := (yL_compare, cL_compare, 6, some .int, [(0, 12, 15, 19), (0, 12, 19, 25)])
abbrev mL_bit : ka_Md := (yL_bit, cL_bit, 5, some .int, [(0, 17, 20, 19), (0, 17, 24, 25)])
abbrev mL_limb : ka_Md := (yL_limb, cL_limb, 5, some .int, [(0, 9, 12, 19)])
abbrev mL_real : ka_Md := (yL_real, cL_real, 7, some .int, [(0, 14, 17, 19), (0, 14, 21, 25), (0, 14, 25, 13)])
abbrev mL_count : ka_Md := (yL_count, cL_count, 4, some .int, [(0, 9, 12, 19)])
abbrev mL_width : ka_Md := (yL_width, cL_width, 4, some .int, [(0, 9, 12, 19)])
abbrev mL_law : ka_Md := (yL_law, code, 8, ret, [])
theorem in_X0 : ∀ w ∈ u_ws RX0 TX0 7, w ∈ ka_T := by
  intro w hw
  simp only [u_ws, List.range, List.range.loop, List.map_cons, List.map_nil, List.mem_cons, List.not_mem_nil, or_false] at hw
  rcases hw with rfl | rfl | rfl | rfl | rfl | rfl | rfl
  · exact ka_tm 48 (by decide +kernel) rfl
  · exact ka_tm 50 (by decide +kernel) rfl
  · exact ka_tm 52 (by decide +kernel) rfl
  · exact ka_tm 54 (by decide +kernel) rfl
  · exact ka_tm 56 (by decide +kernel) rfl
  · exact ka_tm 58 (by decide +kernel) rfl
  · exact ka_tm 60 (by decide +kernel) rfl
theorem in_X1 : ∀ w ∈ u_ws RX1 TX1 7, w ∈ ka_T := by
  intro w hw
  simp only [u_ws, List.range, List.range.loop, List.map_cons, List.map_nil, List.mem_cons, List.not_mem_nil, or_false] at hw
  rcases hw with rfl | rfl | rfl | rfl | rfl | rfl | rfl
  · exact ka_tm 76 (by decide +kernel) rfl
  · exact ka_tm 78 (by decide +kernel) rfl
  · exact ka_tm 80 (by decide +kernel) rfl
  · exact ka_tm 82 (by decide +kernel) rfl
  · exact ka_tm 84 (by decide +kernel) rfl
  · exact ka_tm 86 (by decide +kernel) rfl
  · exact ka_tm 88 (by decide +kernel) rfl
theorem in_X2 : ∀ w ∈ u_ws RX2 TX2 9, w ∈ ka_T := by
  intro w hw
  simp only [u_ws, List.range, List.range.loop, List.map_cons, List.map_nil, List.mem_cons, List.not_mem_nil, or_false] at hw
  rcases hw with rfl | rfl | rfl | rfl | rfl | rfl | rfl | rfl | rfl
  · exact ka_tm 108 (by decide +kernel) rfl
  · exact ka_tm 110 (by decide +kernel) rfl
  · exact ka_tm 112 (by decide +kernel) rfl
  · exact ka_tm 114 (by decide +kernel) rfl
  · exact ka_tm 116 (by decide +kernel) rfl
  · exact ka_tm 118 (by decide +kernel) rfl
  · exact ka_tm 120 (by decide +kernel) rfl
  · exact ka_tm 122 (by decide +kernel) rfl
  · exact ka_tm 124 (by decide +kernel) rfl
theorem in_X4 : ∀ w ∈ u_ws RX4 TX4 9, w ∈ ka_T := by
  intro w hw
  simp only [u_ws, List.range, List.range.loop, List.map_cons, List.map_nil, List.mem_cons, List.not_mem_nil, or_false] at hw
  rcases hw with rfl | rfl | rfl | rfl | rfl | rfl | rfl | rfl | rfl
  · exact ka_tm 139 (by decide +kernel) rfl
  · exact ka_tm 141 (by decide +kernel) rfl
  · exact ka_tm 143 (by decide +kernel) rfl
  · exact ka_tm 145 (by decide +kernel) rfl
  · exact ka_tm 147 (by decide +kernel) rfl
  · exact ka_tm 149 (by decide +kernel) rfl
  · exact ka_tm 151 (by decide +kernel) rfl
  · exact ka_tm 153 (by decide +kernel) rfl
  · exact ka_tm 155 (by decide +kernel) rfl
theorem in_X5 : ∀ w ∈ u_ws RX5 TX5 15, w ∈ ka_T := by
  intro w hw
  simp only [u_ws, List.range, List.range.loop, List.map_cons, List.map_nil, List.mem_cons, List.not_mem_nil, or_false] at hw
  rcases hw with rfl | rfl | rfl | rfl | rfl | rfl | rfl | rfl | rfl | rfl | rfl | rfl | rfl | rfl | rfl
  · exact ka_tm 721 (by decide +kernel) rfl
  · exact ka_tm 723 (by decide +kernel) rfl
  · exact ka_tm 725 (by decide +kernel) rfl
  · exact ka_tm 727 (by decide +kernel) rfl
  · exact ka_tm 729 (by decide +kernel) rfl
  · exact ka_tm 731 (by decide +kernel) rfl
  · exact ka_tm 733 (by decide +kernel) rfl
  · exact ka_tm 735 (by decide +kernel) rfl
  · exact ka_tm 737 (by decide +kernel) rfl
  · exact ka_tm 739 (by decide +kernel) rfl
  · exact ka_tm 741 (by decide +kernel) rfl
  · exact ka_tm 743 (by decide +kernel) rfl
  · exact ka_tm 745 (by decide +kernel) rfl
  · exact ka_tm 747 (by decide +kernel) rfl
  · exact ka_tm 749 (by decide +kernel) rfl
theorem fl_X0_9 : Cond.fieldLink RX0 9 (TX0 0).1 (TX0 0).2.1 (TX0 0).2.2.1 ∈ ka_T := ka_tm 38 (by decide +kernel) rfl
theorem fl_X0_15 : Cond.fieldLink RX0 15 (TX0 1).1 (TX0 1).2.1 (TX0 1).2.2.1 ∈ ka_T := ka_tm 40 (by decide +kernel) rfl
theorem fl_X0_18 : Cond.fieldLink RX0 18 (TX0 2).1 (TX0 2).2.1 (TX0 2).2.2.1 ∈ ka_T := ka_tm 42 (by decide +kernel) rfl
theorem fl_X0_21 : Cond.fieldLink RX0 21 (TX0 3).1 (TX0 3).2.1 (TX0 3).2.2.1 ∈ ka_T := ka_tm 44 (by decide +kernel) rfl
theorem fl_X0_24 : Cond.fieldLink RX0 24 (TX0 4).1 (TX0 4).2.1 (TX0 4).2.2.1 ∈ ka_T := ka_tm 45 (by decide +kernel) rfl
theorem fl_X0_27 : Cond.fieldLink RX0 27 (TX0 5).1 (TX0 5).2.1 (TX0 5).2.2.1 ∈ ka_T := ka_tm 46 (by decide +kernel) rfl
theorem fl_X0_30 : Cond.fieldLink RX0 30 (TX0 6).1 (TX0 6).2.1 (TX0 6).2.2.1 ∈ ka_T := ka_tm 47 (by decide +kernel) rfl
theorem fl_X1_9 : Cond.fieldLink RX1 9 (TX1 0).1 (TX1 0).2.1 (TX1 0).2.2.1 ∈ ka_T := ka_tm 65 (by decide +kernel) rfl
theorem fl_X1_15 : Cond.fieldLink RX1 15 (TX1 1).1 (TX1 1).2.1 (TX1 1).2.2.1 ∈ ka_T := ka_tm 67 (by decide +kernel) rfl
theorem fl_X1_18 : Cond.fieldLink RX1 18 (TX1 2).1 (TX1 2).2.1 (TX1 2).2.2.1 ∈ ka_T := ka_tm 69 (by decide +kernel) rfl
theorem fl_X1_21 : Cond.fieldLink RX1 21 (TX1 3).1 (TX1 3).2.1 (TX1 3).2.2.1 ∈ ka_T := ka_tm 71 (by decide +kernel) rfl
theorem fl_X1_24 : Cond.fieldLink RX1 24 (TX1 4).1 (TX1 4).2.1 (TX1 4).2.2.1 ∈ ka_T := ka_tm 73 (by decide +kernel) rfl
theorem fl_X1_30 : Cond.fieldLink RX1 30 (TX1 5).1 (TX1 5).2.1 (TX1 5).2.2.1 ∈ ka_T := ka_tm 74 (by decide +kernel) rfl
theorem fl_X1_34 : Cond.fieldLink RX1 34 (TX1 6).1 (TX1 6).2.1 (TX1 6).2.2.1 ∈ ka_T := ka_tm 75 (by decide +kernel) rfl
theorem fl_X1_93 : Cond.fieldLink RX1 93 (TX0 0).1 (TX0 0).2.1 (TX0 0).2.2.1 ∈ ka_T := ka_tm 39 (by decide +kernel) rfl
theorem fl_X1_112 : Cond.fieldLink RX1 112 (TX0 1).1 (TX0 1).2.1 (TX0 1).2.2.1 ∈ ka_T := ka_tm 41 (by decide +kernel) rfl
theorem fl_X1_115 : Cond.fieldLink RX1 115 (TX0 2).1 (TX0 2).2.1 (TX0 2).2.2.1 ∈ ka_T := ka_tm 43 (by decide +kernel) rfl
theorem fl_X2_7 : Cond.fieldLink RX2 7 (TX2 0).1 (TX2 0).2.1 (TX2 0).2.2.1 ∈ ka_T := ka_tm 98 (by decide +kernel) rfl
theorem fl_X2_13 : Cond.fieldLink RX2 13 (TX2 1).1 (TX2 1).2.1 (TX2 1).2.2.1 ∈ ka_T := ka_tm 100 (by decide +kernel) rfl
theorem fl_X2_16 : Cond.fieldLink RX2 16 (TX2 2).1 (TX2 2).2.1 (TX2 2).2.2.1 ∈ ka_T := ka_tm 101 (by decide +kernel) rfl
theorem fl_X2_19 : Cond.fieldLink RX2 19 (TX2 3).1 (TX2 3).2.1 (TX2 3).2.2.1 ∈ ka_T := ka_tm 102 (by decide +kernel) rfl
theorem fl_X2_22 : Cond.fieldLink RX2 22 (TX2 4).1 (TX2 4).2.1 (TX2 4).2.2.1 ∈ ka_T := ka_tm 103 (by decide +kernel) rfl
theorem fl_X2_27 : Cond.fieldLink RX2 27 (TX2 5).1 (TX2 5).2.1 (TX2 5).2.2.1 ∈ ka_T := ka_tm 104 (by decide +kernel) rfl
theorem fl_X2_31 : Cond.fieldLink RX2 31 (TX2 6).1 (TX2 6).2.1 (TX2 6).2.2.1 ∈ ka_T := ka_tm 105 (by decide +kernel) rfl
theorem fl_X2_35 : Cond.fieldLink RX2 35 (TX2 7).1 (TX2 7).2.1 (TX2 7).2.2.1 ∈ ka_T := ka_tm 106 (by decide +kernel) rfl
theorem fl_X2_38 : Cond.fieldLink RX2 38 (TX2 8).1 (TX2 8).2.1 (TX2 8).2.2.1 ∈ ka_T := ka_tm 107 (by decide +kernel) rfl
theorem fl_X4_9 : Cond.fieldLink RX4 9 (TX4 1).1 (TX4 1).2.1 (TX4 1).2.2.1 ∈ ka_T := ka_tm 131 (by decide +kernel) rfl
theorem fl_X4_13 : Cond.fieldLink RX4 13 (TX4 2).1 (TX4 2).2.1 (TX4 2).2.2.1 ∈ ka_T := ka_tm 132 (by decide +kernel) rfl
theorem fl_X4_17 : Cond.fieldLink RX4 17 (TX4 3).1 (TX4 3).2.1 (TX4 3).2.2.1 ∈ ka_T := ka_tm 133 (by decide +kernel) rfl
theorem fl_X4_21 : Cond.fieldLink RX4 21 (TX4 4).1 (TX4 4).2.1 (TX4 4).2.2.1 ∈ ka_T := ka_tm 134 (by decide +kernel) rfl
theorem fl_X4_24 : Cond.fieldLink RX4 24 (TX4 5).1 (TX4 5).2.1 (TX4 5).2.2.1 ∈ ka_T := ka_tm 135 (by decide +kernel) rfl
theorem fl_X4_27 : Cond.fieldLink RX4 27 (TX4 6).1 (TX4 6).2.1 (TX4 6).2.2.1 ∈ ka_T := ka_tm 136 (by decide +kernel) rfl
theorem fl_X4_33 : Cond.fieldLink RX4 33 (TX4 7).1 (TX4 7).2.1 (TX4 7).2.2.1 ∈ ka_T := ka_tm 137 (by decide +kernel) rfl
theorem fl_X4_40 : Cond.fieldLink RX4 40 (TX4 8).1 (TX4 8).2.1 (TX4 8).2.2.1 ∈ ka_T := ka_tm 138 (by decide +kernel) rfl
theorem fl_X4_50 : Cond.fieldLink RX4 50 (TX4 0).1 (TX4 0).2.1 (TX4 0).2.2.1 ∈ ka_T := ka_tm 130 (by decide +kernel) rfl
theorem fl_X4_108 : Cond.fieldLink RX4 108 (TX1 0).1 (TX1 0).2.1 (TX1 0).2.2.1 ∈ ka_T := ka_tm 66 (by decide +kernel) rfl
theorem fl_X4_111 : Cond.fieldLink RX4 111 (TX1 1).1 (TX1 1).2.1 (TX1 1).2.2.1 ∈ ka_T := ka_tm 68 (by decide +kernel) rfl
theorem fl_X4_114 : Cond.fieldLink RX4 114 (TX1 2).1 (TX1 2).2.1 (TX1 2).2.2.1 ∈ ka_T := ka_tm 70 (by decide +kernel) rfl
theorem fl_X4_117 : Cond.fieldLink RX4 117 (TX1 3).1 (TX1 3).2.1 (TX1 3).2.2.1 ∈ ka_T := ka_tm 72 (by decide +kernel) rfl
theorem fl_X4_160 : Cond.fieldLink RX4 160 (TX2 0).1 (TX2 0).2.1 (TX2 0).2.2.1 ∈ ka_T := ka_tm 99 (by decide +kernel) rfl
theorem fl_X5_7 : Cond.fieldLink RX5 7 (TX5 3).1 (TX5 3).2.1 (TX5 3).2.2.1 ∈ ka_T := ka_tm 709 (by decide +kernel) rfl
theorem fl_X5_14 : Cond.fieldLink RX5 14 (TX5 4).1 (TX5 4).2.1 (TX5 4).2.2.1 ∈ ka_T := ka_tm 710 (by decide +kernel) rfl
theorem fl_X5_18 : Cond.fieldLink RX5 18 (TX5 5).1 (TX5 5).2.1 (TX5 5).2.2.1 ∈ ka_T := ka_tm 711 (by decide +kernel) rfl
theorem fl_X5_21 : Cond.fieldLink RX5 21 (TX5 7).1 (TX5 7).2.1 (TX5 7).2.2.1 ∈ ka_T := ka_tm 713 (by decide +kernel) rfl
theorem fl_X5_24 : Cond.fieldLink RX5 24 (TX5 8).1 (TX5 8).2.1 (TX5 8).2.2.1 ∈ ka_T := ka_tm 714 (by decide +kernel) rfl
theorem fl_X5_27 : Cond.fieldLink RX5 27 (TX5 9).1 (TX5 9).2.1 (TX5 9).2.2.1 ∈ ka_T := ka_tm 715 (by decide +kernel) rfl
theorem fl_X5_30 : Cond.fieldLink RX5 30 (TX5 10).1 (TX5 10).2.1 (TX5 10).2.2.1 ∈ ka_T := ka_tm 716 (by decide +kernel) rfl
theorem fl_X5_33 : Cond.fieldLink RX5 33 (TX5 11).1 (TX5 11).2.1 (TX5 11).2.2.1 ∈ ka_T := ka_tm 717 (by decide +kernel) rfl
theorem fl_X5_36 : Cond.fieldLink RX5 36 (TX5 12).1 (TX5 12).2.1 (TX5 12).2.2.1 ∈ ka_T := ka_tm 718 (by decide +kernel) rfl
theorem fl_X5_39 : Cond.fieldLink RX5 39 (TX5 13).1 (TX5 13).2.1 (TX5 13).2.2.1 ∈ ka_T := ka_tm 719 (by decide +kernel) rfl
theorem fl_X5_42 : Cond.fieldLink RX5 42 (TX5 14).1 (TX5 14).2.1 (TX5 14).2.2.1 ∈ ka_T := ka_tm 720 (by decide +kernel) rfl
theorem fl_X5_46 : Cond.fieldLink RX5 46 (TX5 1).1 (TX5 1).2.1 (TX5 1).2.2.1 ∈ ka_T := ka_tm 707 (by decide +kernel) rfl
theorem fl_X5_50 : Cond.fieldLink RX5 50 (TX5 0).1 (TX5 0).2.1 (TX5 0).2.2.1 ∈ ka_T := ka_tm 706 (by decide +kernel) rfl
theorem fl_X5_53 : Cond.fieldLink RX5 53 (TX5 2).1 (TX5 2).2.1 (TX5 2).2.2.1 ∈ ka_T := ka_tm 708 (by decide +kernel) rfl
theorem fl_X5_142 : Cond.fieldLink RX5 142 (TX5 6).1 (TX5 6).2.1 (TX5 6).2.2.1 ∈ ka_T := ka_tm 712 (by decide +kernel) rfl
theorem ki_X5_13 : Cond.constant RX5 13 (307200) ∈ ka_T := ka_tm 705 (by decide +kernel) rfl
theorem kl_J13_314 : Cond.constantLong RJ13 314 (6148914691236517205) ∈ ka_T := ka_tm 689 (by decide +kernel) rfl
theorem kl_J13_316 : Cond.constantLong RJ13 316 (3689348814741910323) ∈ ka_T := ka_tm 690 (by decide +kernel) rfl
theorem kl_J13_318 : Cond.constantLong RJ13 318 (1085102592571150095) ∈ ka_T := ka_tm 691 (by decide +kernel) rfl
theorem kl_L_84 : Cond.constantLong RL 84 (4294967295) ∈ ka_T := ka_tm 946 (by decide +kernel) rfl
theorem kl_X0_54 : Cond.constantLong RX0 54 (4294967295) ∈ ka_T := ka_tm 402 (by decide +kernel) rfl
theorem kl_X1_133 : Cond.constantLong RX1 133 (-1) ∈ ka_T := ka_tm 488 (by decide +kernel) rfl
theorem kl_X2_25 : Cond.constantLong RX2 25 (128) ∈ ka_T := ka_tm 97 (by decide +kernel) rfl
theorem kl_X2_128 : Cond.constantLong RX2 128 (-1) ∈ ka_T := ka_tm 622 (by decide +kernel) rfl
theorem kl_X3_9 : Cond.constantLong RX3 9 (-1) ∈ ka_T := ka_tm 259 (by decide +kernel) rfl
theorem kl_X3_28 : Cond.constantLong RX3 28 (4294967295) ∈ ka_T := ka_tm 480 (by decide +kernel) rfl
theorem kl_X3_34 : Cond.constantLong RX3 34 (71777214294589695) ∈ ka_T := ka_tm 505 (by decide +kernel) rfl
theorem kl_X3_40 : Cond.constantLong RX3 40 (281470681808895) ∈ ka_T := ka_tm 506 (by decide +kernel) rfl
theorem kl_X3_42 : Cond.constantLong RX3 42 (6148914691236517205) ∈ ka_T := ka_tm 496 (by decide +kernel) rfl
theorem kl_X3_44 : Cond.constantLong RX3 44 (3689348814741910323) ∈ ka_T := ka_tm 500 (by decide +kernel) rfl
theorem kl_X3_46 : Cond.constantLong RX3 46 (1085102592571150095) ∈ ka_T := ka_tm 501 (by decide +kernel) rfl
theorem kl_X4_143 : Cond.constantLong RX4 143 (-9223372036854775808) ∈ ka_T := ka_tm 558 (by decide +kernel) rfl
theorem kl_X5_157 : Cond.constantLong RX5 157 (2) ∈ ka_T := ka_tm 932 (by decide +kernel) rfl
theorem kl_X5_170 : Cond.constantLong RX5 170 (3) ∈ ka_T := ka_tm 941 (by decide +kernel) rfl
theorem lk_L_7 : ka_lkV RL 7 mX4_word 0 := ⟨⟨rfl, ka_tm 169 (by decide +kernel) rfl, ka_tm 1 (by decide +kernel) rfl, ka_tm 172 (by decide +kernel) rfl, by decide +kernel, by decide +kernel, by decide +kernel⟩, ka_tm 170 (by decide +kernel) rfl, ka_tm 171 (by decide +kernel) rfl⟩
theorem lk_L_15 : ka_lkV RL 15 mX4_set 3 := ⟨⟨rfl, ka_tm 267 (by decide +kernel) rfl, ka_tm 1 (by decide +kernel) rfl, ka_tm 270 (by decide +kernel) rfl, by decide +kernel, by decide +kernel, by decide +kernel⟩, ka_tm 268 (by decide +kernel) rfl, ka_tm 269 (by decide +kernel) rfl⟩
theorem lk_L_21 : ka_lkV RL 21 mX4_op 3 := ⟨⟨rfl, ka_tm 307 (by decide +kernel) rfl, ka_tm 1 (by decide +kernel) rfl, ka_tm 310 (by decide +kernel) rfl, by decide +kernel, by decide +kernel, by decide +kernel⟩, ka_tm 308 (by decide +kernel) rfl, ka_tm 309 (by decide +kernel) rfl⟩
theorem lk_L_29 : ka_lkV RL 29 mX4_flag 1 := ⟨⟨rfl, ka_tm 511 (by decide +kernel) rfl, ka_tm 1 (by decide +kernel) rfl, ka_tm 514 (by decide +kernel) rfl, by decide +kernel, by decide +kernel, by decide +kernel⟩, ka_tm 512 (by decide +kernel) rfl, ka_tm 513 (by decide +kernel) rfl⟩
theorem lk_L_33 : ka_lkV RL 33 mX4_field 3 := ⟨⟨rfl, ka_tm 519 (by decide +kernel) rfl, ka_tm 1 (by decide +kernel) rfl, ka_tm 522 (by decide +kernel) rfl, by decide +kernel, by decide +kernel, by decide +kernel⟩, ka_tm 520 (by decide +kernel) rfl, ka_tm 521 (by decide +kernel) rfl⟩
theorem lk_L_36 : ka_lkV RL 36 mX4_join 2 := ⟨⟨rfl, ka_tm 528 (by decide +kernel) rfl, ka_tm 1 (by decide +kernel) rfl, ka_tm 531 (by decide +kernel) rfl, by decide +kernel, by decide +kernel, by decide +kernel⟩, ka_tm 529 (by decide +kernel) rfl, ka_tm 530 (by decide +kernel) rfl⟩
theorem lk_L_40 : ka_lkV RL 40 mX4_extend 3 := ⟨⟨rfl, ka_tm 537 (by decide +kernel) rfl, ka_tm 1 (by decide +kernel) rfl, ka_tm 540 (by decide +kernel) rfl, by decide +kernel, by decide +kernel, by decide +kernel⟩, ka_tm 538 (by decide +kernel) rfl, ka_tm 539 (by decide +kernel) rfl⟩
theorem lk_L_44 : ka_lkV RL 44 mX4_compare 3 := ⟨⟨rfl, ka_tm 554 (by decide +kernel) rfl, ka_tm 1 (by decide +kernel) rfl, ka_tm 557 (by decide +kernel) rfl, by decide +kernel, by decide +kernel, by decide +kernel⟩, ka_tm 555 (by decide +kernel) rfl, ka_tm 556 (by decide +kernel) rfl⟩
theorem lk_L_47 : ka_lkV RL 47 mX4_bit 2 := ⟨⟨rfl, ka_tm 562 (by decide +kernel) rfl, ka_tm 1 (by decide +kernel) rfl, ka_tm 565 (by decide +kernel) rfl, by decide +kernel, by decide +kernel, by decide +kernel⟩, ka_tm 563 (by decide +kernel) rfl, ka_tm 564 (by decide +kernel) rfl⟩
theorem lk_L_51 : ka_lkV RL 51 mX4_limb 2 := ⟨⟨rfl, ka_tm 570 (by decide +kernel) rfl, ka_tm 1 (by decide +kernel) rfl, ka_tm 573 (by decide +kernel) rfl, by decide +kernel, by decide +kernel, by decide +kernel⟩, ka_tm 571 (by decide +kernel) rfl, ka_tm 572 (by decide +kernel) rfl⟩
theorem lk_L_55 : ka_lkV RL 55 mX4_real 4 := ⟨⟨rfl, ka_tm 577 (by decide +kernel) rfl, ka_tm 1 (by decide +kernel) rfl, ka_tm 580 (by decide +kernel) rfl, by decide +kernel, by decide +kernel, by decide +kernel⟩, ka_tm 578 (by decide +kernel) rfl, ka_tm 579 (by decide +kernel) rfl⟩
theorem lk_L_59 : ka_lkV RL 59 mX4_count 1 := ⟨⟨rfl, ka_tm 682 (by decide +kernel) rfl, ka_tm 1 (by decide +kernel) rfl, ka_tm 685 (by decide +kernel) rfl, by decide +kernel, by decide +kernel, by decide +kernel⟩, ka_tm 683 (by decide +kernel) rfl, ka_tm 684 (by decide +kernel) rfl⟩
theorem lk_L_62 : ka_lkV RL 62 mX4_width 1 := ⟨⟨rfl, ka_tm 695 (by decide +kernel) rfl, ka_tm 1 (by decide +kernel) rfl, ka_tm 698 (by decide +kernel) rfl, by decide +kernel, by decide +kernel, by decide +kernel⟩, ka_tm 696 (by decide +kernel) rfl, ka_tm 697 (by decide +kernel) rfl⟩
theorem lk_L_65 : ka_lkS RL 65 mL_cell 2 := ⟨⟨rfl, ka_tm 162 (by decide +kernel) rfl, ka_tm 0 (by decide +kernel) rfl, ka_tm 164 (by decide +kernel) rfl, by decide +kernel, by decide +kernel, by decide +kernel⟩, ka_tm 163 (by decide +kernel) rfl⟩
theorem lk_L_71 : ka_lkI RL 71 mX4_init 1 := ⟨⟨rfl, ka_tm 20 (by decide +kernel) rfl, ka_tm 1 (by decide +kernel) rfl, ka_tm 22 (by decide +kernel) rfl, by decide +kernel, by decide +kernel, by decide +kernel⟩, rfl, ka_tm 21 (by decide +kernel) rfl⟩
theorem lk_L_76 : ka_lkI RL 76 mX5_init 1 := ⟨⟨rfl, ka_tm 701 (by decide +kernel) rfl, ka_tm 6 (by decide +kernel) rfl, ka_tm 703 (by decide +kernel) rfl, by decide +kernel, by decide +kernel, by decide +kernel⟩, rfl, ka_tm 702 (by decide +kernel) rfl⟩
theorem lk_L_80 : ka_lkV RL 80 mX5_word 0 := ⟨⟨rfl, ka_tm 756 (by decide +kernel) rfl, ka_tm 6 (by decide +kernel) rfl, ka_tm 759 (by decide +kernel) rfl, by decide +kernel, by decide +kernel, by decide +kernel⟩, ka_tm 757 (by decide +kernel) rfl, ka_tm 758 (by decide +kernel) rfl⟩
theorem lk_L_81 : ka_lkV RL 81 mX5_thrown 0 := ⟨⟨rfl, ka_tm 752 (by decide +kernel) rfl, ka_tm 6 (by decide +kernel) rfl, ka_tm 755 (by decide +kernel) rfl, by decide +kernel, by decide +kernel, by decide +kernel⟩, ka_tm 753 (by decide +kernel) rfl, ka_tm 754 (by decide +kernel) rfl⟩
theorem lk_L_89 : ka_lkV RL 89 mX5_set 3 := ⟨⟨rfl, ka_tm 768 (by decide +kernel) rfl, ka_tm 6 (by decide +kernel) rfl, ka_tm 771 (by decide +kernel) rfl, by decide +kernel, by decide +kernel, by decide +kernel⟩, ka_tm 769 (by decide +kernel) rfl, ka_tm 770 (by decide +kernel) rfl⟩
theorem lk_L_93 : ka_lkV RL 93 mX5_op 3 := ⟨⟨rfl, ka_tm 788 (by decide +kernel) rfl, ka_tm 6 (by decide +kernel) rfl, ka_tm 791 (by decide +kernel) rfl, by decide +kernel, by decide +kernel, by decide +kernel⟩, ka_tm 789 (by decide +kernel) rfl, ka_tm 790 (by decide +kernel) rfl⟩
theorem lk_L_97 : ka_lkV RL 97 mX5_flag 1 := ⟨⟨rfl, ka_tm 856 (by decide +kernel) rfl, ka_tm 6 (by decide +kernel) rfl, ka_tm 859 (by decide +kernel) rfl, by decide +kernel, by decide +kernel, by decide +kernel⟩, ka_tm 857 (by decide +kernel) rfl, ka_tm 858 (by decide +kernel) rfl⟩
theorem lk_L_100 : ka_lkV RL 100 mX5_field 3 := ⟨⟨rfl, ka_tm 860 (by decide +kernel) rfl, ka_tm 6 (by decide +kernel) rfl, ka_tm 863 (by decide +kernel) rfl, by decide +kernel, by decide +kernel, by decide +kernel⟩, ka_tm 861 (by decide +kernel) rfl, ka_tm 862 (by decide +kernel) rfl⟩
theorem lk_L_104 : ka_lkV RL 104 mX5_join 2 := ⟨⟨rfl, ka_tm 864 (by decide +kernel) rfl, ka_tm 6 (by decide +kernel) rfl, ka_tm 867 (by decide +kernel) rfl, by decide +kernel, by decide +kernel, by decide +kernel⟩, ka_tm 865 (by decide +kernel) rfl, ka_tm 866 (by decide +kernel) rfl⟩
theorem lk_L_108 : ka_lkV RL 108 mX5_extend 3 := ⟨⟨rfl, ka_tm 868 (by decide +kernel) rfl, ka_tm 6 (by decide +kernel) rfl, ka_tm 871 (by decide +kernel) rfl, by decide +kernel, by decide +kernel, by decide +kernel⟩, ka_tm 869 (by decide +kernel) rfl, ka_tm 870 (by decide +kernel) rfl⟩
theorem lk_L_111 : ka_lkV RL 111 mX5_compare 3 := ⟨⟨rfl, ka_tm 872 (by decide +kernel) rfl, ka_tm 6 (by decide +kernel) rfl, ka_tm 875 (by decide +kernel) rfl, by decide +kernel, by decide +kernel, by decide +kernel⟩, ka_tm 873 (by decide +kernel) rfl, ka_tm 874 (by decide +kernel) rfl⟩
theorem lk_L_114 : ka_lkV RL 114 mX5_bit 2 := ⟨⟨rfl, ka_tm 876 (by decide +kernel) rfl, ka_tm 6 (by decide +kernel) rfl, ka_tm 879 (by decide +kernel) rfl, by decide +kernel, by decide +kernel, by decide +kernel⟩, ka_tm 877 (by decide +kernel) rfl, ka_tm 878 (by decide +kernel) rfl⟩
theorem lk_L_117 : ka_lkV RL 117 mX5_limb 2 := ⟨⟨rfl, ka_tm 780 (by decide +kernel) rfl, ka_tm 6 (by decide +kernel) rfl, ka_tm 783 (by decide +kernel) rfl, by decide +kernel, by decide +kernel, by decide +kernel⟩, ka_tm 781 (by decide +kernel) rfl, ka_tm 782 (by decide +kernel) rfl⟩
theorem lk_L_121 : ka_lkV RL 121 mX5_real 4 := ⟨⟨rfl, ka_tm 888 (by decide +kernel) rfl, ka_tm 6 (by decide +kernel) rfl, ka_tm 891 (by decide +kernel) rfl, by decide +kernel, by decide +kernel, by decide +kernel⟩, ka_tm 889 (by decide +kernel) rfl, ka_tm 890 (by decide +kernel) rfl⟩
theorem lk_L_122 : ka_lkV RL 122 mX4_flags 0 := ⟨⟨rfl, ka_tm 158 (by decide +kernel) rfl, ka_tm 1 (by decide +kernel) rfl, ka_tm 161 (by decide +kernel) rfl, by decide +kernel, by decide +kernel, by decide +kernel⟩, ka_tm 159 (by decide +kernel) rfl, ka_tm 160 (by decide +kernel) rfl⟩
theorem lk_L_125 : ka_lkV RL 125 mX5_flags 0 := ⟨⟨rfl, ka_tm 942 (by decide +kernel) rfl, ka_tm 6 (by decide +kernel) rfl, ka_tm 945 (by decide +kernel) rfl, by decide +kernel, by decide +kernel, by decide +kernel⟩, ka_tm 943 (by decide +kernel) rfl, ka_tm 944 (by decide +kernel) rfl⟩
theorem lk_L_128 : ka_lkV RL 128 mX5_count 1 := ⟨⟨rfl, ka_tm 880 (by decide +kernel) rfl, ka_tm 6 (by decide +kernel) rfl, ka_tm 883 (by decide +kernel) rfl, by decide +kernel, by decide +kernel, by decide +kernel⟩, ka_tm 881 (by decide +kernel) rfl, ka_tm 882 (by decide +kernel) rfl⟩
theorem lk_L_131 : ka_lkV RL 131 mX5_width 1 := ⟨⟨rfl, ka_tm 884 (by decide +kernel) rfl, ka_tm 6 (by decide +kernel) rfl, ka_tm 887 (by decide +kernel) rfl, by decide +kernel, by decide +kernel, by decide +kernel⟩, ka_tm 885 (by decide +kernel) rfl, ka_tm 886 (by decide +kernel) rfl⟩
theorem lk_X0_33 : ka_lkS RX0 33 mX0_digitsOf 1 := ⟨⟨rfl, ka_tm 396 (by decide +kernel) rfl, ka_tm 3 (by decide +kernel) rfl, ka_tm 398 (by decide +kernel) rfl, by decide +kernel, by decide +kernel, by decide +kernel⟩, ka_tm 397 (by decide +kernel) rfl⟩
theorem lk_X0_37 : ka_lkS RX0 37 mX0_split 2 := ⟨⟨rfl, ka_tm 399 (by decide +kernel) rfl, ka_tm 3 (by decide +kernel) rfl, ka_tm 401 (by decide +kernel) rfl, by decide +kernel, by decide +kernel, by decide +kernel⟩, ka_tm 400 (by decide +kernel) rfl⟩
theorem lk_X0_41 : ka_lkS RX0 41 mX3_clear 1 := ⟨⟨rfl, ka_tm 403 (by decide +kernel) rfl, ka_tm 11 (by decide +kernel) rfl, ka_tm 248 (by decide +kernel) rfl, by decide +kernel, by decide +kernel, by decide +kernel⟩, ka_tm 247 (by decide +kernel) rfl⟩
theorem lk_X0_47 : ka_lkV RX0 47 mX0_addMultiple 3 := ⟨⟨rfl, ka_tm 404 (by decide +kernel) rfl, ka_tm 3 (by decide +kernel) rfl, ka_tm 407 (by decide +kernel) rfl, by decide +kernel, by decide +kernel, by decide +kernel⟩, ka_tm 406 (by decide +kernel) rfl, ka_pm 12 (by decide +kernel) rfl⟩
theorem lk_X0_51 : ka_lkS RX0 51 mX0_merge 2 := ⟨⟨rfl, ka_tm 408 (by decide +kernel) rfl, ka_tm 3 (by decide +kernel) rfl, ka_tm 410 (by decide +kernel) rfl, by decide +kernel, by decide +kernel, by decide +kernel⟩, ka_tm 409 (by decide +kernel) rfl⟩
theorem lk_X0_56 : ka_lkS RX0 56 mX3_lengthOf 1 := ⟨⟨rfl, ka_tm 438 (by decide +kernel) rfl, ka_tm 11 (by decide +kernel) rfl, ka_tm 440 (by decide +kernel) rfl, by decide +kernel, by decide +kernel, by decide +kernel⟩, ka_tm 439 (by decide +kernel) rfl⟩
theorem lk_X0_60 : ka_lkS RX0 60 mX3_moveUp 3 := ⟨⟨rfl, ka_tm 444 (by decide +kernel) rfl, ka_tm 11 (by decide +kernel) rfl, ka_tm 413 (by decide +kernel) rfl, by decide +kernel, by decide +kernel, by decide +kernel⟩, ka_tm 412 (by decide +kernel) rfl⟩
theorem lk_X0_64 : ka_lkV RX0 64 mX0_takeMultiple 2 := ⟨⟨rfl, ka_tm 445 (by decide +kernel) rfl, ka_tm 3 (by decide +kernel) rfl, ka_tm 448 (by decide +kernel) rfl, by decide +kernel, by decide +kernel, by decide +kernel⟩, ka_tm 447 (by decide +kernel) rfl, ka_pm 15 (by decide +kernel) rfl⟩
theorem lk_X0_68 : ka_lkS RX0 68 mX0_quotientOf 2 := ⟨⟨rfl, ka_tm 449 (by decide +kernel) rfl, ka_tm 3 (by decide +kernel) rfl, ka_tm 451 (by decide +kernel) rfl, by decide +kernel, by decide +kernel, by decide +kernel⟩, ka_tm 450 (by decide +kernel) rfl⟩
theorem lk_X0_72 : ka_lkS RX0 72 mM_minl 2 := ⟨⟨rfl, ka_tm 452 (by decide +kernel) rfl, ka_tm 5 (by decide +kernel) rfl, ka_tm 454 (by decide +kernel) rfl, by decide +kernel, by decide +kernel, by decide +kernel⟩, ka_tm 453 (by decide +kernel) rfl⟩
theorem lk_X0_77 : ka_lkV RX0 77 mX0_subtractMultiple 3 := ⟨⟨rfl, ka_tm 455 (by decide +kernel) rfl, ka_tm 3 (by decide +kernel) rfl, ka_tm 458 (by decide +kernel) rfl, by decide +kernel, by decide +kernel, by decide +kernel⟩, ka_tm 457 (by decide +kernel) rfl, ka_pm 16 (by decide +kernel) rfl⟩
theorem lk_X0_81 : ka_lkV RX0 81 mX0_addBack 2 := ⟨⟨rfl, ka_tm 459 (by decide +kernel) rfl, ka_tm 3 (by decide +kernel) rfl, ka_tm 462 (by decide +kernel) rfl, by decide +kernel, by decide +kernel, by decide +kernel⟩, ka_tm 461 (by decide +kernel) rfl, ka_pm 17 (by decide +kernel) rfl⟩
theorem lk_X1_29 : ka_lkI RX1 29 mX0_init 0 := ⟨⟨rfl, ka_tm 34 (by decide +kernel) rfl, ka_tm 3 (by decide +kernel) rfl, ka_tm 36 (by decide +kernel) rfl, by decide +kernel, by decide +kernel, by decide +kernel⟩, rfl, ka_tm 35 (by decide +kernel) rfl⟩
theorem lk_X1_38 : ka_lkV RX1 38 mX1_sum 3 := ⟨⟨rfl, ka_tm 364 (by decide +kernel) rfl, ka_tm 2 (by decide +kernel) rfl, ka_tm 367 (by decide +kernel) rfl, by decide +kernel, by decide +kernel, by decide +kernel⟩, ka_tm 366 (by decide +kernel) rfl, ka_pm 8 (by decide +kernel) rfl⟩
theorem lk_X1_42 : ka_lkV RX1 42 mX1_difference 3 := ⟨⟨rfl, ka_tm 381 (by decide +kernel) rfl, ka_tm 2 (by decide +kernel) rfl, ka_tm 384 (by decide +kernel) rfl, by decide +kernel, by decide +kernel, by decide +kernel⟩, ka_tm 383 (by decide +kernel) rfl, ka_pm 10 (by decide +kernel) rfl⟩
theorem lk_X1_45 : ka_lkV RX1 45 mX1_product 4 := ⟨⟨rfl, ka_tm 388 (by decide +kernel) rfl, ka_tm 2 (by decide +kernel) rfl, ka_tm 391 (by decide +kernel) rfl, by decide +kernel, by decide +kernel, by decide +kernel⟩, ka_tm 390 (by decide +kernel) rfl, ka_pm 11 (by decide +kernel) rfl⟩
theorem lk_X1_49 : ka_lkV RX1 49 mX1_quotientOrRest 4 := ⟨⟨rfl, ka_tm 430 (by decide +kernel) rfl, ka_tm 2 (by decide +kernel) rfl, ka_tm 433 (by decide +kernel) rfl, by decide +kernel, by decide +kernel, by decide +kernel⟩, ka_tm 432 (by decide +kernel) rfl, ka_pm 14 (by decide +kernel) rfl⟩
theorem lk_X1_52 : ka_lkV RX1 52 mX1_moved 4 := ⟨⟨rfl, ka_tm 463 (by decide +kernel) rfl, ka_tm 2 (by decide +kernel) rfl, ka_tm 466 (by decide +kernel) rfl, by decide +kernel, by decide +kernel, by decide +kernel⟩, ka_tm 465 (by decide +kernel) rfl, ka_pm 18 (by decide +kernel) rfl⟩
theorem lk_X1_55 : ka_lkV RX1 55 mX1_turned 4 := ⟨⟨rfl, ka_tm 473 (by decide +kernel) rfl, ka_tm 2 (by decide +kernel) rfl, ka_tm 476 (by decide +kernel) rfl, by decide +kernel, by decide +kernel, by decide +kernel⟩, ka_tm 475 (by decide +kernel) rfl, ka_pm 19 (by decide +kernel) rfl⟩
theorem lk_X1_58 : ka_lkV RX1 58 mX1_bitByBit 4 := ⟨⟨rfl, ka_tm 484 (by decide +kernel) rfl, ka_tm 2 (by decide +kernel) rfl, ka_tm 487 (by decide +kernel) rfl, by decide +kernel, by decide +kernel, by decide +kernel⟩, ka_tm 486 (by decide +kernel) rfl, ka_pm 20 (by decide +kernel) rfl⟩
theorem lk_X1_61 : ka_lkV RX1 61 mX1_reversed 3 := ⟨⟨rfl, ka_tm 489 (by decide +kernel) rfl, ka_tm 2 (by decide +kernel) rfl, ka_tm 492 (by decide +kernel) rfl, by decide +kernel, by decide +kernel, by decide +kernel⟩, ka_tm 491 (by decide +kernel) rfl, ka_pm 21 (by decide +kernel) rfl⟩
theorem lk_X1_65 : ka_lkS RX1 65 mX3_cut 2 := ⟨⟨rfl, ka_tm 422 (by decide +kernel) rfl, ka_tm 11 (by decide +kernel) rfl, ka_tm 255 (by decide +kernel) rfl, by decide +kernel, by decide +kernel, by decide +kernel⟩, ka_tm 254 (by decide +kernel) rfl⟩
theorem lk_X1_71 : ka_lkS RX1 71 mX3_isNought 1 := ⟨⟨rfl, ka_tm 417 (by decide +kernel) rfl, ka_tm 11 (by decide +kernel) rfl, ka_tm 343 (by decide +kernel) rfl, by decide +kernel, by decide +kernel, by decide +kernel⟩, ka_tm 342 (by decide +kernel) rfl⟩
theorem lk_X1_75 : ka_lkV RX1 75 mX1_highest 1 := ⟨⟨rfl, ka_tm 377 (by decide +kernel) rfl, ka_tm 2 (by decide +kernel) rfl, ka_tm 380 (by decide +kernel) rfl, by decide +kernel, by decide +kernel, by decide +kernel⟩, ka_tm 379 (by decide +kernel) rfl, ka_pm 9 (by decide +kernel) rfl⟩
theorem lk_X1_79 : ka_lkS RX1 79 mX3_bitOrNought 2 := ⟨⟨rfl, ka_tm 371 (by decide +kernel) rfl, ka_tm 11 (by decide +kernel) rfl, ka_tm 373 (by decide +kernel) rfl, by decide +kernel, by decide +kernel, by decide +kernel⟩, ka_tm 372 (by decide +kernel) rfl⟩
theorem lk_X1_83 : ka_lkS RX1 83 mX3_add 3 := ⟨⟨rfl, ka_tm 368 (by decide +kernel) rfl, ka_tm 11 (by decide +kernel) rfl, ka_tm 370 (by decide +kernel) rfl, by decide +kernel, by decide +kernel, by decide +kernel⟩, ka_tm 369 (by decide +kernel) rfl⟩
theorem lk_X1_86 : ka_lkS RX1 86 mX3_subtract 3 := ⟨⟨rfl, ka_tm 385 (by decide +kernel) rfl, ka_tm 11 (by decide +kernel) rfl, ka_tm 387 (by decide +kernel) rfl, by decide +kernel, by decide +kernel, by decide +kernel⟩, ka_tm 386 (by decide +kernel) rfl⟩
theorem lk_X1_89 : ka_lkV RX1 89 mX0_multiply 3 := ⟨⟨rfl, ka_tm 392 (by decide +kernel) rfl, ka_tm 3 (by decide +kernel) rfl, ka_tm 395 (by decide +kernel) rfl, by decide +kernel, by decide +kernel, by decide +kernel⟩, ka_tm 393 (by decide +kernel) rfl, ka_tm 394 (by decide +kernel) rfl⟩
theorem lk_X1_95 : ka_lkS RX1 95 mX3_moveUp 3 := ⟨⟨rfl, ka_tm 411 (by decide +kernel) rfl, ka_tm 11 (by decide +kernel) rfl, ka_tm 413 (by decide +kernel) rfl, by decide +kernel, by decide +kernel, by decide +kernel⟩, ka_tm 412 (by decide +kernel) rfl⟩
theorem lk_X1_99 : ka_lkV RX1 99 mX1_fitsWithSign 3 := ⟨⟨rfl, ka_tm 418 (by decide +kernel) rfl, ka_tm 2 (by decide +kernel) rfl, ka_tm 421 (by decide +kernel) rfl, by decide +kernel, by decide +kernel, by decide +kernel⟩, ka_tm 420 (by decide +kernel) rfl, ka_pm 13 (by decide +kernel) rfl⟩
theorem lk_X1_103 : ka_lkS RX1 103 mX3_negate 2 := ⟨⟨rfl, ka_tm 423 (by decide +kernel) rfl, ka_tm 11 (by decide +kernel) rfl, ka_tm 425 (by decide +kernel) rfl, by decide +kernel, by decide +kernel, by decide +kernel⟩, ka_tm 424 (by decide +kernel) rfl⟩
theorem lk_X1_106 : ka_lkS RX1 106 mX3_atMost 2 := ⟨⟨rfl, ka_tm 427 (by decide +kernel) rfl, ka_tm 11 (by decide +kernel) rfl, ka_tm 429 (by decide +kernel) rfl, by decide +kernel, by decide +kernel, by decide +kernel⟩, ka_tm 428 (by decide +kernel) rfl⟩
theorem lk_X1_109 : ka_lkV RX1 109 mX0_divide 3 := ⟨⟨rfl, ka_tm 434 (by decide +kernel) rfl, ka_tm 3 (by decide +kernel) rfl, ka_tm 437 (by decide +kernel) rfl, by decide +kernel, by decide +kernel, by decide +kernel⟩, ka_tm 435 (by decide +kernel) rfl, ka_tm 436 (by decide +kernel) rfl⟩
theorem lk_X1_118 : ka_lkS RX1 118 mM_max 2 := ⟨⟨rfl, ka_tm 467 (by decide +kernel) rfl, ka_tm 5 (by decide +kernel) rfl, ka_tm 469 (by decide +kernel) rfl, by decide +kernel, by decide +kernel, by decide +kernel⟩, ka_tm 468 (by decide +kernel) rfl⟩
theorem lk_X1_124 : ka_lkS RX1 124 mX3_fillFrom 2 := ⟨⟨rfl, ka_tm 470 (by decide +kernel) rfl, ka_tm 11 (by decide +kernel) rfl, ka_tm 472 (by decide +kernel) rfl, by decide +kernel, by decide +kernel, by decide +kernel⟩, ka_tm 471 (by decide +kernel) rfl⟩
theorem lk_X1_127 : ka_lkS RX1 127 mX3_restBy 2 := ⟨⟨rfl, ka_tm 477 (by decide +kernel) rfl, ka_tm 11 (by decide +kernel) rfl, ka_tm 479 (by decide +kernel) rfl, by decide +kernel, by decide +kernel, by decide +kernel⟩, ka_tm 478 (by decide +kernel) rfl⟩
theorem lk_X1_130 : ka_lkS RX1 130 mX3_orMovedUp 3 := ⟨⟨rfl, ka_tm 481 (by decide +kernel) rfl, ka_tm 11 (by decide +kernel) rfl, ka_tm 483 (by decide +kernel) rfl, by decide +kernel, by decide +kernel, by decide +kernel⟩, ka_tm 482 (by decide +kernel) rfl⟩
theorem lk_X1_135 : ka_lkS RX1 135 mX3_bitsReversed 1 := ⟨⟨rfl, ka_tm 493 (by decide +kernel) rfl, ka_tm 11 (by decide +kernel) rfl, ka_tm 495 (by decide +kernel) rfl, by decide +kernel, by decide +kernel, by decide +kernel⟩, ka_tm 494 (by decide +kernel) rfl⟩
theorem lk_X1_139 : ka_lkS RX1 139 mX3_bytesReversed 1 := ⟨⟨rfl, ka_tm 507 (by decide +kernel) rfl, ka_tm 11 (by decide +kernel) rfl, ka_tm 504 (by decide +kernel) rfl, by decide +kernel, by decide +kernel, by decide +kernel⟩, ka_tm 503 (by decide +kernel) rfl⟩
theorem lk_X2_41 : ka_lkV RX2 41 mX2_isNone 1 := ⟨⟨rfl, ka_tm 590 (by decide +kernel) rfl, ka_tm 4 (by decide +kernel) rfl, ka_tm 593 (by decide +kernel) rfl, by decide +kernel, by decide +kernel, by decide +kernel⟩, ka_tm 592 (by decide +kernel) rfl, ka_pm 24 (by decide +kernel) rfl⟩
theorem lk_X2_45 : ka_lkV RX2 45 mX2_none 0 := ⟨⟨rfl, ka_tm 602 (by decide +kernel) rfl, ka_tm 4 (by decide +kernel) rfl, ka_tm 605 (by decide +kernel) rfl, by decide +kernel, by decide +kernel, by decide +kernel⟩, ka_tm 604 (by decide +kernel) rfl, ka_pm 27 (by decide +kernel) rfl⟩
theorem lk_X2_49 : ka_lkV RX2 49 mX2_isInfinite 1 := ⟨⟨rfl, ka_tm 614 (by decide +kernel) rfl, ka_tm 4 (by decide +kernel) rfl, ka_tm 617 (by decide +kernel) rfl, by decide +kernel, by decide +kernel, by decide +kernel⟩, ka_tm 616 (by decide +kernel) rfl, ka_pm 30 (by decide +kernel) rfl⟩
theorem lk_X2_52 : ka_lkV RX2 52 mX2_isNought 1 := ⟨⟨rfl, ka_tm 618 (by decide +kernel) rfl, ka_tm 4 (by decide +kernel) rfl, ka_tm 621 (by decide +kernel) rfl, by decide +kernel, by decide +kernel, by decide +kernel⟩, ka_tm 620 (by decide +kernel) rfl, ka_pm 31 (by decide +kernel) rfl⟩
theorem lk_X2_55 : ka_lkV RX2 55 mX2_withoutRounding 3 := ⟨⟨rfl, ka_tm 623 (by decide +kernel) rfl, ka_tm 4 (by decide +kernel) rfl, ka_tm 626 (by decide +kernel) rfl, by decide +kernel, by decide +kernel, by decide +kernel⟩, ka_tm 625 (by decide +kernel) rfl, ka_pm 32 (by decide +kernel) rfl⟩
theorem lk_X2_59 : ka_lkV RX2 59 mX2_divide 2 := ⟨⟨rfl, ka_tm 635 (by decide +kernel) rfl, ka_tm 4 (by decide +kernel) rfl, ka_tm 638 (by decide +kernel) rfl, by decide +kernel, by decide +kernel, by decide +kernel⟩, ka_tm 637 (by decide +kernel) rfl, ka_pm 35 (by decide +kernel) rfl⟩
theorem lk_X2_63 : ka_lkV RX2 63 mX2_multiply 2 := ⟨⟨rfl, ka_tm 649 (by decide +kernel) rfl, ka_tm 4 (by decide +kernel) rfl, ka_tm 652 (by decide +kernel) rfl, by decide +kernel, by decide +kernel, by decide +kernel⟩, ka_tm 651 (by decide +kernel) rfl, ka_pm 38 (by decide +kernel) rfl⟩
theorem lk_X2_66 : ka_lkV RX2 66 mX2_add 2 := ⟨⟨rfl, ka_tm 653 (by decide +kernel) rfl, ka_tm 4 (by decide +kernel) rfl, ka_tm 656 (by decide +kernel) rfl, by decide +kernel, by decide +kernel, by decide +kernel⟩, ka_tm 655 (by decide +kernel) rfl, ka_pm 39 (by decide +kernel) rfl⟩
theorem lk_X2_69 : ka_lkV RX2 69 mX2_rounded 0 := ⟨⟨rfl, ka_tm 663 (by decide +kernel) rfl, ka_tm 4 (by decide +kernel) rfl, ka_tm 666 (by decide +kernel) rfl, by decide +kernel, by decide +kernel, by decide +kernel⟩, ka_tm 665 (by decide +kernel) rfl, ka_pm 40 (by decide +kernel) rfl⟩
theorem lk_X2_72 : ka_lkV RX2 72 mX2_signOf 1 := ⟨⟨rfl, ka_tm 627 (by decide +kernel) rfl, ka_tm 4 (by decide +kernel) rfl, ka_tm 630 (by decide +kernel) rfl, by decide +kernel, by decide +kernel, by decide +kernel⟩, ka_tm 629 (by decide +kernel) rfl, ka_pm 33 (by decide +kernel) rfl⟩
theorem lk_X2_75 : ka_lkV RX2 75 mX2_notValid 0 := ⟨⟨rfl, ka_tm 631 (by decide +kernel) rfl, ka_tm 4 (by decide +kernel) rfl, ka_tm 634 (by decide +kernel) rfl, by decide +kernel, by decide +kernel, by decide +kernel⟩, ka_tm 633 (by decide +kernel) rfl, ka_pm 34 (by decide +kernel) rfl⟩
theorem lk_X2_78 : ka_lkV RX2 78 mX2_infinite 1 := ⟨⟨rfl, ka_tm 606 (by decide +kernel) rfl, ka_tm 4 (by decide +kernel) rfl, ka_tm 609 (by decide +kernel) rfl, by decide +kernel, by decide +kernel, by decide +kernel⟩, ka_tm 608 (by decide +kernel) rfl, ka_pm 28 (by decide +kernel) rfl⟩
theorem lk_X2_82 : ka_lkV RX2 82 mX2_withSign 2 := ⟨⟨rfl, ka_tm 610 (by decide +kernel) rfl, ka_tm 4 (by decide +kernel) rfl, ka_tm 613 (by decide +kernel) rfl, by decide +kernel, by decide +kernel, by decide +kernel⟩, ka_tm 612 (by decide +kernel) rfl, ka_pm 29 (by decide +kernel) rfl⟩
theorem lk_X2_86 : ka_lkV RX2 86 mX2_powerOf 1 := ⟨⟨rfl, ka_tm 644 (by decide +kernel) rfl, ka_tm 4 (by decide +kernel) rfl, ka_tm 647 (by decide +kernel) rfl, by decide +kernel, by decide +kernel, by decide +kernel⟩, ka_tm 646 (by decide +kernel) rfl, ka_pm 37 (by decide +kernel) rfl⟩
theorem lk_X2_90 : ka_lkS RX2 90 mM_min 2 := ⟨⟨rfl, ka_tm 657 (by decide +kernel) rfl, ka_tm 5 (by decide +kernel) rfl, ka_tm 659 (by decide +kernel) rfl, by decide +kernel, by decide +kernel, by decide +kernel⟩, ka_tm 658 (by decide +kernel) rfl⟩
theorem lk_X2_96 : ka_lkV RX2 96 mX2_wholeOf 1 := ⟨⟨rfl, ka_tm 639 (by decide +kernel) rfl, ka_tm 4 (by decide +kernel) rfl, ka_tm 642 (by decide +kernel) rfl, by decide +kernel, by decide +kernel, by decide +kernel⟩, ka_tm 641 (by decide +kernel) rfl, ka_pm 36 (by decide +kernel) rfl⟩
theorem lk_X2_100 : ka_lkS RX2 100 mX2_movedDown 2 := ⟨⟨rfl, ka_tm 660 (by decide +kernel) rfl, ka_tm 4 (by decide +kernel) rfl, ka_tm 662 (by decide +kernel) rfl, by decide +kernel, by decide +kernel, by decide +kernel⟩, ka_tm 661 (by decide +kernel) rfl⟩
theorem lk_X2_104 : ka_lkS RX2 104 mX3_lengthOfLimb 1 := ⟨⟨rfl, ka_tm 643 (by decide +kernel) rfl, ka_tm 11 (by decide +kernel) rfl, ka_tm 443 (by decide +kernel) rfl, by decide +kernel, by decide +kernel, by decide +kernel⟩, ka_tm 442 (by decide +kernel) rfl⟩
theorem lk_X2_109 : ka_lkS RX2 109 mM_max 2 := ⟨⟨rfl, ka_tm 648 (by decide +kernel) rfl, ka_tm 5 (by decide +kernel) rfl, ka_tm 469 (by decide +kernel) rfl, by decide +kernel, by decide +kernel, by decide +kernel⟩, ka_tm 468 (by decide +kernel) rfl⟩
theorem lk_X2_112 : ka_lkV RX2 112 mX2_finite 2 := ⟨⟨rfl, ka_tm 667 (by decide +kernel) rfl, ka_tm 4 (by decide +kernel) rfl, ka_tm 670 (by decide +kernel) rfl, by decide +kernel, by decide +kernel, by decide +kernel⟩, ka_tm 669 (by decide +kernel) rfl, ka_pm 41 (by decide +kernel) rfl⟩
theorem lk_X2_115 : ka_lkV RX2 115 mX2_goesAway 3 := ⟨⟨rfl, ka_tm 675 (by decide +kernel) rfl, ka_tm 4 (by decide +kernel) rfl, ka_tm 678 (by decide +kernel) rfl, by decide +kernel, by decide +kernel, by decide +kernel⟩, ka_tm 677 (by decide +kernel) rfl, ka_pm 43 (by decide +kernel) rfl⟩
theorem lk_X2_119 : ka_lkV RX2 119 mX2_tooGreat 0 := ⟨⟨rfl, ka_tm 671 (by decide +kernel) rfl, ka_tm 4 (by decide +kernel) rfl, ka_tm 674 (by decide +kernel) rfl, by decide +kernel, by decide +kernel, by decide +kernel⟩, ka_tm 673 (by decide +kernel) rfl, ka_pm 42 (by decide +kernel) rfl⟩
theorem lk_X2_122 : ka_lkV RX2 122 mX2_exponentOf 1 := ⟨⟨rfl, ka_tm 594 (by decide +kernel) rfl, ka_tm 4 (by decide +kernel) rfl, ka_tm 597 (by decide +kernel) rfl, by decide +kernel, by decide +kernel, by decide +kernel⟩, ka_tm 596 (by decide +kernel) rfl, ka_pm 25 (by decide +kernel) rfl⟩
theorem lk_X2_125 : ka_lkV RX2 125 mX2_fractionOf 1 := ⟨⟨rfl, ka_tm 598 (by decide +kernel) rfl, ka_tm 4 (by decide +kernel) rfl, ka_tm 601 (by decide +kernel) rfl, by decide +kernel, by decide +kernel, by decide +kernel⟩, ka_tm 600 (by decide +kernel) rfl, ka_pm 26 (by decide +kernel) rfl⟩
theorem lk_X3_11 : ka_lkS RX3 11 mX3_maskOf 2 := ⟨⟨rfl, ka_tm 256 (by decide +kernel) rfl, ka_tm 11 (by decide +kernel) rfl, ka_tm 258 (by decide +kernel) rfl, by decide +kernel, by decide +kernel, by decide +kernel⟩, ka_tm 257 (by decide +kernel) rfl⟩
theorem lk_X3_17 : ka_lkS RX3 17 mX3_limbOrNought 2 := ⟨⟨rfl, ka_tm 374 (by decide +kernel) rfl, ka_tm 11 (by decide +kernel) rfl, ka_tm 376 (by decide +kernel) rfl, by decide +kernel, by decide +kernel, by decide +kernel⟩, ka_tm 375 (by decide +kernel) rfl⟩
theorem lk_X3_21 : ka_lkS RX3 21 mX3_bitsFrom 2 := ⟨⟨rfl, ka_tm 414 (by decide +kernel) rfl, ka_tm 11 (by decide +kernel) rfl, ka_tm 416 (by decide +kernel) rfl, by decide +kernel, by decide +kernel, by decide +kernel⟩, ka_tm 415 (by decide +kernel) rfl⟩
theorem lk_X3_24 : ka_lkS RX3 24 mX3_cut 2 := ⟨⟨rfl, ka_tm 426 (by decide +kernel) rfl, ka_tm 11 (by decide +kernel) rfl, ka_tm 255 (by decide +kernel) rfl, by decide +kernel, by decide +kernel, by decide +kernel⟩, ka_tm 254 (by decide +kernel) rfl⟩
theorem lk_X3_30 : ka_lkS RX3 30 mX3_lengthOfLimb 1 := ⟨⟨rfl, ka_tm 441 (by decide +kernel) rfl, ka_tm 11 (by decide +kernel) rfl, ka_tm 443 (by decide +kernel) rfl, by decide +kernel, by decide +kernel, by decide +kernel⟩, ka_tm 442 (by decide +kernel) rfl⟩
theorem lk_X3_36 : ka_lkS RX3 36 mX3_swapped 3 := ⟨⟨rfl, ka_tm 497 (by decide +kernel) rfl, ka_tm 11 (by decide +kernel) rfl, ka_tm 499 (by decide +kernel) rfl, by decide +kernel, by decide +kernel, by decide +kernel⟩, ka_tm 498 (by decide +kernel) rfl⟩
theorem lk_X3_48 : ka_lkS RX3 48 mX3_bytesReversed 1 := ⟨⟨rfl, ka_tm 502 (by decide +kernel) rfl, ka_tm 11 (by decide +kernel) rfl, ka_tm 504 (by decide +kernel) rfl, by decide +kernel, by decide +kernel, by decide +kernel⟩, ka_tm 503 (by decide +kernel) rfl⟩
theorem lk_X4_32 : ka_lkI RX4 32 mX1_init 0 := ⟨⟨rfl, ka_tm 28 (by decide +kernel) rfl, ka_tm 2 (by decide +kernel) rfl, ka_tm 30 (by decide +kernel) rfl, by decide +kernel, by decide +kernel, by decide +kernel⟩, rfl, ka_tm 29 (by decide +kernel) rfl⟩
theorem lk_X4_39 : ka_lkI RX4 39 mX2_init 0 := ⟨⟨rfl, ka_tm 93 (by decide +kernel) rfl, ka_tm 4 (by decide +kernel) rfl, ka_tm 95 (by decide +kernel) rfl, by decide +kernel, by decide +kernel, by decide +kernel⟩, rfl, ka_tm 94 (by decide +kernel) rfl⟩
theorem lk_X4_44 : ka_lkS RX4 44 mJ9_floorMod_7cf53 2 := ⟨⟨rfl, ka_tm 127 (by decide +kernel) rfl, ka_tm 5 (by decide +kernel) rfl, ka_tm 129 (by decide +kernel) rfl, by decide +kernel, by decide +kernel, by decide +kernel⟩, ka_tm 128 (by decide +kernel) rfl⟩
theorem lk_X4_53 : ka_lkV RX4 53 mX4_requireRoom 0 := ⟨⟨rfl, ka_tm 173 (by decide +kernel) rfl, ka_tm 1 (by decide +kernel) rfl, ka_tm 176 (by decide +kernel) rfl, by decide +kernel, by decide +kernel, by decide +kernel⟩, ka_tm 175 (by decide +kernel) rfl, ka_pm 0 (by decide +kernel) rfl⟩
theorem lk_X4_56 : ka_lkS RX4 56 mX3_clear 1 := ⟨⟨rfl, ka_tm 246 (by decide +kernel) rfl, ka_tm 11 (by decide +kernel) rfl, ka_tm 248 (by decide +kernel) rfl, by decide +kernel, by decide +kernel, by decide +kernel⟩, ka_tm 247 (by decide +kernel) rfl⟩
theorem lk_X4_62 : ka_lkV RX4 62 mX4_keepMade 1 := ⟨⟨rfl, ka_tm 249 (by decide +kernel) rfl, ka_tm 1 (by decide +kernel) rfl, ka_tm 252 (by decide +kernel) rfl, by decide +kernel, by decide +kernel, by decide +kernel⟩, ka_tm 251 (by decide +kernel) rfl, ka_pm 2 (by decide +kernel) rfl⟩
theorem lk_X4_66 : ka_lkV RX4 66 mX4_requireWord 1 := ⟨⟨rfl, ka_tm 271 (by decide +kernel) rfl, ka_tm 1 (by decide +kernel) rfl, ka_tm 274 (by decide +kernel) rfl, by decide +kernel, by decide +kernel, by decide +kernel⟩, ka_tm 273 (by decide +kernel) rfl, ka_pm 3 (by decide +kernel) rfl⟩
theorem lk_X4_70 : ka_lkV RX4 70 mX4_requireLimb 2 := ⟨⟨rfl, ka_tm 296 (by decide +kernel) rfl, ka_tm 1 (by decide +kernel) rfl, ka_tm 299 (by decide +kernel) rfl, by decide +kernel, by decide +kernel, by decide +kernel⟩, ka_tm 298 (by decide +kernel) rfl, ka_pm 4 (by decide +kernel) rfl⟩
theorem lk_X4_74 : ka_lkS RX4 74 mX3_maskOf 2 := ⟨⟨rfl, ka_tm 301 (by decide +kernel) rfl, ka_tm 11 (by decide +kernel) rfl, ka_tm 258 (by decide +kernel) rfl, by decide +kernel, by decide +kernel, by decide +kernel⟩, ka_tm 257 (by decide +kernel) rfl⟩
theorem lk_X4_78 : ka_lkV RX4 78 mX4_requireKind 2 := ⟨⟨rfl, ka_tm 311 (by decide +kernel) rfl, ka_tm 1 (by decide +kernel) rfl, ka_tm 314 (by decide +kernel) rfl, by decide +kernel, by decide +kernel, by decide +kernel⟩, ka_tm 313 (by decide +kernel) rfl, ka_pm 5 (by decide +kernel) rfl⟩
theorem lk_X4_81 : ka_lkV RX4 81 mX4_requireOneWidth 2 := ⟨⟨rfl, ka_tm 331 (by decide +kernel) rfl, ka_tm 1 (by decide +kernel) rfl, ka_tm 334 (by decide +kernel) rfl, by decide +kernel, by decide +kernel, by decide +kernel⟩, ka_tm 333 (by decide +kernel) rfl, ka_pm 6 (by decide +kernel) rfl⟩
theorem lk_X4_91 : ka_lkV RX4 91 mX4_load 2 := ⟨⟨rfl, ka_tm 337 (by decide +kernel) rfl, ka_tm 1 (by decide +kernel) rfl, ka_tm 340 (by decide +kernel) rfl, by decide +kernel, by decide +kernel, by decide +kernel⟩, ka_tm 339 (by decide +kernel) rfl, ka_pm 7 (by decide +kernel) rfl⟩
theorem lk_X4_95 : ka_lkS RX4 95 mX3_isNought 1 := ⟨⟨rfl, ka_tm 341 (by decide +kernel) rfl, ka_tm 11 (by decide +kernel) rfl, ka_tm 343 (by decide +kernel) rfl, by decide +kernel, by decide +kernel, by decide +kernel⟩, ka_tm 342 (by decide +kernel) rfl⟩
theorem lk_X4_104 : ka_lkV RX4 104 mX1_run 5 := ⟨⟨rfl, ka_tm 360 (by decide +kernel) rfl, ka_tm 2 (by decide +kernel) rfl, ka_tm 363 (by decide +kernel) rfl, by decide +kernel, by decide +kernel, by decide +kernel⟩, ka_tm 361 (by decide +kernel) rfl, ka_tm 362 (by decide +kernel) rfl⟩
theorem lk_X4_124 : ka_lkS RX4 124 mX3_moveUp 3 := ⟨⟨rfl, ka_tm 524 (by decide +kernel) rfl, ka_tm 11 (by decide +kernel) rfl, ka_tm 413 (by decide +kernel) rfl, by decide +kernel, by decide +kernel, by decide +kernel⟩, ka_tm 412 (by decide +kernel) rfl⟩
theorem lk_X4_130 : ka_lkS RX4 130 mX3_orMovedUp 3 := ⟨⟨rfl, ka_tm 533 (by decide +kernel) rfl, ka_tm 11 (by decide +kernel) rfl, ka_tm 483 (by decide +kernel) rfl, by decide +kernel, by decide +kernel, by decide +kernel⟩, ka_tm 482 (by decide +kernel) rfl⟩
theorem lk_X4_135 : ka_lkV RX4 135 mX4_isNegative 1 := ⟨⟨rfl, ka_tm 542 (by decide +kernel) rfl, ka_tm 1 (by decide +kernel) rfl, ka_tm 545 (by decide +kernel) rfl, by decide +kernel, by decide +kernel, by decide +kernel⟩, ka_tm 544 (by decide +kernel) rfl, ka_pm 22 (by decide +kernel) rfl⟩
theorem lk_X4_139 : ka_lkS RX4 139 mX3_fillFrom 2 := ⟨⟨rfl, ka_tm 550 (by decide +kernel) rfl, ka_tm 11 (by decide +kernel) rfl, ka_tm 472 (by decide +kernel) rfl, by decide +kernel, by decide +kernel, by decide +kernel⟩, ka_tm 471 (by decide +kernel) rfl⟩
theorem lk_X4_147 : ka_lkV RX4 147 mX4_hasBit 2 := ⟨⟨rfl, ka_tm 546 (by decide +kernel) rfl, ka_tm 1 (by decide +kernel) rfl, ka_tm 549 (by decide +kernel) rfl, by decide +kernel, by decide +kernel, by decide +kernel⟩, ka_tm 548 (by decide +kernel) rfl, ka_pm 23 (by decide +kernel) rfl⟩
theorem lk_X4_153 : ka_lkV RX4 153 mX2_choose 2 := ⟨⟨rfl, ka_tm 582 (by decide +kernel) rfl, ka_tm 4 (by decide +kernel) rfl, ka_tm 585 (by decide +kernel) rfl, by decide +kernel, by decide +kernel, by decide +kernel⟩, ka_tm 583 (by decide +kernel) rfl, ka_tm 584 (by decide +kernel) rfl⟩
theorem lk_X4_156 : ka_lkV RX4 156 mX2_answer 3 := ⟨⟨rfl, ka_tm 586 (by decide +kernel) rfl, ka_tm 4 (by decide +kernel) rfl, ka_tm 589 (by decide +kernel) rfl, by decide +kernel, by decide +kernel, by decide +kernel⟩, ka_tm 587 (by decide +kernel) rfl, ka_tm 588 (by decide +kernel) rfl⟩
theorem lk_X4_163 : ka_lkS RX4 163 mJ13_bitCount_95d88 1 := ⟨⟨rfl, ka_tm 686 (by decide +kernel) rfl, ka_tm 17 (by decide +kernel) rfl, ka_tm 688 (by decide +kernel) rfl, by decide +kernel, by decide +kernel, by decide +kernel⟩, ka_tm 687 (by decide +kernel) rfl⟩
theorem lk_X4_191 : ka_lkS RX4 191 mX3_cut 2 := ⟨⟨rfl, ka_tm 253 (by decide +kernel) rfl, ka_tm 11 (by decide +kernel) rfl, ka_tm 255 (by decide +kernel) rfl, by decide +kernel, by decide +kernel, by decide +kernel⟩, ka_tm 254 (by decide +kernel) rfl⟩
theorem lk_X5_56 : ka_lkV RX5 56 mX5_throwing 4 := ⟨⟨rfl, ka_tm 760 (by decide +kernel) rfl, ka_tm 6 (by decide +kernel) rfl, ka_tm 763 (by decide +kernel) rfl, by decide +kernel, by decide +kernel, by decide +kernel⟩, ka_tm 762 (by decide +kernel) rfl, ka_pm 44 (by decide +kernel) rfl⟩
theorem lk_X5_60 : ka_lkV RX5 60 mX5_make 1 := ⟨⟨rfl, ka_tm 764 (by decide +kernel) rfl, ka_tm 6 (by decide +kernel) rfl, ka_tm 767 (by decide +kernel) rfl, by decide +kernel, by decide +kernel, by decide +kernel⟩, ka_tm 766 (by decide +kernel) rfl, ka_pm 45 (by decide +kernel) rfl⟩
theorem lk_X5_64 : ka_lkV RX5 64 mX5_isWord 1 := ⟨⟨rfl, ka_tm 776 (by decide +kernel) rfl, ka_tm 6 (by decide +kernel) rfl, ka_tm 779 (by decide +kernel) rfl, by decide +kernel, by decide +kernel, by decide +kernel⟩, ka_tm 778 (by decide +kernel) rfl, ka_pm 47 (by decide +kernel) rfl⟩
theorem lk_X5_68 : ka_lkV RX5 68 mX5_isLimb 2 := ⟨⟨rfl, ka_tm 772 (by decide +kernel) rfl, ka_tm 6 (by decide +kernel) rfl, ka_tm 775 (by decide +kernel) rfl, by decide +kernel, by decide +kernel, by decide +kernel⟩, ka_tm 774 (by decide +kernel) rfl, ka_pm 46 (by decide +kernel) rfl⟩
theorem lk_X5_72 : ka_lkV RX5 72 mX5_bitOf 2 := ⟨⟨rfl, ka_tm 784 (by decide +kernel) rfl, ka_tm 6 (by decide +kernel) rfl, ka_tm 787 (by decide +kernel) rfl, by decide +kernel, by decide +kernel, by decide +kernel⟩, ka_tm 786 (by decide +kernel) rfl, ka_pm 48 (by decide +kernel) rfl⟩
theorem lk_X5_76 : ka_lkV RX5 76 mX5_isNought 3 := ⟨⟨rfl, ka_tm 796 (by decide +kernel) rfl, ka_tm 6 (by decide +kernel) rfl, ka_tm 799 (by decide +kernel) rfl, by decide +kernel, by decide +kernel, by decide +kernel⟩, ka_tm 798 (by decide +kernel) rfl, ka_pm 50 (by decide +kernel) rfl⟩
theorem lk_X5_80 : ka_lkV RX5 80 mX5_add 2 := ⟨⟨rfl, ka_tm 804 (by decide +kernel) rfl, ka_tm 6 (by decide +kernel) rfl, ka_tm 807 (by decide +kernel) rfl, by decide +kernel, by decide +kernel, by decide +kernel⟩, ka_tm 806 (by decide +kernel) rfl, ka_pm 52 (by decide +kernel) rfl⟩
theorem lk_X5_84 : ka_lkV RX5 84 mX5_amounts 1 := ⟨⟨rfl, ka_tm 808 (by decide +kernel) rfl, ka_tm 6 (by decide +kernel) rfl, ka_tm 811 (by decide +kernel) rfl, by decide +kernel, by decide +kernel, by decide +kernel⟩, ka_tm 810 (by decide +kernel) rfl, ka_pm 53 (by decide +kernel) rfl⟩
theorem lk_X5_88 : ka_lkV RX5 88 mX5_multiply 1 := ⟨⟨rfl, ka_tm 812 (by decide +kernel) rfl, ka_tm 6 (by decide +kernel) rfl, ka_tm 815 (by decide +kernel) rfl, by decide +kernel, by decide +kernel, by decide +kernel⟩, ka_tm 814 (by decide +kernel) rfl, ka_pm 54 (by decide +kernel) rfl⟩
theorem lk_X5_91 : ka_lkV RX5 91 mX5_fits 2 := ⟨⟨rfl, ka_tm 816 (by decide +kernel) rfl, ka_tm 6 (by decide +kernel) rfl, ka_tm 819 (by decide +kernel) rfl, by decide +kernel, by decide +kernel, by decide +kernel⟩, ka_tm 818 (by decide +kernel) rfl, ka_pm 55 (by decide +kernel) rfl⟩
theorem lk_X5_95 : ka_lkV RX5 95 mX5_divide 1 := ⟨⟨rfl, ka_tm 824 (by decide +kernel) rfl, ka_tm 6 (by decide +kernel) rfl, ka_tm 827 (by decide +kernel) rfl, by decide +kernel, by decide +kernel, by decide +kernel⟩, ka_tm 826 (by decide +kernel) rfl, ka_pm 57 (by decide +kernel) rfl⟩
theorem lk_X5_98 : ka_lkV RX5 98 mX5_takeRest 1 := ⟨⟨rfl, ka_tm 828 (by decide +kernel) rfl, ka_tm 6 (by decide +kernel) rfl, ka_tm 831 (by decide +kernel) rfl, by decide +kernel, by decide +kernel, by decide +kernel⟩, ka_tm 830 (by decide +kernel) rfl, ka_pm 58 (by decide +kernel) rfl⟩
theorem lk_X5_101 : ka_lkV RX5 101 mX5_turn 1 := ⟨⟨rfl, ka_tm 832 (by decide +kernel) rfl, ka_tm 6 (by decide +kernel) rfl, ka_tm 835 (by decide +kernel) rfl, by decide +kernel, by decide +kernel, by decide +kernel⟩, ka_tm 834 (by decide +kernel) rfl, ka_pm 59 (by decide +kernel) rfl⟩
theorem lk_X5_104 : ka_lkV RX5 104 mX5_amountOfB 1 := ⟨⟨rfl, ka_tm 840 (by decide +kernel) rfl, ka_tm 6 (by decide +kernel) rfl, ka_tm 843 (by decide +kernel) rfl, by decide +kernel, by decide +kernel, by decide +kernel⟩, ka_tm 842 (by decide +kernel) rfl, ka_pm 61 (by decide +kernel) rfl⟩
theorem lk_X5_107 : ka_lkV RX5 107 mX5_bAround 1 := ⟨⟨rfl, ka_tm 848 (by decide +kernel) rfl, ka_tm 6 (by decide +kernel) rfl, ka_tm 851 (by decide +kernel) rfl, by decide +kernel, by decide +kernel, by decide +kernel⟩, ka_tm 850 (by decide +kernel) rfl, ka_pm 63 (by decide +kernel) rfl⟩
theorem lk_X5_110 : ka_lkV RX5 110 mX5_load 2 := ⟨⟨rfl, ka_tm 792 (by decide +kernel) rfl, ka_tm 6 (by decide +kernel) rfl, ka_tm 795 (by decide +kernel) rfl, by decide +kernel, by decide +kernel, by decide +kernel⟩, ka_tm 794 (by decide +kernel) rfl, ka_pm 49 (by decide +kernel) rfl⟩
theorem lk_X5_114 : ka_lkV RX5 114 mX5_sums 2 := ⟨⟨rfl, ka_tm 800 (by decide +kernel) rfl, ka_tm 6 (by decide +kernel) rfl, ka_tm 803 (by decide +kernel) rfl, by decide +kernel, by decide +kernel, by decide +kernel⟩, ka_tm 802 (by decide +kernel) rfl, ka_pm 51 (by decide +kernel) rfl⟩
theorem lk_X5_117 : ka_lkV RX5 117 mX5_quotients 2 := ⟨⟨rfl, ka_tm 820 (by decide +kernel) rfl, ka_tm 6 (by decide +kernel) rfl, ka_tm 823 (by decide +kernel) rfl, by decide +kernel, by decide +kernel, by decide +kernel⟩, ka_tm 822 (by decide +kernel) rfl, ka_pm 56 (by decide +kernel) rfl⟩
theorem lk_X5_120 : ka_lkV RX5 120 mX5_moves 2 := ⟨⟨rfl, ka_tm 836 (by decide +kernel) rfl, ka_tm 6 (by decide +kernel) rfl, ka_tm 839 (by decide +kernel) rfl, by decide +kernel, by decide +kernel, by decide +kernel⟩, ka_tm 838 (by decide +kernel) rfl, ka_pm 60 (by decide +kernel) rfl⟩
theorem lk_X5_123 : ka_lkV RX5 123 mX5_others 2 := ⟨⟨rfl, ka_tm 844 (by decide +kernel) rfl, ka_tm 6 (by decide +kernel) rfl, ka_tm 847 (by decide +kernel) rfl, by decide +kernel, by decide +kernel, by decide +kernel⟩, ka_tm 846 (by decide +kernel) rfl, ka_pm 62 (by decide +kernel) rfl⟩
theorem lk_X5_126 : ka_lkV RX5 126 mX5_keep 2 := ⟨⟨rfl, ka_tm 852 (by decide +kernel) rfl, ka_tm 6 (by decide +kernel) rfl, ka_tm 855 (by decide +kernel) rfl, by decide +kernel, by decide +kernel, by decide +kernel⟩, ka_tm 854 (by decide +kernel) rfl, ka_pm 64 (by decide +kernel) rfl⟩
theorem lk_X5_129 : ka_lkS RX5 129 mX5_exponentBits 1 := ⟨⟨rfl, ka_tm 899 (by decide +kernel) rfl, ka_tm 6 (by decide +kernel) rfl, ka_tm 901 (by decide +kernel) rfl, by decide +kernel, by decide +kernel, by decide +kernel⟩, ka_tm 900 (by decide +kernel) rfl⟩
theorem lk_X5_132 : ka_lkS RX5 132 mX5_fractionBits 1 := ⟨⟨rfl, ka_tm 896 (by decide +kernel) rfl, ka_tm 6 (by decide +kernel) rfl, ka_tm 898 (by decide +kernel) rfl, by decide +kernel, by decide +kernel, by decide +kernel⟩, ka_tm 897 (by decide +kernel) rfl⟩
theorem lk_X5_135 : ka_lkS RX5 135 mX5_bias 1 := ⟨⟨rfl, ka_tm 902 (by decide +kernel) rfl, ka_tm 6 (by decide +kernel) rfl, ka_tm 904 (by decide +kernel) rfl, by decide +kernel, by decide +kernel, by decide +kernel⟩, ka_tm 903 (by decide +kernel) rfl⟩
theorem lk_X5_138 : ka_lkS RX5 138 mX5_packed 4 := ⟨⟨rfl, ka_tm 908 (by decide +kernel) rfl, ka_tm 6 (by decide +kernel) rfl, ka_tm 910 (by decide +kernel) rfl, by decide +kernel, by decide +kernel, by decide +kernel⟩, ka_tm 909 (by decide +kernel) rfl⟩
theorem lk_X5_145 : ka_lkS RX5 145 mX5_none 1 := ⟨⟨rfl, ka_tm 905 (by decide +kernel) rfl, ka_tm 6 (by decide +kernel) rfl, ka_tm 907 (by decide +kernel) rfl, by decide +kernel, by decide +kernel, by decide +kernel⟩, ka_tm 906 (by decide +kernel) rfl⟩
theorem lk_X5_149 : ka_lkS RX5 149 mX5_highest 1 := ⟨⟨rfl, ka_tm 926 (by decide +kernel) rfl, ka_tm 6 (by decide +kernel) rfl, ka_tm 928 (by decide +kernel) rfl, by decide +kernel, by decide +kernel, by decide +kernel⟩, ka_tm 927 (by decide +kernel) rfl⟩
theorem lk_X5_153 : ka_lkS RX5 153 mX5_isMore 4 := ⟨⟨rfl, ka_tm 929 (by decide +kernel) rfl, ka_tm 6 (by decide +kernel) rfl, ka_tm 931 (by decide +kernel) rfl, by decide +kernel, by decide +kernel, by decide +kernel⟩, ka_tm 930 (by decide +kernel) rfl⟩
theorem lk_X5_159 : ka_lkS RX5 159 mX5_infinite 2 := ⟨⟨rfl, ka_tm 919 (by decide +kernel) rfl, ka_tm 6 (by decide +kernel) rfl, ka_tm 921 (by decide +kernel) rfl, by decide +kernel, by decide +kernel, by decide +kernel⟩, ka_tm 920 (by decide +kernel) rfl⟩
theorem lk_X5_163 : ka_lkV RX5 163 mX5_notValid 1 := ⟨⟨rfl, ka_tm 915 (by decide +kernel) rfl, ka_tm 6 (by decide +kernel) rfl, ka_tm 918 (by decide +kernel) rfl, by decide +kernel, by decide +kernel, by decide +kernel⟩, ka_tm 917 (by decide +kernel) rfl, ka_pm 67 (by decide +kernel) rfl⟩
theorem lk_X5_166 : ka_lkV RX5 166 mX5_rounded 5 := ⟨⟨rfl, ka_tm 922 (by decide +kernel) rfl, ka_tm 6 (by decide +kernel) rfl, ka_tm 925 (by decide +kernel) rfl, by decide +kernel, by decide +kernel, by decide +kernel⟩, ka_tm 924 (by decide +kernel) rfl, ka_pm 68 (by decide +kernel) rfl⟩
theorem lk_X5_172 : ka_lkV RX5 172 mX5_take 3 := ⟨⟨rfl, ka_tm 892 (by decide +kernel) rfl, ka_tm 6 (by decide +kernel) rfl, ka_tm 895 (by decide +kernel) rfl, by decide +kernel, by decide +kernel, by decide +kernel⟩, ka_tm 894 (by decide +kernel) rfl, ka_pm 65 (by decide +kernel) rfl⟩
theorem lk_X5_176 : ka_lkV RX5 176 mX5_sum 2 := ⟨⟨rfl, ka_tm 911 (by decide +kernel) rfl, ka_tm 6 (by decide +kernel) rfl, ka_tm 914 (by decide +kernel) rfl, by decide +kernel, by decide +kernel, by decide +kernel⟩, ka_tm 913 (by decide +kernel) rfl, ka_pm 66 (by decide +kernel) rfl⟩
theorem lk_X5_179 : ka_lkV RX5 179 mX5_product 2 := ⟨⟨rfl, ka_tm 933 (by decide +kernel) rfl, ka_tm 6 (by decide +kernel) rfl, ka_tm 936 (by decide +kernel) rfl, by decide +kernel, by decide +kernel, by decide +kernel⟩, ka_tm 935 (by decide +kernel) rfl, ka_pm 69 (by decide +kernel) rfl⟩
theorem lk_X5_182 : ka_lkV RX5 182 mX5_quotient 2 := ⟨⟨rfl, ka_tm 937 (by decide +kernel) rfl, ka_tm 6 (by decide +kernel) rfl, ka_tm 940 (by decide +kernel) rfl, by decide +kernel, by decide +kernel, by decide +kernel⟩, ka_tm 939 (by decide +kernel) rfl, ka_pm 70 (by decide +kernel) rfl⟩
theorem ko_X0_3 : Cond.methodLink RX0 3 objectInit ∈ ka_T := ka_tm 37 (by decide +kernel) rfl
theorem ko_X1_3 : Cond.methodLink RX1 3 objectInit ∈ ka_T := ka_tm 31 (by decide +kernel) rfl
theorem ko_X2_1 : Cond.methodLink RX2 1 objectInit ∈ ka_T := ka_tm 96 (by decide +kernel) rfl
theorem ko_X4_3 : Cond.methodLink RX4 3 objectInit ∈ ka_T := ka_tm 23 (by decide +kernel) rfl
theorem kp_X4_185 : Cond.methodLink RX4 185 arraycopyName ∈ ka_T := ka_tm 260 (by decide +kernel) rfl
theorem ko_X5_1 : Cond.methodLink RX5 1 objectInit ∈ ka_T := ka_tm 704 (by decide +kernel) rfl
theorem ko_i : Cond.instanceMethod objectInit ∈ ka_T := ka_tm 24 (by decide +kernel) rfl
theorem ko_c : Cond.code objectInit ⟨#[0xb1]⟩ 1 none ∈ ka_T := ka_tm 25 (by decide +kernel) rfl
theorem kp_n : Cond.native arraycopyName ∈ ka_T := ka_tm 262 (by decide +kernel) rfl
theorem kp_s : Cond.static arraycopyName ∈ ka_T := ka_tm 261 (by decide +kernel) rfl
theorem kp_i : Cond.initialized "java/lang/System" ∈ ka_T := ka_tm 12 (by decide +kernel) rfl
