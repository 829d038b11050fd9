/-! printed by wip/gen/tabs.py: membership, shapes, methods, links -/
theorem k_m1 {w : Cond} (i : Nat) (h : tables_1_1[i]? = some w) (g : goodWord w = true) : w ∈ k_ws := List.mem_filter.mpr ⟨List.mem_append_right _ (List.mem_append_left _ (List.mem_of_getElem? h)), g⟩
theorem k_m2 {w : Cond} (i : Nat) (h : tables_1_2[i]? = some w) (g : goodWord w = true) : w ∈ k_ws := List.mem_filter.mpr ⟨List.mem_append_right _ (List.mem_append_right _ (List.mem_append_left _ (List.mem_of_getElem? h))), g⟩
theorem k_m3 {w : Cond} (i : Nat) (h : tables_1_3[i]? = some w) (g : goodWord w = true) : w ∈ k_ws := List.mem_filter.mpr ⟨List.mem_append_right _ (List.mem_append_right _ (List.mem_append_right _ (List.mem_append_left _ (List.mem_of_getElem? h)))), g⟩
theorem k_m4 {w : Cond} (i : Nat) (h : tables_1_4[i]? = some w) (g : goodWord w = true) : w ∈ k_ws := List.mem_filter.mpr ⟨List.mem_append_right _ (List.mem_append_right _ (List.mem_append_right _ (List.mem_append_right _ (List.mem_append_left _ (List.mem_of_getElem? h))))), g⟩
theorem k_m5 {w : Cond} (i : Nat) (h : tables_1_5[i]? = some w) (g : goodWord w = true) : w ∈ k_ws := List.mem_filter.mpr ⟨List.mem_append_right _ (List.mem_append_right _ (List.mem_append_right _ (List.mem_append_right _ (List.mem_append_right _ (List.mem_of_getElem? h))))), g⟩
theorem k_mp {w : Cond} (i : Nat) (h : (k2_sels lw_privs)[i]? = some w) (g : goodWord w = true) : w ∈ k_ws := List.mem_filter.mpr ⟨List.mem_append_left _ (List.mem_of_getElem? h), g⟩
def SX : kH := [(0, 8, [some 1, some 3, some 11, some 19, some 20, some 27, some 24, some 29, some 34, some 38]), (0, 6, [some 2, none, none]), (1, 130, []), (0, 7, [none, none, none, none, some 4, some 5, some 6, some 7, some 8, some 9, some 10]), (1, 4, []), (1, 5, []), (1, 5, []), (1, 5, []), (1, 5, []), (1, 5, []), (1, 5, []), (0, 7, [none, none, none, none, some 12, some 13, some 14, some 15, some 16, some 17, some 18]), (1, 4, []), (1, 5, []), (1, 5, []), (1, 5, []), (1, 5, []), (1, 5, []), (1, 5, []), (4, 2, [some 39, some 47]), (0, 0, [none, none, some 21, some 22, some 23]), (1, 24, []), (1, 24, []), (1, 24, []), (0, 2, [some 25, some 26]), (1, 48, []), (1, 4096, []), (0, 1, [some 28, some 24]), (1, 5, []), (0, 5, [some 30, some 31, some 32, some 33, none, none]), (1, 160, []), (1, 5, []), (1, 6, []), (1, 5, []), (0, 3, [none, none, some 35, some 36, some 37]), (1, 6, []), (1, 6, []), (1, 65, []), (5, 4, [some 55, some 57, some 59, some 61]), (0, 7, [none, none, none, none, some 40, some 41, some 42, some 43, some 44, some 45, some 46]), (1, 4, []), (1, 5, []), (1, 5, []), (1, 5, []), (1, 5, []), (1, 5, []), (1, 5, []), (0, 7, [none, none, none, none, some 48, some 49, some 50, some 51, some 52, some 53, some 54]), (1, 4, []), (1, 5, []), (1, 5, []), (1, 5, []), (1, 5, []), (1, 5, []), (1, 5, []), (0, 4, [none, none, some 56]), (2, 24, []), (0, 4, [none, none, some 58]), (2, 24, []), (0, 4, [none, none, some 60]), (2, 24, []), (0, 4, [none, none, some 62]), (2, 24, [])]
def SM : kH := [(0, 9, [some 1, some 2, some 3, none, some 4, none, some 5, some 6, some 7, some 8, some 9, some 10, none, some 11, some 12, none, none, some 13, some 14]), (1, 4, []), (1, 4, []), (2, 96, []), (1, 130, []), (1, 38, []), (1, 38, []), (1, 38, []), (1, 76, []), (3, 2, []), (1, 912, []), (1, 5, []), (1, 5, []), (1, 65, []), (3, 4096, [])]
theorem inX0 : ∀ w ∈ u_ws RX0 TX0 5, w ∈ k_ws := List.forall_mem_cons.mpr ⟨(k_m1 129 rfl rfl), (List.forall_mem_cons.mpr ⟨(k_m1 131 rfl rfl), (List.forall_mem_cons.mpr ⟨(k_m1 133 rfl rfl), (List.forall_mem_cons.mpr ⟨(k_m1 135 rfl rfl), (List.forall_mem_cons.mpr ⟨(k_m1 137 rfl rfl), (fun _ h => absurd h List.not_mem_nil)⟩)⟩)⟩)⟩)⟩
theorem inX1 : ∀ w ∈ u_ws RX1 TX1 2, w ∈ k_ws := List.forall_mem_cons.mpr ⟨(k_m1 163 rfl rfl), (List.forall_mem_cons.mpr ⟨(k_m1 165 rfl rfl), (fun _ h => absurd h List.not_mem_nil)⟩)⟩
theorem inX2 : ∀ w ∈ u_ws RX2 TX2 2, w ∈ k_ws := List.forall_mem_cons.mpr ⟨(k_m1 154 rfl rfl), (List.forall_mem_cons.mpr ⟨(k_m1 156 rfl rfl), (fun _ h => absurd h List.not_mem_nil)⟩)⟩
theorem inX3 : ∀ w ∈ u_ws RX3 TX3 5, w ∈ k_ws := List.forall_mem_cons.mpr ⟨(k_m1 206 rfl rfl), (List.forall_mem_cons.mpr ⟨(k_m1 208 rfl rfl), (List.forall_mem_cons.mpr ⟨(k_m1 210 rfl rfl), (List.forall_mem_cons.mpr ⟨(k_m1 212 rfl rfl), (List.forall_mem_cons.mpr ⟨(k_m1 214 rfl rfl), (fun _ h => absurd h List.not_mem_nil)⟩)⟩)⟩)⟩)⟩
theorem inX4 : ∀ w ∈ u_ws RX4 TX4 3, w ∈ k_ws := List.forall_mem_cons.mpr ⟨(k_m1 231 rfl rfl), (List.forall_mem_cons.mpr ⟨(k_m1 233 rfl rfl), (List.forall_mem_cons.mpr ⟨(k_m1 235 rfl rfl), (fun _ h => absurd h List.not_mem_nil)⟩)⟩)⟩
theorem inX5 : ∀ w ∈ u_ws RX5 TX5 6, w ∈ k_ws := List.forall_mem_cons.mpr ⟨(k_m1 180 rfl rfl), (List.forall_mem_cons.mpr ⟨(k_m1 182 rfl rfl), (List.forall_mem_cons.mpr ⟨(k_m1 184 rfl rfl), (List.forall_mem_cons.mpr ⟨(k_m1 186 rfl rfl), (List.forall_mem_cons.mpr ⟨(k_m1 188 rfl rfl), (List.forall_mem_cons.mpr ⟨(k_m1 190 rfl rfl), (fun _ h => absurd h List.not_mem_nil)⟩)⟩)⟩)⟩)⟩)⟩
theorem inX6 : ∀ w ∈ u_ws RX6 TX6 3, w ∈ k_ws := List.forall_mem_cons.mpr ⟨(k_m1 34 rfl rfl), (List.forall_mem_cons.mpr ⟨(k_m1 36 rfl rfl), (List.forall_mem_cons.mpr ⟨(k_m1 38 rfl rfl), (fun _ h => absurd h List.not_mem_nil)⟩)⟩)⟩
theorem inX7 : ∀ w ∈ u_ws RX7 TX7 11, w ∈ k_ws := List.forall_mem_cons.mpr ⟨(k_m1 93 rfl rfl), (List.forall_mem_cons.mpr ⟨(k_m1 95 rfl rfl), (List.forall_mem_cons.mpr ⟨(k_m1 97 rfl rfl), (List.forall_mem_cons.mpr ⟨(k_m1 99 rfl rfl), (List.forall_mem_cons.mpr ⟨(k_m1 101 rfl rfl), (List.forall_mem_cons.mpr ⟨(k_m1 103 rfl rfl), (List.forall_mem_cons.mpr ⟨(k_m1 105 rfl rfl), (List.forall_mem_cons.mpr ⟨(k_m1 107 rfl rfl), (List.forall_mem_cons.mpr ⟨(k_m1 109 rfl rfl), (List.forall_mem_cons.mpr ⟨(k_m1 111 rfl rfl), (List.forall_mem_cons.mpr ⟨(k_m1 113 rfl rfl), (fun _ h => absurd h List.not_mem_nil)⟩)⟩)⟩)⟩)⟩)⟩)⟩)⟩)⟩)⟩)⟩
theorem inX8 : ∀ w ∈ u_ws RX8 TX8 10, w ∈ k_ws := List.forall_mem_cons.mpr ⟨(k_m2 9 rfl rfl), (List.forall_mem_cons.mpr ⟨(k_m2 11 rfl rfl), (List.forall_mem_cons.mpr ⟨(k_m2 13 rfl rfl), (List.forall_mem_cons.mpr ⟨(k_m2 15 rfl rfl), (List.forall_mem_cons.mpr ⟨(k_m2 17 rfl rfl), (List.forall_mem_cons.mpr ⟨(k_m2 19 rfl rfl), (List.forall_mem_cons.mpr ⟨(k_m2 21 rfl rfl), (List.forall_mem_cons.mpr ⟨(k_m2 23 rfl rfl), (List.forall_mem_cons.mpr ⟨(k_m2 25 rfl rfl), (List.forall_mem_cons.mpr ⟨(k_m2 27 rfl rfl), (fun _ h => absurd h List.not_mem_nil)⟩)⟩)⟩)⟩)⟩)⟩)⟩)⟩)⟩)⟩
theorem inX9 : ∀ w ∈ u_ws RX9 TX9 19, w ∈ k_ws := List.forall_mem_cons.mpr ⟨(k_m4 30 rfl rfl), (List.forall_mem_cons.mpr ⟨(k_m4 32 rfl rfl), (List.forall_mem_cons.mpr ⟨(k_m4 34 rfl rfl), (List.forall_mem_cons.mpr ⟨(k_m4 36 rfl rfl), (List.forall_mem_cons.mpr ⟨(k_m4 38 rfl rfl), (List.forall_mem_cons.mpr ⟨(k_m4 40 rfl rfl), (List.forall_mem_cons.mpr ⟨(k_m4 42 rfl rfl), (List.forall_mem_cons.mpr ⟨(k_m4 44 rfl rfl), (List.forall_mem_cons.mpr ⟨(k_m4 46 rfl rfl), (List.forall_mem_cons.mpr ⟨(k_m4 48 rfl rfl), (List.forall_mem_cons.mpr ⟨(k_m4 50 rfl rfl), (List.forall_mem_cons.mpr ⟨(k_m4 52 rfl rfl), (List.forall_mem_cons.mpr ⟨(k_m4 54 rfl rfl), (List.forall_mem_cons.mpr ⟨(k_m4 56 rfl rfl), (List.forall_mem_cons.mpr ⟨(k_m4 58 rfl rfl), (List.forall_mem_cons.mpr ⟨(k_m4 60 rfl rfl), (List.forall_mem_cons.mpr ⟨(k_m4 62 rfl rfl), (List.forall_mem_cons.mpr ⟨(k_m4 64 rfl rfl), (List.forall_mem_cons.mpr ⟨(k_m4 66 rfl rfl), (fun _ h => absurd h List.not_mem_nil)⟩)⟩)⟩)⟩)⟩)⟩)⟩)⟩)⟩)⟩)⟩)⟩)⟩)⟩)⟩)⟩)⟩)⟩)⟩
abbrev jX0_forget : kM := (yX0_forget, cX0_forget, 1, none, 0, 0)
abbrev jX1_above : kM := (yX1_above, cX1_above, 2, (some .int), 0, 0)
abbrev jX2_isThere : kM := (yX2_isThere, cX2_isThere, 2, (some .boolean), 0, 0)
abbrev jX4_isThere : kM := (yX4_isThere, cX4_isThere, 1, (some .boolean), 0, 0)
abbrev jX4_end : kM := (yX4_end, cX4_end, 1, none, 0, 0)
abbrev jX4_holds : kM := (yX4_holds, cX4_holds, 3, (some .boolean), 0, 0)
abbrev jX4_holdsPairs : kM := (yX4_holdsPairs, cX4_holdsPairs, 9, (some .boolean), 0, 0)
abbrev jX4_put : kM := (yX4_put, cX4_put, 4, none, 0, 0)
abbrev jX5_fullFields : kM := (yX5_fullFields, cX5_fullFields, 1, (some .int), 0, 0)
abbrev jX5_bestPlace : kM := (yX5_bestPlace, cX5_bestPlace, 2, (some .int), 0, 0)
abbrev jX5_worthOfAll : kM := (yX5_worthOfAll, cX5_worthOfAll, 3, (some .int), 0, 0)
abbrev jX5_turn : kM := (yX5_turn, cX5_turn, 3, none, 0, 0)
abbrev jX6_put : kM := (yX6_put, cX6_put, 2, (some .int), 0, 0)
abbrev jX6_peek : kM := (yX6_peek, cX6_peek, 1, (some .int), 0, 0)
abbrev jX7_isThere : kM := (yX7_isThere, cX7_isThere, 1, (some .boolean), 0, 0)
abbrev jX7_turnPitch : kM := (yX7_turnPitch, cX7_turnPitch, 3, none, 0, 0)
abbrev jX7_range : kM := (yX7_range, cX7_range, 2, (some .int), 0, 0)
abbrev jX7_standing : kM := (yX7_standing, cX7_standing, 4, (some .int), 0, 0)
abbrev jX7_rested : kM := (yX7_rested, cX7_rested, 3, (some .int), 0, 0)
abbrev jX7_tiredInAll : kM := (yX7_tiredInAll, cX7_tiredInAll, 3, (some .int), 0, 0)
abbrev jX7_packTired : kM := (yX7_packTired, cX7_packTired, 3, (some .int), 0, 0)
abbrev jX7_unpackTired : kM := (yX7_unpackTired, cX7_unpackTired, 3, none, 0, 0)
abbrev jX8_within : kM := (yX8_within, cX8_within, 2, (some .boolean), 0, 0)
abbrev jX8_has : kM := (yX8_has, cX8_has, 2, (some .boolean), 0, 0)
abbrev jX8_tellPlace : kM := (yX8_tellPlace, cX8_tellPlace, 1, (some .int), 0, 0)
abbrev jX8_power : kM := (yX8_power, cX8_power, 4, (some .int), 0, 0)
abbrev jX9_in : kM := (yX9_in, cX9_in, 3, (some .boolean), 0, 0)
abbrev jX9_has : kM := (yX9_has, cX9_has, 2, (some .boolean), 0, 0)
abbrev jX9_bits : kM := (yX9_bits, cX9_bits, 3, (some .int), 0, 0)
abbrev jX9_bring : kM := (yX9_bring, cX9_bring, 6, none, 0, 0)
abbrev jX9_isThere : kM := (yX9_isThere, cX9_isThere, 1, (some .boolean), 0, 0)
abbrev jX9_peek : kM := (yX9_peek, cX9_peek, 1, (some .int), 0, 0)
abbrev jX9_kindBy : kM := (yX9_kindBy, cX9_kindBy, 1, (some .int), 0, 0)
abbrev jX9_chordOn : kM := (yX9_chordOn, cX9_chordOn, 3, (some .int), 0, 0)
abbrev jX9_whoAt : kM := (yX9_whoAt, cX9_whoAt, 4, (some .int), 0, 0)
abbrev jX9_rangeOf : kM := (yX9_rangeOf, cX9_rangeOf, 2, (some .int), 0, 0)
abbrev jX9_hush : kM := (yX9_hush, cX9_hush, 2, none, 0, 0)
abbrev jX9_tires : kM := (yX9_tires, cX9_tires, 1, (some .int), 0, 0)
abbrev jX9_tiredOf : kM := (yX9_tiredOf, cX9_tiredOf, 3, (some .int), 0, 0)
abbrev jX9_part : kM := (yX9_part, cX9_part, 6, (some .int), 0, 0)
abbrev jX9_isPart : kM := (yX9_isPart, cX9_isPart, 3, (some .boolean), 0, 0)
abbrev jX9_cutTo : kM := (yX9_cutTo, cX9_cutTo, 3, (some .long), 0, 0)
abbrev jX9_areBelow : kM := (yX9_areBelow, cX9_areBelow, 11, (some .boolean), 0, 0)
abbrev jX9_leastFit : kM := (yX9_leastFit, cX9_leastFit, 2, (some .int), 0, 0)
abbrev jJ6_bitCount_0f7a4 : kM := (yJ6_bitCount_0f7a4, cJ6_bitCount_0f7a4, 1, (some .int), 0, 0)
abbrev jJ9_max_7cf53 : kM := (yJ9_max_7cf53, cJ9_max_7cf53, 2, (some .int), 0, 0)
abbrev jJ9_min_7cf53 : kM := (yJ9_min_7cf53, cJ9_min_7cf53, 2, (some .int), 0, 0)
abbrev jJ7_fill_d0a16 : kM := (yJ7_fill_d0a16, cJ7_fill_d0a16, 5, none, 0, 0)
abbrev jJ7_fill_53178 : kM := (yJ7_fill_53178, cJ7_fill_53178, 4, none, 0, 0)
abbrev jX2_claimParts : kM := (yX2_claimParts, cX2_claimParts, 5, none, 1, 20)
abbrev jX6_take : kM := (yX6_take, cX6_take, 2, (some .boolean), 1, 20)
abbrev jX6_peekPitch : kM := (yX6_peekPitch, cX6_peekPitch, 2, (some .int), 1, 20)
abbrev jX6_readKind : kM := (yX6_readKind, cX6_readKind, 3, (some .boolean), 1, 20)
abbrev jX9_isSign : kM := (yX9_isSign, cX9_isSign, 2, (some .boolean), 1, 20)
abbrev jX0_keep : kM := (yX0_keep, cX0_keep, 4, none, 1, 21)
abbrev jX1_effortOf : kM := (yX1_effortOf, cX1_effortOf, 5, (some .int), 1, 21)
abbrev jX1_firstOf : kM := (yX1_firstOf, cX1_firstOf, 4, (some .int), 1, 21)
abbrev jX1_least : kM := (yX1_least, cX1_least, 2, (some .int), 1, 21)
abbrev jX1_greatest : kM := (yX1_greatest, cX1_greatest, 2, (some .int), 1, 21)
abbrev jX2_shapeOf : kM := (yX2_shapeOf, cX2_shapeOf, 2, (some .int), 1, 21)
abbrev jX2_rootOf : kM := (yX2_rootOf, cX2_rootOf, 2, (some .int), 1, 21)
abbrev jX2_missingOf : kM := (yX2_missingOf, cX2_missingOf, 2, (some .int), 1, 21)
abbrev jX3_bestToHear : kM := (yX3_bestToHear, cX3_bestToHear, 7, (some .int), 1, 21)
abbrev jX8_feed : kM := (yX8_feed, cX8_feed, 2, (some .int), 1, 21)
abbrev jX8_shape : kM := (yX8_shape, cX8_shape, 2, (some .int), 1, 21)
abbrev jX8_drop : kM := (yX8_drop, cX8_drop, 3, (some .int), 1, 21)
abbrev jX8_isField : kM := (yX8_isField, cX8_isField, 2, (some .boolean), 1, 21)
abbrev jX8_isSinger : kM := (yX8_isSinger, cX8_isSinger, 2, (some .boolean), 1, 21)
abbrev jX8_sharedDivisor : kM := (yX8_sharedDivisor, cX8_sharedDivisor, 6, (some .int), 1, 21)
abbrev jX9_lowest : kM := (yX9_lowest, cX9_lowest, 2, (some .int), 1, 21)
abbrev jX9_highest : kM := (yX9_highest, cX9_highest, 2, (some .int), 1, 21)
abbrev jX9_turn : kM := (yX9_turn, cX9_turn, 4, none, 1, 21)
abbrev jX0_takeBack : kM := (yX0_takeBack, cX0_takeBack, 2, none, 1, 22)
abbrev jX7_disturb : kM := (yX7_disturb, cX7_disturb, 3, none, 1, 22)
abbrev jX8_refusal : kM := (yX8_refusal, cX8_refusal, 5, (some .int), 1, 22)
abbrev jX9_isField : kM := (yX9_isField, cX9_isField, 2, (some .boolean), 1, 22)
abbrev jX9_isOne : kM := (yX9_isOne, cX9_isOne, 2, (some .boolean), 1, 22)
abbrev jX9_feed : kM := (yX9_feed, cX9_feed, 2, (some .int), 1, 22)
abbrev jX9_pitchThere : kM := (yX9_pitchThere, cX9_pitchThere, 2, (some .int), 1, 22)
abbrev jX9_shape : kM := (yX9_shape, cX9_shape, 2, (some .int), 1, 22)
abbrev jX9_chordBy : kM := (yX9_chordBy, cX9_chordBy, 7, (some .int), 1, 22)
abbrev jX9_missingBy : kM := (yX9_missingBy, cX9_missingBy, 3, (some .int), 1, 22)
abbrev jX9_isSheet : kM := (yX9_isSheet, cX9_isSheet, 1, (some .boolean), 1, 22)
abbrev jX9_badRow : kM := (yX9_badRow, cX9_badRow, 5, (some .int), 1, 22)
abbrev jX7_clear : kM := (yX7_clear, cX7_clear, 1, none, 1, 23)
abbrev jX4_begin : kM := (yX4_begin, cX4_begin, 3, none, 1, 24)
abbrev jX9_note : kM := (yX9_note, cX9_note, 1, none, 1, 25)
abbrev jX9_undo : kM := (yX9_undo, cX9_undo, 1, (some .int), 1, 25)
abbrev jX9_image : kM := (yX9_image, cX9_image, 2, (some .int), 1, 25)
abbrev jX9_restore : kM := (yX9_restore, cX9_restore, 2, (some .int), 1, 25)
abbrev jX9_begin : kM := (yX9_begin, cX9_begin, 1, none, 1, 25)
abbrev jX7_become : kM := (yX7_become, cX7_become, 2, none, 1, 26)
abbrev jX8_copy : kM := (yX8_copy, cX8_copy, 8, (some .int), 1, 26)
abbrev jX6_takeRising : kM := (yX6_takeRising, cX6_takeRising, 5, (some .int), 2, 41)
abbrev jX6_readRange : kM := (yX6_readRange, cX6_readRange, 3, (some .boolean), 2, 41)
abbrev jX6_readPlace : kM := (yX6_readPlace, cX6_readPlace, 3, (some .boolean), 2, 41)
abbrev jX8_singer : kM := (yX8_singer, cX8_singer, 3, (some .int), 2, 42)
abbrev jX8_as : kM := (yX8_as, cX8_as, 3, (some .int), 2, 42)
abbrev jX8_howls : kM := (yX8_howls, cX8_howls, 5, (some .int), 2, 42)
abbrev jX8_back : kM := (yX8_back, cX8_back, 7, (some .int), 2, 42)
abbrev jX8_tellChord : kM := (yX8_tellChord, cX8_tellChord, 3, (some .int), 2, 42)
abbrev jX8_fieldsWithChord : kM := (yX8_fieldsWithChord, cX8_fieldsWithChord, 5, (some .int), 2, 42)
abbrev jX9_singsOf : kM := (yX9_singsOf, cX9_singsOf, 6, (some .int), 2, 42)
abbrev jX9_sheet : kM := (yX9_sheet, cX9_sheet, 5, (some .int), 2, 42)
abbrev jX9_drop : kM := (yX9_drop, cX9_drop, 2, (some .int), 2, 42)
abbrev jX9_copy : kM := (yX9_copy, cX9_copy, 9, (some .int), 2, 42)
abbrev jX8_undo : kM := (yX8_undo, cX8_undo, 1, (some .int), 2, 43)
abbrev jX9_pitches : kM := (yX9_pitches, cX9_pitches, 6, (some .int), 2, 43)
abbrev jX9_isSinger : kM := (yX9_isSinger, cX9_isSinger, 6, (some .boolean), 2, 43)
abbrev jX9_singer : kM := (yX9_singer, cX9_singer, 3, (some .int), 2, 43)
abbrev jX9_as : kM := (yX9_as, cX9_as, 6, (some .int), 2, 43)
abbrev jX1_choose : kM := (yX1_choose, cX1_choose, 3, (some .int), 2, 44)
abbrev jX2_learnShape : kM := (yX2_learnShape, cX2_learnShape, 5, none, 2, 44)
abbrev jX8_send : kM := (yX8_send, cX8_send, 4, (some .int), 2, 44)
abbrev jX8_sound : kM := (yX8_sound, cX8_sound, 3, (some .int), 2, 44)
abbrev jX9_send : kM := (yX9_send, cX9_send, 5, (some .int), 2, 45)
abbrev jX9_sound : kM := (yX9_sound, cX9_sound, 3, (some .int), 2, 45)
abbrev jX8_sheet : kM := (yX8_sheet, cX8_sheet, 4, (some .int), 2, 46)
abbrev jX8_item : kM := (yX8_item, cX8_item, 7, (some .long), 2, 46)
abbrev jX9_item : kM := (yX9_item, cX9_item, 7, (some .long), 2, 46)
abbrev jX8_image : kM := (yX8_image, cX8_image, 2, (some .int), 2, 47)
abbrev jX9_chord : kM := (yX9_chord, cX9_chord, 4, (some .int), 2, 48)
abbrev jX9_howls : kM := (yX9_howls, cX9_howls, 5, (some .int), 2, 48)
abbrev jX9_back : kM := (yX9_back, cX9_back, 7, (some .int), 2, 48)
abbrev jX9_fieldsWith : kM := (yX9_fieldsWith, cX9_fieldsWith, 6, (some .int), 2, 48)
abbrev jX6_readSingers : kM := (yX6_readSingers, cX6_readSingers, 3, (some .boolean), 3, 63)
abbrev jX8_field : kM := (yX8_field, cX8_field, 3, (some .int), 3, 64)
abbrev jX8_chord : kM := (yX8_chord, cX8_chord, 3, (some .int), 3, 64)
abbrev jX6_readShape : kM := (yX6_readShape, cX6_readShape, 3, (some .boolean), 3, 65)
abbrev jX6_readFields : kM := (yX6_readFields, cX6_readFields, 4, (some .boolean), 3, 65)
abbrev jX1_sing : kM := (yX1_sing, cX1_sing, 8, (some .boolean), 3, 66)
abbrev jX1_alone : kM := (yX1_alone, cX1_alone, 4, (some .int), 3, 66)
abbrev jX8_count : kM := (yX8_count, cX8_count, 2, (some .int), 3, 66)
abbrev jX9_singIn : kM := (yX9_singIn, cX9_singIn, 8, (some .int), 3, 67)
abbrev jX9_aloneSings : kM := (yX9_aloneSings, cX9_aloneSings, 5, (some .int), 3, 67)
abbrev jX2_learn : kM := (yX2_learn, cX2_learn, 4, none, 3, 68)
abbrev jX9_isShape : kM := (yX9_isShape, cX9_isShape, 2, (some .boolean), 3, 68)
abbrev jX9_isFieldItem : kM := (yX9_isFieldItem, cX9_isFieldItem, 2, (some .boolean), 3, 68)
abbrev jX9_field : kM := (yX9_field, cX9_field, 3, (some .int), 3, 71)
abbrev jX9_count : kM := (yX9_count, cX9_count, 2, (some .int), 3, 73)
abbrev jX6_readShapes : kM := (yX6_readShapes, cX6_readShapes, 3, (some .boolean), 4, 87)
abbrev jX3_agrees : kM := (yX3_agrees, cX3_agrees, 6, (some .boolean), 4, 89)
abbrev jX3_sort : kM := (yX3_sort, cX3_sort, 6, none, 4, 89)
abbrev jX8_agrees : kM := (yX8_agrees, cX8_agrees, 8, (some .boolean), 4, 89)
abbrev jX9_isRead : kM := (yX9_isRead, cX9_isRead, 2, (some .boolean), 4, 89)
abbrev jX8_begin : kM := (yX8_begin, cX8_begin, 2, none, 4, 91)
abbrev jX9_layFits : kM := (yX9_layFits, cX9_layFits, 9, (some .int), 4, 91)
abbrev jX9_bestHeard : kM := (yX9_bestHeard, cX9_bestHeard, 6, (some .int), 4, 91)
abbrev jX9_kinds : kM := (yX9_kinds, cX9_kinds, 13, (some .int), 4, 91)
abbrev jX1_singAll : kM := (yX1_singAll, cX1_singAll, 4, (some .int), 4, 93)
abbrev jX5_weigh : kM := (yX5_weigh, cX5_weigh, 6, none, 4, 93)
abbrev jX8_fills : kM := (yX8_fills, cX8_fills, 5, (some .int), 4, 93)
abbrev jX8_wind : kM := (yX8_wind, cX8_wind, 8, (some .int), 4, 93)
abbrev jX9_singAll : kM := (yX9_singAll, cX9_singAll, 4, (some .int), 4, 94)
abbrev jX9_fills : kM := (yX9_fills, cX9_fills, 5, (some .int), 4, 94)
abbrev jX9_wind : kM := (yX9_wind, cX9_wind, 10, (some .int), 4, 94)
abbrev jX6_readValley : kM := (yX6_readValley, cX6_readValley, 2, (some .boolean), 5, 109)
abbrev jX9_valley : kM := (yX9_valley, cX9_valley, 2, (some .int), 5, 110)
abbrev jX8_restore : kM := (yX8_restore, cX8_restore, 2, (some .int), 5, 112)
abbrev jX3_listen : kM := (yX3_listen, cX3_listen, 7, none, 5, 114)
abbrev jX1_passHour : kM := (yX1_passHour, cX1_passHour, 5, (some .int), 5, 116)
abbrev jX8_sings : kM := (yX8_sings, cX8_sings, 3, (some .int), 5, 116)
abbrev jX8_log : kM := (yX8_log, cX8_log, 6, (some .int), 5, 116)
abbrev jX8_kinds : kM := (yX8_kinds, cX8_kinds, 9, (some .int), 5, 116)
abbrev jX9_hourIn : kM := (yX9_hourIn, cX9_hourIn, 5, (some .int), 5, 117)
abbrev jX9_sings : kM := (yX9_sings, cX9_sings, 2, (some .int), 5, 117)
abbrev jX9_layStands : kM := (yX9_layStands, cX9_layStands, 8, none, 5, 117)
abbrev jX9_log : kM := (yX9_log, cX9_log, 6, (some .int), 5, 117)
abbrev jX5_find : kM := (yX5_find, cX5_find, 6, none, 5, 118)
abbrev jX9_sounded : kM := (yX9_sounded, cX9_sounded, 8, (some .int), 5, 119)
abbrev jX8_valley : kM := (yX8_valley, cX8_valley, 2, (some .int), 6, 130)
abbrev jX8_hour : kM := (yX8_hour, cX8_hour, 1, (some .int), 6, 140)
abbrev jX8_ahead : kM := (yX8_ahead, cX8_ahead, 5, (some .int), 6, 140)
abbrev jX8_decades : kM := (yX8_decades, cX8_decades, 8, (some .int), 6, 140)
abbrev jX8_sounded : kM := (yX8_sounded, cX8_sounded, 7, (some .int), 6, 140)
abbrev jX9_hour : kM := (yX9_hour, cX9_hour, 1, (some .int), 6, 141)
abbrev jX9_ahead : kM := (yX9_ahead, cX9_ahead, 5, (some .int), 6, 141)
abbrev jX9_decades : kM := (yX9_decades, cX9_decades, 8, (some .int), 6, 141)
abbrev jX8_stands : kM := (yX8_stands, cX8_stands, 2, (some .int), 6, 143)
abbrev jX9_stands : kM := (yX9_stands, cX9_stands, 2, (some .int), 6, 144)
theorem fX8_10 : k_fl RX8 10 8 0 := ⟨RX8, TX8, 10, rfl, by decide, inX8, (k_m1 239 rfl rfl), rfl⟩
theorem fX8_19 : k_fl RX8 19 8 1 := ⟨RX8, TX8, 10, rfl, by decide, inX8, (k_m2 0 rfl rfl), rfl⟩
theorem fX8_23 : k_fl RX8 23 8 2 := ⟨RX8, TX8, 10, rfl, by decide, inX8, (k_m2 1 rfl rfl), rfl⟩
theorem fX8_26 : k_fl RX8 26 8 3 := ⟨RX8, TX8, 10, rfl, by decide, inX8, (k_m2 2 rfl rfl), rfl⟩
theorem fX8_33 : k_fl RX8 33 8 4 := ⟨RX8, TX8, 10, rfl, by decide, inX8, (k_m2 3 rfl rfl), rfl⟩
theorem fX8_40 : k_fl RX8 40 8 5 := ⟨RX8, TX8, 10, rfl, by decide, inX8, (k_m2 4 rfl rfl), rfl⟩
theorem fX8_44 : k_fl RX8 44 1 1 := ⟨RX1, TX1, 2, rfl, by decide, inX1, (k_m1 162 rfl rfl), rfl⟩
theorem fX8_48 : k_fl RX8 48 8 6 := ⟨RX8, TX8, 10, rfl, by decide, inX8, (k_m2 5 rfl rfl), rfl⟩
theorem fX8_52 : k_fl RX8 52 8 7 := ⟨RX8, TX8, 10, rfl, by decide, inX8, (k_m2 6 rfl rfl), rfl⟩
theorem fX8_59 : k_fl RX8 59 8 8 := ⟨RX8, TX8, 10, rfl, by decide, inX8, (k_m2 7 rfl rfl), rfl⟩
theorem fX8_65 : k_fl RX8 65 8 9 := ⟨RX8, TX8, 10, rfl, by decide, inX8, (k_m2 8 rfl rfl), rfl⟩
theorem fX8_74 : k_fl RX8 74 6 1 := ⟨RX6, TX6, 3, rfl, by decide, inX6, (k_m1 31 rfl rfl), rfl⟩
theorem pX8_74 : k_fp RX8 74 6 1 := ⟨RX6, TX6, 3, tyX6, rfl, by decide, inX6, (k_m1 31 rfl rfl), rfl, tyX6_ok, nmX6, rfl, by decide +kernel⟩
theorem fX8_86 : k_fl RX8 86 6 2 := ⟨RX6, TX6, 3, rfl, by decide, inX6, (k_m1 33 rfl rfl), rfl⟩
theorem pX8_86 : k_fp RX8 86 6 2 := ⟨RX6, TX6, 3, tyX6, rfl, by decide, inX6, (k_m1 33 rfl rfl), rfl, tyX6_ok, nmX6, rfl, by decide +kernel⟩
theorem fX8_93 : k_fl RX8 93 7 2 := ⟨RX7, TX7, 11, rfl, by decide, inX7, (k_m1 60 rfl rfl), rfl⟩
theorem pX8_93 : k_fp RX8 93 7 2 := ⟨RX7, TX7, 11, tyX7, rfl, by decide, inX7, (k_m1 60 rfl rfl), rfl, tyX7_ok, nmX7, rfl, by decide +kernel⟩
theorem fX8_96 : k_fl RX8 96 7 0 := ⟨RX7, TX7, 11, rfl, by decide, inX7, (k_m1 50 rfl rfl), rfl⟩
theorem pX8_96 : k_fp RX8 96 7 0 := ⟨RX7, TX7, 11, tyX7, rfl, by decide, inX7, (k_m1 50 rfl rfl), rfl, tyX7_ok, nmX7, rfl, by decide +kernel⟩
theorem fX8_99 : k_fl RX8 99 7 4 := ⟨RX7, TX7, 11, rfl, by decide, inX7, (k_m1 69 rfl rfl), rfl⟩
theorem fX8_107 : k_fl RX8 107 7 5 := ⟨RX7, TX7, 11, rfl, by decide, inX7, (k_m1 73 rfl rfl), rfl⟩
theorem fX8_120 : k_fl RX8 120 7 6 := ⟨RX7, TX7, 11, rfl, by decide, inX7, (k_m1 78 rfl rfl), rfl⟩
theorem fX8_123 : k_fl RX8 123 7 7 := ⟨RX7, TX7, 11, rfl, by decide, inX7, (k_m1 81 rfl rfl), rfl⟩
theorem fX8_126 : k_fl RX8 126 7 8 := ⟨RX7, TX7, 11, rfl, by decide, inX7, (k_m1 84 rfl rfl), rfl⟩
theorem fX8_129 : k_fl RX8 129 7 10 := ⟨RX7, TX7, 11, rfl, by decide, inX7, (k_m1 92 rfl rfl), rfl⟩
theorem fX8_132 : k_fl RX8 132 7 9 := ⟨RX7, TX7, 11, rfl, by decide, inX7, (k_m1 88 rfl rfl), rfl⟩
theorem fX8_147 : k_fl RX8 147 7 3 := ⟨RX7, TX7, 11, rfl, by decide, inX7, (k_m1 66 rfl rfl), rfl⟩
theorem pX8_147 : k_fp RX8 147 7 3 := ⟨RX7, TX7, 11, tyX7, rfl, by decide, inX7, (k_m1 66 rfl rfl), rfl, tyX7_ok, nmX7, rfl, by decide +kernel⟩
theorem fX8_166 : k_fl RX8 166 0 0 := ⟨RX0, TX0, 5, rfl, by decide, inX0, (k_m1 124 rfl rfl), rfl⟩
theorem pX8_166 : k_fp RX8 166 0 0 := ⟨RX0, TX0, 5, tyX0, rfl, by decide, inX0, (k_m1 124 rfl rfl), rfl, tyX0_ok, nmX0, rfl, by decide +kernel⟩
theorem fX8_176 : k_fl RX8 176 1 0 := ⟨RX1, TX1, 2, rfl, by decide, inX1, (k_m1 160 rfl rfl), rfl⟩
theorem fX8_226 : k_fl RX8 226 4 1 := ⟨RX4, TX4, 3, rfl, by decide, inX4, (k_m1 227 rfl rfl), rfl⟩
theorem pX8_226 : k_fp RX8 226 4 1 := ⟨RX4, TX4, 3, tyX4, rfl, by decide, inX4, (k_m1 227 rfl rfl), rfl, tyX4_ok, nmX4, rfl, by decide +kernel⟩
theorem fX8_237 : k_fl RX8 237 4 2 := ⟨RX4, TX4, 3, rfl, by decide, inX4, (k_m1 230 rfl rfl), rfl⟩
theorem fX8_241 : k_fl RX8 241 4 0 := ⟨RX4, TX4, 3, rfl, by decide, inX4, (k_m1 225 rfl rfl), rfl⟩
theorem pX8_241 : k_fp RX8 241 4 0 := ⟨RX4, TX4, 3, tyX4, rfl, by decide, inX4, (k_m1 225 rfl rfl), rfl, tyX4_ok, nmX4, rfl, by decide +kernel⟩
theorem fX8_261 : k_fl RX8 261 3 0 := ⟨RX3, TX3, 5, rfl, by decide, inX3, (k_m1 200 rfl rfl), rfl⟩
theorem pX8_261 : k_fp RX8 261 3 0 := ⟨RX3, TX3, 5, tyX3, rfl, by decide, inX3, (k_m1 200 rfl rfl), rfl, tyX3_ok, nmX3, rfl, by decide +kernel⟩
theorem fX8_264 : k_fl RX8 264 3 1 := ⟨RX3, TX3, 5, rfl, by decide, inX3, (k_m1 202 rfl rfl), rfl⟩
theorem pX8_264 : k_fp RX8 264 3 1 := ⟨RX3, TX3, 5, tyX3, rfl, by decide, inX3, (k_m1 202 rfl rfl), rfl, tyX3_ok, nmX3, rfl, by decide +kernel⟩
theorem fX8_277 : k_fl RX8 277 7 1 := ⟨RX7, TX7, 11, rfl, by decide, inX7, (k_m1 56 rfl rfl), rfl⟩
theorem pX8_277 : k_fp RX8 277 7 1 := ⟨RX7, TX7, 11, tyX7, rfl, by decide, inX7, (k_m1 56 rfl rfl), rfl, tyX7_ok, nmX7, rfl, by decide +kernel⟩
theorem fX0_9 : k_fl RX0 9 0 2 := ⟨RX0, TX0, 5, rfl, by decide, inX0, (k_m1 126 rfl rfl), rfl⟩
theorem fX0_15 : k_fl RX0 15 0 3 := ⟨RX0, TX0, 5, rfl, by decide, inX0, (k_m1 127 rfl rfl), rfl⟩
theorem fX0_18 : k_fl RX0 18 0 4 := ⟨RX0, TX0, 5, rfl, by decide, inX0, (k_m1 128 rfl rfl), rfl⟩
theorem fX0_21 : k_fl RX0 21 0 0 := ⟨RX0, TX0, 5, rfl, by decide, inX0, (k_m1 123 rfl rfl), rfl⟩
theorem pX0_21 : k_fp RX0 21 0 0 := ⟨RX0, TX0, 5, tyX0, rfl, by decide, inX0, (k_m1 123 rfl rfl), rfl, tyX0_ok, nmX0, rfl, by decide +kernel⟩
theorem fX0_25 : k_fl RX0 25 0 1 := ⟨RX0, TX0, 5, rfl, by decide, inX0, (k_m1 125 rfl rfl), rfl⟩
theorem pX0_25 : k_fp RX0 25 0 1 := ⟨RX0, TX0, 5, tyX0, rfl, by decide, inX0, (k_m1 125 rfl rfl), rfl, tyX0_ok, nmX0, rfl, by decide +kernel⟩
theorem fX0_40 : k_fl RX0 40 7 3 := ⟨RX7, TX7, 11, rfl, by decide, inX7, (k_m1 65 rfl rfl), rfl⟩
theorem pX0_40 : k_fp RX0 40 7 3 := ⟨RX7, TX7, 11, tyX7, rfl, by decide, inX7, (k_m1 65 rfl rfl), rfl, tyX7_ok, nmX7, rfl, by decide +kernel⟩
theorem fX0_43 : k_fl RX0 43 7 9 := ⟨RX7, TX7, 11, rfl, by decide, inX7, (k_m1 87 rfl rfl), rfl⟩
theorem fX1_9 : k_fl RX1 9 1 0 := ⟨RX1, TX1, 2, rfl, by decide, inX1, (k_m1 159 rfl rfl), rfl⟩
theorem fX1_18 : k_fl RX1 18 1 1 := ⟨RX1, TX1, 2, rfl, by decide, inX1, (k_m1 161 rfl rfl), rfl⟩
theorem fX1_22 : k_fl RX1 22 7 5 := ⟨RX7, TX7, 11, rfl, by decide, inX7, (k_m1 72 rfl rfl), rfl⟩
theorem fX1_35 : k_fl RX1 35 7 2 := ⟨RX7, TX7, 11, rfl, by decide, inX7, (k_m1 58 rfl rfl), rfl⟩
theorem pX1_35 : k_fp RX1 35 7 2 := ⟨RX7, TX7, 11, tyX7, rfl, by decide, inX7, (k_m1 58 rfl rfl), rfl, tyX7_ok, nmX7, rfl, by decide +kernel⟩
theorem fX1_43 : k_fl RX1 43 7 6 := ⟨RX7, TX7, 11, rfl, by decide, inX7, (k_m1 76 rfl rfl), rfl⟩
theorem fX1_66 : k_fl RX1 66 7 1 := ⟨RX7, TX7, 11, rfl, by decide, inX7, (k_m1 54 rfl rfl), rfl⟩
theorem pX1_66 : k_fp RX1 66 7 1 := ⟨RX7, TX7, 11, tyX7, rfl, by decide, inX7, (k_m1 54 rfl rfl), rfl, tyX7_ok, nmX7, rfl, by decide +kernel⟩
theorem fX1_83 : k_fl RX1 83 7 10 := ⟨RX7, TX7, 11, rfl, by decide, inX7, (k_m1 91 rfl rfl), rfl⟩
theorem fX1_92 : k_fl RX1 92 7 3 := ⟨RX7, TX7, 11, rfl, by decide, inX7, (k_m1 64 rfl rfl), rfl⟩
theorem pX1_92 : k_fp RX1 92 7 3 := ⟨RX7, TX7, 11, tyX7, rfl, by decide, inX7, (k_m1 64 rfl rfl), rfl, tyX7_ok, nmX7, rfl, by decide +kernel⟩
theorem fX2_9 : k_fl RX2 9 2 0 := ⟨RX2, TX2, 2, rfl, by decide, inX2, (k_m1 152 rfl rfl), rfl⟩
theorem fX2_15 : k_fl RX2 15 2 1 := ⟨RX2, TX2, 2, rfl, by decide, inX2, (k_m1 153 rfl rfl), rfl⟩
theorem fX2_24 : k_fl RX2 24 7 0 := ⟨RX7, TX7, 11, rfl, by decide, inX7, (k_m1 48 rfl rfl), rfl⟩
theorem pX2_24 : k_fp RX2 24 7 0 := ⟨RX7, TX7, 11, tyX7, rfl, by decide, inX7, (k_m1 48 rfl rfl), rfl, tyX7_ok, nmX7, rfl, by decide +kernel⟩
theorem fX2_30 : k_fl RX2 30 7 4 := ⟨RX7, TX7, 11, rfl, by decide, inX7, (k_m1 68 rfl rfl), rfl⟩
theorem fX3_9 : k_fl RX3 9 3 2 := ⟨RX3, TX3, 5, rfl, by decide, inX3, (k_m1 203 rfl rfl), rfl⟩
theorem fX3_15 : k_fl RX3 15 3 3 := ⟨RX3, TX3, 5, rfl, by decide, inX3, (k_m1 204 rfl rfl), rfl⟩
theorem fX3_18 : k_fl RX3 18 3 4 := ⟨RX3, TX3, 5, rfl, by decide, inX3, (k_m1 205 rfl rfl), rfl⟩
theorem fX3_21 : k_fl RX3 21 4 2 := ⟨RX4, TX4, 3, rfl, by decide, inX4, (k_m1 229 rfl rfl), rfl⟩
theorem fX3_27 : k_fl RX3 27 3 0 := ⟨RX3, TX3, 5, rfl, by decide, inX3, (k_m1 199 rfl rfl), rfl⟩
theorem pX3_27 : k_fp RX3 27 3 0 := ⟨RX3, TX3, 5, tyX3, rfl, by decide, inX3, (k_m1 199 rfl rfl), rfl, tyX3_ok, nmX3, rfl, by decide +kernel⟩
theorem fX3_31 : k_fl RX3 31 3 1 := ⟨RX3, TX3, 5, rfl, by decide, inX3, (k_m1 201 rfl rfl), rfl⟩
theorem pX3_31 : k_fp RX3 31 3 1 := ⟨RX3, TX3, 5, tyX3, rfl, by decide, inX3, (k_m1 201 rfl rfl), rfl, tyX3_ok, nmX3, rfl, by decide +kernel⟩
theorem fX3_54 : k_fl RX3 54 7 6 := ⟨RX7, TX7, 11, rfl, by decide, inX7, (k_m1 77 rfl rfl), rfl⟩
theorem fX3_69 : k_fl RX3 69 7 2 := ⟨RX7, TX7, 11, rfl, by decide, inX7, (k_m1 61 rfl rfl), rfl⟩
theorem pX3_69 : k_fp RX3 69 7 2 := ⟨RX7, TX7, 11, tyX7, rfl, by decide, inX7, (k_m1 61 rfl rfl), rfl, tyX7_ok, nmX7, rfl, by decide +kernel⟩
theorem fX4_11 : k_fl RX4 11 4 0 := ⟨RX4, TX4, 3, rfl, by decide, inX4, (k_m1 224 rfl rfl), rfl⟩
theorem pX4_11 : k_fp RX4 11 4 0 := ⟨RX4, TX4, 3, tyX4, rfl, by decide, inX4, (k_m1 224 rfl rfl), rfl, tyX4_ok, nmX4, rfl, by decide +kernel⟩
theorem fX4_15 : k_fl RX4 15 4 2 := ⟨RX4, TX4, 3, rfl, by decide, inX4, (k_m1 228 rfl rfl), rfl⟩
theorem fX4_19 : k_fl RX4 19 4 1 := ⟨RX4, TX4, 3, rfl, by decide, inX4, (k_m1 226 rfl rfl), rfl⟩
theorem pX4_19 : k_fp RX4 19 4 1 := ⟨RX4, TX4, 3, tyX4, rfl, by decide, inX4, (k_m1 226 rfl rfl), rfl, tyX4_ok, nmX4, rfl, by decide +kernel⟩
theorem fX5_9 : k_fl RX5 9 5 0 := ⟨RX5, TX5, 6, rfl, by decide, inX5, (k_m1 174 rfl rfl), rfl⟩
theorem fX5_15 : k_fl RX5 15 5 1 := ⟨RX5, TX5, 6, rfl, by decide, inX5, (k_m1 175 rfl rfl), rfl⟩
theorem fX5_18 : k_fl RX5 18 5 2 := ⟨RX5, TX5, 6, rfl, by decide, inX5, (k_m1 176 rfl rfl), rfl⟩
theorem fX5_21 : k_fl RX5 21 5 3 := ⟨RX5, TX5, 6, rfl, by decide, inX5, (k_m1 177 rfl rfl), rfl⟩
theorem fX5_24 : k_fl RX5 24 7 1 := ⟨RX7, TX7, 11, rfl, by decide, inX7, (k_m1 53 rfl rfl), rfl⟩
theorem pX5_24 : k_fp RX5 24 7 1 := ⟨RX7, TX7, 11, tyX7, rfl, by decide, inX7, (k_m1 53 rfl rfl), rfl, tyX7_ok, nmX7, rfl, by decide +kernel⟩
theorem fX5_30 : k_fl RX5 30 5 5 := ⟨RX5, TX5, 6, rfl, by decide, inX5, (k_m1 179 rfl rfl), rfl⟩
theorem pX5_30 : k_fp RX5 30 5 5 := ⟨RX5, TX5, 6, tyX5, rfl, by decide, inX5, (k_m1 179 rfl rfl), rfl, tyX5_ok, nmX5, rfl, by decide +kernel⟩
theorem fX5_43 : k_fl RX5 43 7 2 := ⟨RX7, TX7, 11, rfl, by decide, inX7, (k_m1 59 rfl rfl), rfl⟩
theorem pX5_43 : k_fp RX5 43 7 2 := ⟨RX7, TX7, 11, tyX7, rfl, by decide, inX7, (k_m1 59 rfl rfl), rfl, tyX7_ok, nmX7, rfl, by decide +kernel⟩
theorem fX5_46 : k_fl RX5 46 5 4 := ⟨RX5, TX5, 6, rfl, by decide, inX5, (k_m1 178 rfl rfl), rfl⟩
theorem pX5_46 : k_fp RX5 46 5 4 := ⟨RX5, TX5, 6, tyX5, rfl, by decide, inX5, (k_m1 178 rfl rfl), rfl, tyX5_ok, nmX5, rfl, by decide +kernel⟩
theorem fX6_9 : k_fl RX6 9 6 0 := ⟨RX6, TX6, 3, rfl, by decide, inX6, (k_m1 29 rfl rfl), rfl⟩
theorem fX6_15 : k_fl RX6 15 6 1 := ⟨RX6, TX6, 3, rfl, by decide, inX6, (k_m1 30 rfl rfl), rfl⟩
theorem pX6_15 : k_fp RX6 15 6 1 := ⟨RX6, TX6, 3, tyX6, rfl, by decide, inX6, (k_m1 30 rfl rfl), rfl, tyX6_ok, nmX6, rfl, by decide +kernel⟩
theorem fX6_19 : k_fl RX6 19 6 2 := ⟨RX6, TX6, 3, rfl, by decide, inX6, (k_m1 32 rfl rfl), rfl⟩
theorem pX6_19 : k_fp RX6 19 6 2 := ⟨RX6, TX6, 3, tyX6, rfl, by decide, inX6, (k_m1 32 rfl rfl), rfl, tyX6_ok, nmX6, rfl, by decide +kernel⟩
theorem fX6_52 : k_fl RX6 52 7 0 := ⟨RX7, TX7, 11, rfl, by decide, inX7, (k_m1 51 rfl rfl), rfl⟩
theorem pX6_52 : k_fp RX6 52 7 0 := ⟨RX7, TX7, 11, tyX7, rfl, by decide, inX7, (k_m1 51 rfl rfl), rfl, tyX7_ok, nmX7, rfl, by decide +kernel⟩
theorem fX6_55 : k_fl RX6 55 7 4 := ⟨RX7, TX7, 11, rfl, by decide, inX7, (k_m1 70 rfl rfl), rfl⟩
theorem fX6_69 : k_fl RX6 69 7 5 := ⟨RX7, TX7, 11, rfl, by decide, inX7, (k_m1 74 rfl rfl), rfl⟩
theorem fX6_72 : k_fl RX6 72 7 1 := ⟨RX7, TX7, 11, rfl, by decide, inX7, (k_m1 55 rfl rfl), rfl⟩
theorem pX6_72 : k_fp RX6 72 7 1 := ⟨RX7, TX7, 11, tyX7, rfl, by decide, inX7, (k_m1 55 rfl rfl), rfl, tyX7_ok, nmX7, rfl, by decide +kernel⟩
theorem fX6_84 : k_fl RX6 84 7 2 := ⟨RX7, TX7, 11, rfl, by decide, inX7, (k_m1 62 rfl rfl), rfl⟩
theorem pX6_84 : k_fp RX6 84 7 2 := ⟨RX7, TX7, 11, tyX7, rfl, by decide, inX7, (k_m1 62 rfl rfl), rfl, tyX7_ok, nmX7, rfl, by decide +kernel⟩
theorem fX6_87 : k_fl RX6 87 7 6 := ⟨RX7, TX7, 11, rfl, by decide, inX7, (k_m1 79 rfl rfl), rfl⟩
theorem fX6_90 : k_fl RX6 90 7 7 := ⟨RX7, TX7, 11, rfl, by decide, inX7, (k_m1 82 rfl rfl), rfl⟩
theorem fX6_93 : k_fl RX6 93 7 8 := ⟨RX7, TX7, 11, rfl, by decide, inX7, (k_m1 85 rfl rfl), rfl⟩
theorem fX6_96 : k_fl RX6 96 7 9 := ⟨RX7, TX7, 11, rfl, by decide, inX7, (k_m1 89 rfl rfl), rfl⟩
theorem fX7_9 : k_fl RX7 9 7 4 := ⟨RX7, TX7, 11, rfl, by decide, inX7, (k_m1 67 rfl rfl), rfl⟩
theorem fX7_15 : k_fl RX7 15 7 5 := ⟨RX7, TX7, 11, rfl, by decide, inX7, (k_m1 71 rfl rfl), rfl⟩
theorem fX7_18 : k_fl RX7 18 7 6 := ⟨RX7, TX7, 11, rfl, by decide, inX7, (k_m1 75 rfl rfl), rfl⟩
theorem fX7_21 : k_fl RX7 21 7 7 := ⟨RX7, TX7, 11, rfl, by decide, inX7, (k_m1 80 rfl rfl), rfl⟩
theorem fX7_24 : k_fl RX7 24 7 8 := ⟨RX7, TX7, 11, rfl, by decide, inX7, (k_m1 83 rfl rfl), rfl⟩
theorem fX7_27 : k_fl RX7 27 7 9 := ⟨RX7, TX7, 11, rfl, by decide, inX7, (k_m1 86 rfl rfl), rfl⟩
theorem fX7_30 : k_fl RX7 30 7 10 := ⟨RX7, TX7, 11, rfl, by decide, inX7, (k_m1 90 rfl rfl), rfl⟩
theorem fX7_33 : k_fl RX7 33 7 1 := ⟨RX7, TX7, 11, rfl, by decide, inX7, (k_m1 52 rfl rfl), rfl⟩
theorem pX7_33 : k_fp RX7 33 7 1 := ⟨RX7, TX7, 11, tyX7, rfl, by decide, inX7, (k_m1 52 rfl rfl), rfl, tyX7_ok, nmX7, rfl, by decide +kernel⟩
theorem fX7_37 : k_fl RX7 37 7 2 := ⟨RX7, TX7, 11, rfl, by decide, inX7, (k_m1 57 rfl rfl), rfl⟩
theorem pX7_37 : k_fp RX7 37 7 2 := ⟨RX7, TX7, 11, tyX7, rfl, by decide, inX7, (k_m1 57 rfl rfl), rfl, tyX7_ok, nmX7, rfl, by decide +kernel⟩
theorem fX7_40 : k_fl RX7 40 7 0 := ⟨RX7, TX7, 11, rfl, by decide, inX7, (k_m1 49 rfl rfl), rfl⟩
theorem pX7_40 : k_fp RX7 40 7 0 := ⟨RX7, TX7, 11, tyX7, rfl, by decide, inX7, (k_m1 49 rfl rfl), rfl, tyX7_ok, nmX7, rfl, by decide +kernel⟩
theorem fX7_43 : k_fl RX7 43 7 3 := ⟨RX7, TX7, 11, rfl, by decide, inX7, (k_m1 63 rfl rfl), rfl⟩
theorem pX7_43 : k_fp RX7 43 7 3 := ⟨RX7, TX7, 11, tyX7, rfl, by decide, inX7, (k_m1 63 rfl rfl), rfl, tyX7_ok, nmX7, rfl, by decide +kernel⟩
theorem fX9_7 : k_fl RX9 7 9 0 := ⟨RX9, TX9, 19, rfl, by decide, inX9, (k_m4 11 rfl rfl), rfl⟩
theorem fX9_13 : k_fl RX9 13 9 1 := ⟨RX9, TX9, 19, rfl, by decide, inX9, (k_m4 12 rfl rfl), rfl⟩
theorem fX9_16 : k_fl RX9 16 9 2 := ⟨RX9, TX9, 19, rfl, by decide, inX9, (k_m4 13 rfl rfl), rfl⟩
theorem fX9_20 : k_fl RX9 20 9 4 := ⟨RX9, TX9, 19, rfl, by decide, inX9, (k_m4 15 rfl rfl), rfl⟩
theorem fX9_23 : k_fl RX9 23 9 6 := ⟨RX9, TX9, 19, rfl, by decide, inX9, (k_m4 17 rfl rfl), rfl⟩
theorem fX9_26 : k_fl RX9 26 9 7 := ⟨RX9, TX9, 19, rfl, by decide, inX9, (k_m4 18 rfl rfl), rfl⟩
theorem fX9_29 : k_fl RX9 29 9 8 := ⟨RX9, TX9, 19, rfl, by decide, inX9, (k_m4 19 rfl rfl), rfl⟩
theorem fX9_32 : k_fl RX9 32 9 9 := ⟨RX9, TX9, 19, rfl, by decide, inX9, (k_m4 20 rfl rfl), rfl⟩
theorem fX9_35 : k_fl RX9 35 9 10 := ⟨RX9, TX9, 19, rfl, by decide, inX9, (k_m4 21 rfl rfl), rfl⟩
theorem fX9_39 : k_fl RX9 39 9 11 := ⟨RX9, TX9, 19, rfl, by decide, inX9, (k_m4 22 rfl rfl), rfl⟩
theorem fX9_42 : k_fl RX9 42 9 13 := ⟨RX9, TX9, 19, rfl, by decide, inX9, (k_m4 24 rfl rfl), rfl⟩
theorem fX9_45 : k_fl RX9 45 9 14 := ⟨RX9, TX9, 19, rfl, by decide, inX9, (k_m4 25 rfl rfl), rfl⟩
theorem fX9_48 : k_fl RX9 48 9 17 := ⟨RX9, TX9, 19, rfl, by decide, inX9, (k_m4 28 rfl rfl), rfl⟩
theorem fX9_51 : k_fl RX9 51 9 18 := ⟨RX9, TX9, 19, rfl, by decide, inX9, (k_m4 29 rfl rfl), rfl⟩
theorem fX9_58 : k_fl RX9 58 9 3 := ⟨RX9, TX9, 19, rfl, by decide, inX9, (k_m4 14 rfl rfl), rfl⟩
theorem pX9_58 : k_fp RX9 58 9 3 := ⟨RX9, TX9, 19, tyX9, rfl, by decide, inX9, (k_m4 14 rfl rfl), rfl, tyX9_ok, nmX9, rfl, by decide +kernel⟩
theorem fX9_62 : k_fl RX9 62 9 5 := ⟨RX9, TX9, 19, rfl, by decide, inX9, (k_m4 16 rfl rfl), rfl⟩
theorem pX9_62 : k_fp RX9 62 9 5 := ⟨RX9, TX9, 19, tyX9, rfl, by decide, inX9, (k_m4 16 rfl rfl), rfl, tyX9_ok, nmX9, rfl, by decide +kernel⟩
theorem fX9_103 : k_fl RX9 103 9 12 := ⟨RX9, TX9, 19, rfl, by decide, inX9, (k_m4 23 rfl rfl), rfl⟩
theorem pX9_103 : k_fp RX9 103 9 12 := ⟨RX9, TX9, 19, tyX9, rfl, by decide, inX9, (k_m4 23 rfl rfl), rfl, tyX9_ok, nmX9, rfl, by decide +kernel⟩
theorem fX9_179 : k_fl RX9 179 9 15 := ⟨RX9, TX9, 19, rfl, by decide, inX9, (k_m4 26 rfl rfl), rfl⟩
theorem pX9_179 : k_fp RX9 179 9 15 := ⟨RX9, TX9, 19, tyX9, rfl, by decide, inX9, (k_m4 26 rfl rfl), rfl, tyX9_ok, nmX9, rfl, by decide +kernel⟩
theorem fX9_182 : k_fl RX9 182 9 16 := ⟨RX9, TX9, 19, rfl, by decide, inX9, (k_m4 27 rfl rfl), rfl⟩
theorem pX9_182 : k_fp RX9 182 9 16 := ⟨RX9, TX9, 19, tyX9, rfl, by decide, inX9, (k_m4 27 rfl rfl), rfl, tyX9_ok, nmX9, rfl, by decide +kernel⟩
theorem hX0_forget : Cond.code jX0_forget.1 jX0_forget.2.1 jX0_forget.2.2.1 jX0_forget.2.2.2.1 ∈ k_ws ∧ Cond.initialized jX0_forget.1.cls ∈ k_ws ∧ (jX0_forget.1.cls ≠ "java/lang/invoke/MethodHandle" ∧ jX0_forget.1.cls ≠ "java/lang/invoke/VarHandle" ∧ (parseMethodDescriptor jX0_forget.1.desc).map (fun d => d.parameters.length) = some 0) := ⟨(k_m2 135 rfl rfl), (k_m1 4 rfl rfl), by decide +kernel, by decide +kernel, by decide +kernel⟩
theorem vX0_forget : Cond.instanceMethod jX0_forget.1 ∈ k_ws ∧ Cond.selects jX0_forget.1.cls jX0_forget.1 jX0_forget.1 ∈ k_ws := ⟨(k_m2 133 rfl rfl), (k_m2 134 rfl rfl)⟩
theorem hX0_keep : Cond.code jX0_keep.1 jX0_keep.2.1 jX0_keep.2.2.1 jX0_keep.2.2.2.1 ∈ k_ws ∧ Cond.initialized jX0_keep.1.cls ∈ k_ws ∧ (jX0_keep.1.cls ≠ "java/lang/invoke/MethodHandle" ∧ jX0_keep.1.cls ≠ "java/lang/invoke/VarHandle" ∧ (parseMethodDescriptor jX0_keep.1.desc).map (fun d => d.parameters.length) = some 3) := ⟨(k_m2 211 rfl rfl), (k_m1 4 rfl rfl), by decide +kernel, by decide +kernel, by decide +kernel⟩
theorem vX0_keep : Cond.instanceMethod jX0_keep.1 ∈ k_ws ∧ Cond.selects jX0_keep.1.cls jX0_keep.1 jX0_keep.1 ∈ k_ws := ⟨(k_m2 209 rfl rfl), (k_m2 210 rfl rfl)⟩
theorem hX0_takeBack : Cond.code jX0_takeBack.1 jX0_takeBack.2.1 jX0_takeBack.2.2.1 jX0_takeBack.2.2.2.1 ∈ k_ws ∧ Cond.initialized jX0_takeBack.1.cls ∈ k_ws ∧ (jX0_takeBack.1.cls ≠ "java/lang/invoke/MethodHandle" ∧ jX0_takeBack.1.cls ≠ "java/lang/invoke/VarHandle" ∧ (parseMethodDescriptor jX0_takeBack.1.desc).map (fun d => d.parameters.length) = some 1) := ⟨(k_m3 40 rfl rfl), (k_m1 4 rfl rfl), by decide +kernel, by decide +kernel, by decide +kernel⟩
theorem vX0_takeBack : Cond.instanceMethod jX0_takeBack.1 ∈ k_ws ∧ Cond.selects jX0_takeBack.1.cls jX0_takeBack.1 jX0_takeBack.1 ∈ k_ws := ⟨(k_m3 38 rfl rfl), (k_m3 39 rfl rfl)⟩
theorem hX1_sing : Cond.code jX1_sing.1 jX1_sing.2.1 jX1_sing.2.2.1 jX1_sing.2.2.2.1 ∈ k_ws ∧ Cond.initialized jX1_sing.1.cls ∈ k_ws ∧ (jX1_sing.1.cls ≠ "java/lang/invoke/MethodHandle" ∧ jX1_sing.1.cls ≠ "java/lang/invoke/VarHandle" ∧ (parseMethodDescriptor jX1_sing.1.desc).map (fun d => d.parameters.length) = some 3) := ⟨(k_m2 228 rfl rfl), (k_m1 5 rfl rfl), by decide +kernel, by decide +kernel, by decide +kernel⟩
theorem vX1_sing : Cond.instanceMethod jX1_sing.1 ∈ k_ws ∧ Cond.selects jX1_sing.1.cls jX1_sing.1 jX1_sing.1 ∈ k_ws := ⟨(k_m2 226 rfl rfl), (k_m2 227 rfl rfl)⟩
theorem hX1_singAll : Cond.code jX1_singAll.1 jX1_singAll.2.1 jX1_singAll.2.2.1 jX1_singAll.2.2.2.1 ∈ k_ws ∧ Cond.initialized jX1_singAll.1.cls ∈ k_ws ∧ (jX1_singAll.1.cls ≠ "java/lang/invoke/MethodHandle" ∧ jX1_singAll.1.cls ≠ "java/lang/invoke/VarHandle" ∧ (parseMethodDescriptor jX1_singAll.1.desc).map (fun d => d.parameters.length) = some 1) := ⟨(k_m2 222 rfl rfl), (k_m1 5 rfl rfl), by decide +kernel, by decide +kernel, by decide +kernel⟩
theorem vX1_singAll : Cond.instanceMethod jX1_singAll.1 ∈ k_ws ∧ Cond.selects jX1_singAll.1.cls jX1_singAll.1 jX1_singAll.1 ∈ k_ws := ⟨(k_m2 220 rfl rfl), (k_m2 221 rfl rfl)⟩
theorem hX1_passHour : Cond.code jX1_passHour.1 jX1_passHour.2.1 jX1_passHour.2.2.1 jX1_passHour.2.2.2.1 ∈ k_ws ∧ Cond.initialized jX1_passHour.1.cls ∈ k_ws ∧ (jX1_passHour.1.cls ≠ "java/lang/invoke/MethodHandle" ∧ jX1_passHour.1.cls ≠ "java/lang/invoke/VarHandle" ∧ (parseMethodDescriptor jX1_passHour.1.desc).map (fun d => d.parameters.length) = some 1) := ⟨(k_m2 218 rfl rfl), (k_m1 5 rfl rfl), by decide +kernel, by decide +kernel, by decide +kernel⟩
theorem vX1_passHour : Cond.instanceMethod jX1_passHour.1 ∈ k_ws ∧ Cond.selects jX1_passHour.1.cls jX1_passHour.1 jX1_passHour.1 ∈ k_ws := ⟨(k_m2 216 rfl rfl), (k_m2 217 rfl rfl)⟩
theorem hX1_effortOf : Cond.code jX1_effortOf.1 jX1_effortOf.2.1 jX1_effortOf.2.2.1 jX1_effortOf.2.2.2.1 ∈ k_ws ∧ Cond.initialized jX1_effortOf.1.cls ∈ k_ws ∧ (jX1_effortOf.1.cls ≠ "java/lang/invoke/MethodHandle" ∧ jX1_effortOf.1.cls ≠ "java/lang/invoke/VarHandle" ∧ (parseMethodDescriptor jX1_effortOf.1.desc).map (fun d => d.parameters.length) = some 2) := ⟨(k_m3 89 rfl rfl), (k_m1 5 rfl rfl), by decide +kernel, by decide +kernel, by decide +kernel⟩
theorem vX1_effortOf : Cond.instanceMethod jX1_effortOf.1 ∈ k_ws ∧ Cond.selects jX1_effortOf.1.cls jX1_effortOf.1 jX1_effortOf.1 ∈ k_ws := ⟨(k_m3 87 rfl rfl), (k_m3 88 rfl rfl)⟩
theorem hX1_alone : Cond.code jX1_alone.1 jX1_alone.2.1 jX1_alone.2.2.1 jX1_alone.2.2.2.1 ∈ k_ws ∧ Cond.initialized jX1_alone.1.cls ∈ k_ws ∧ (jX1_alone.1.cls ≠ "java/lang/invoke/MethodHandle" ∧ jX1_alone.1.cls ≠ "java/lang/invoke/VarHandle" ∧ (parseMethodDescriptor jX1_alone.1.desc).map (fun d => d.parameters.length) = some 3) := ⟨(k_m3 217 rfl rfl), (k_m1 5 rfl rfl), by decide +kernel, by decide +kernel, by decide +kernel⟩
theorem vX1_alone : Cond.instanceMethod jX1_alone.1 ∈ k_ws ∧ Cond.selects jX1_alone.1.cls jX1_alone.1 jX1_alone.1 ∈ k_ws := ⟨(k_m3 215 rfl rfl), (k_m3 216 rfl rfl)⟩
theorem hX1_choose : Cond.code jX1_choose.1 jX1_choose.2.1 jX1_choose.2.2.1 jX1_choose.2.2.2.1 ∈ k_ws ∧ Cond.initialized jX1_choose.1.cls ∈ k_ws ∧ (jX1_choose.1.cls ≠ "java/lang/invoke/MethodHandle" ∧ jX1_choose.1.cls ≠ "java/lang/invoke/VarHandle" ∧ (parseMethodDescriptor jX1_choose.1.desc).map (fun d => d.parameters.length) = some 3) := ⟨(k_m3 2 rfl rfl), (k_m1 5 rfl rfl), by decide +kernel, by decide +kernel, by decide +kernel⟩
theorem sX1_choose : Cond.static jX1_choose.1 ∈ k_ws := (k_m3 1 rfl rfl)
theorem hX1_firstOf : Cond.code jX1_firstOf.1 jX1_firstOf.2.1 jX1_firstOf.2.2.1 jX1_firstOf.2.2.2.1 ∈ k_ws ∧ Cond.initialized jX1_firstOf.1.cls ∈ k_ws ∧ (jX1_firstOf.1.cls ≠ "java/lang/invoke/MethodHandle" ∧ jX1_firstOf.1.cls ≠ "java/lang/invoke/VarHandle" ∧ (parseMethodDescriptor jX1_firstOf.1.desc).map (fun d => d.parameters.length) = some 4) := ⟨(k_m3 14 rfl rfl), (k_m1 5 rfl rfl), by decide +kernel, by decide +kernel, by decide +kernel⟩
theorem sX1_firstOf : Cond.static jX1_firstOf.1 ∈ k_ws := (k_m3 13 rfl rfl)
theorem hX1_above : Cond.code jX1_above.1 jX1_above.2.1 jX1_above.2.2.1 jX1_above.2.2.2.1 ∈ k_ws ∧ Cond.initialized jX1_above.1.cls ∈ k_ws ∧ (jX1_above.1.cls ≠ "java/lang/invoke/MethodHandle" ∧ jX1_above.1.cls ≠ "java/lang/invoke/VarHandle" ∧ (parseMethodDescriptor jX1_above.1.desc).map (fun d => d.parameters.length) = some 2) := ⟨(k_m3 8 rfl rfl), (k_m1 5 rfl rfl), by decide +kernel, by decide +kernel, by decide +kernel⟩
theorem sX1_above : Cond.static jX1_above.1 ∈ k_ws := (k_m3 7 rfl rfl)
theorem hX1_least : Cond.code jX1_least.1 jX1_least.2.1 jX1_least.2.2.1 jX1_least.2.2.2.1 ∈ k_ws ∧ Cond.initialized jX1_least.1.cls ∈ k_ws ∧ (jX1_least.1.cls ≠ "java/lang/invoke/MethodHandle" ∧ jX1_least.1.cls ≠ "java/lang/invoke/VarHandle" ∧ (parseMethodDescriptor jX1_least.1.desc).map (fun d => d.parameters.length) = some 1) := ⟨(k_m3 11 rfl rfl), (k_m1 5 rfl rfl), by decide +kernel, by decide +kernel, by decide +kernel⟩
theorem sX1_least : Cond.static jX1_least.1 ∈ k_ws := (k_m3 10 rfl rfl)
theorem hX1_greatest : Cond.code jX1_greatest.1 jX1_greatest.2.1 jX1_greatest.2.2.1 jX1_greatest.2.2.2.1 ∈ k_ws ∧ Cond.initialized jX1_greatest.1.cls ∈ k_ws ∧ (jX1_greatest.1.cls ≠ "java/lang/invoke/MethodHandle" ∧ jX1_greatest.1.cls ≠ "java/lang/invoke/VarHandle" ∧ (parseMethodDescriptor jX1_greatest.1.desc).map (fun d => d.parameters.length) = some 1) := ⟨(k_m3 5 rfl rfl), (k_m1 5 rfl rfl), by decide +kernel, by decide +kernel, by decide +kernel⟩
theorem sX1_greatest : Cond.static jX1_greatest.1 ∈ k_ws := (k_m3 4 rfl rfl)
theorem hX2_learn : Cond.code jX2_learn.1 jX2_learn.2.1 jX2_learn.2.2.1 jX2_learn.2.2.2.1 ∈ k_ws ∧ Cond.initialized jX2_learn.1.cls ∈ k_ws ∧ (jX2_learn.1.cls ≠ "java/lang/invoke/MethodHandle" ∧ jX2_learn.1.cls ≠ "java/lang/invoke/VarHandle" ∧ (parseMethodDescriptor jX2_learn.1.desc).map (fun d => d.parameters.length) = some 1) := ⟨(k_m2 121 rfl rfl), (k_m1 6 rfl rfl), by decide +kernel, by decide +kernel, by decide +kernel⟩
theorem vX2_learn : Cond.instanceMethod jX2_learn.1 ∈ k_ws ∧ Cond.selects jX2_learn.1.cls jX2_learn.1 jX2_learn.1 ∈ k_ws := ⟨(k_m2 119 rfl rfl), (k_m2 120 rfl rfl)⟩
theorem hX2_learnShape : Cond.code jX2_learnShape.1 jX2_learnShape.2.1 jX2_learnShape.2.2.1 jX2_learnShape.2.2.2.1 ∈ k_ws ∧ Cond.initialized jX2_learnShape.1.cls ∈ k_ws ∧ (jX2_learnShape.1.cls ≠ "java/lang/invoke/MethodHandle" ∧ jX2_learnShape.1.cls ≠ "java/lang/invoke/VarHandle" ∧ (parseMethodDescriptor jX2_learnShape.1.desc).map (fun d => d.parameters.length) = some 2) := ⟨(k_m2 127 rfl rfl), (k_m1 6 rfl rfl), by decide +kernel, by decide +kernel, by decide +kernel⟩
theorem vX2_learnShape : Cond.instanceMethod jX2_learnShape.1 ∈ k_ws ∧ Cond.selects jX2_learnShape.1.cls jX2_learnShape.1 jX2_learnShape.1 ∈ k_ws := ⟨(k_m2 126 rfl rfl), (k_mp 12 rfl rfl)⟩
theorem hX2_claimParts : Cond.code jX2_claimParts.1 jX2_claimParts.2.1 jX2_claimParts.2.2.1 jX2_claimParts.2.2.2.1 ∈ k_ws ∧ Cond.initialized jX2_claimParts.1.cls ∈ k_ws ∧ (jX2_claimParts.1.cls ≠ "java/lang/invoke/MethodHandle" ∧ jX2_claimParts.1.cls ≠ "java/lang/invoke/VarHandle" ∧ (parseMethodDescriptor jX2_claimParts.1.desc).map (fun d => d.parameters.length) = some 1) := ⟨(k_m2 131 rfl rfl), (k_m1 6 rfl rfl), by decide +kernel, by decide +kernel, by decide +kernel⟩
theorem vX2_claimParts : Cond.instanceMethod jX2_claimParts.1 ∈ k_ws ∧ Cond.selects jX2_claimParts.1.cls jX2_claimParts.1 jX2_claimParts.1 ∈ k_ws := ⟨(k_m2 130 rfl rfl), (k_mp 13 rfl rfl)⟩
theorem hX2_isThere : Cond.code jX2_isThere.1 jX2_isThere.2.1 jX2_isThere.2.2.1 jX2_isThere.2.2.2.1 ∈ k_ws ∧ Cond.initialized jX2_isThere.1.cls ∈ k_ws ∧ (jX2_isThere.1.cls ≠ "java/lang/invoke/MethodHandle" ∧ jX2_isThere.1.cls ≠ "java/lang/invoke/VarHandle" ∧ (parseMethodDescriptor jX2_isThere.1.desc).map (fun d => d.parameters.length) = some 1) := ⟨(k_m2 163 rfl rfl), (k_m1 6 rfl rfl), by decide +kernel, by decide +kernel, by decide +kernel⟩
theorem vX2_isThere : Cond.instanceMethod jX2_isThere.1 ∈ k_ws ∧ Cond.selects jX2_isThere.1.cls jX2_isThere.1 jX2_isThere.1 ∈ k_ws := ⟨(k_m2 161 rfl rfl), (k_m2 162 rfl rfl)⟩
theorem hX2_shapeOf : Cond.code jX2_shapeOf.1 jX2_shapeOf.2.1 jX2_shapeOf.2.2.1 jX2_shapeOf.2.2.2.1 ∈ k_ws ∧ Cond.initialized jX2_shapeOf.1.cls ∈ k_ws ∧ (jX2_shapeOf.1.cls ≠ "java/lang/invoke/MethodHandle" ∧ jX2_shapeOf.1.cls ≠ "java/lang/invoke/VarHandle" ∧ (parseMethodDescriptor jX2_shapeOf.1.desc).map (fun d => d.parameters.length) = some 1) := ⟨(k_m2 159 rfl rfl), (k_m1 6 rfl rfl), by decide +kernel, by decide +kernel, by decide +kernel⟩
theorem vX2_shapeOf : Cond.instanceMethod jX2_shapeOf.1 ∈ k_ws ∧ Cond.selects jX2_shapeOf.1.cls jX2_shapeOf.1 jX2_shapeOf.1 ∈ k_ws := ⟨(k_m2 157 rfl rfl), (k_m2 158 rfl rfl)⟩
theorem hX2_rootOf : Cond.code jX2_rootOf.1 jX2_rootOf.2.1 jX2_rootOf.2.2.1 jX2_rootOf.2.2.2.1 ∈ k_ws ∧ Cond.initialized jX2_rootOf.1.cls ∈ k_ws ∧ (jX2_rootOf.1.cls ≠ "java/lang/invoke/MethodHandle" ∧ jX2_rootOf.1.cls ≠ "java/lang/invoke/VarHandle" ∧ (parseMethodDescriptor jX2_rootOf.1.desc).map (fun d => d.parameters.length) = some 1) := ⟨(k_m2 167 rfl rfl), (k_m1 6 rfl rfl), by decide +kernel, by decide +kernel, by decide +kernel⟩
theorem vX2_rootOf : Cond.instanceMethod jX2_rootOf.1 ∈ k_ws ∧ Cond.selects jX2_rootOf.1.cls jX2_rootOf.1 jX2_rootOf.1 ∈ k_ws := ⟨(k_m2 165 rfl rfl), (k_m2 166 rfl rfl)⟩
theorem hX2_missingOf : Cond.code jX2_missingOf.1 jX2_missingOf.2.1 jX2_missingOf.2.2.1 jX2_missingOf.2.2.2.1 ∈ k_ws ∧ Cond.initialized jX2_missingOf.1.cls ∈ k_ws ∧ (jX2_missingOf.1.cls ≠ "java/lang/invoke/MethodHandle" ∧ jX2_missingOf.1.cls ≠ "java/lang/invoke/VarHandle" ∧ (parseMethodDescriptor jX2_missingOf.1.desc).map (fun d => d.parameters.length) = some 1) := ⟨(k_m2 171 rfl rfl), (k_m1 6 rfl rfl), by decide +kernel, by decide +kernel, by decide +kernel⟩
theorem vX2_missingOf : Cond.instanceMethod jX2_missingOf.1 ∈ k_ws ∧ Cond.selects jX2_missingOf.1.cls jX2_missingOf.1 jX2_missingOf.1 ∈ k_ws := ⟨(k_m2 169 rfl rfl), (k_m2 170 rfl rfl)⟩
theorem hX3_listen : Cond.code jX3_listen.1 jX3_listen.2.1 jX3_listen.2.2.1 jX3_listen.2.2.2.1 ∈ k_ws ∧ Cond.initialized jX3_listen.1.cls ∈ k_ws ∧ (jX3_listen.1.cls ≠ "java/lang/invoke/MethodHandle" ∧ jX3_listen.1.cls ≠ "java/lang/invoke/VarHandle" ∧ (parseMethodDescriptor jX3_listen.1.desc).map (fun d => d.parameters.length) = some 5) := ⟨(k_m3 207 rfl rfl), (k_m1 8 rfl rfl), by decide +kernel, by decide +kernel, by decide +kernel⟩
theorem vX3_listen : Cond.instanceMethod jX3_listen.1 ∈ k_ws ∧ Cond.selects jX3_listen.1.cls jX3_listen.1 jX3_listen.1 ∈ k_ws := ⟨(k_m3 205 rfl rfl), (k_m3 206 rfl rfl)⟩
theorem hX3_bestToHear : Cond.code jX3_bestToHear.1 jX3_bestToHear.2.1 jX3_bestToHear.2.2.1 jX3_bestToHear.2.2.2.1 ∈ k_ws ∧ Cond.initialized jX3_bestToHear.1.cls ∈ k_ws ∧ (jX3_bestToHear.1.cls ≠ "java/lang/invoke/MethodHandle" ∧ jX3_bestToHear.1.cls ≠ "java/lang/invoke/VarHandle" ∧ (parseMethodDescriptor jX3_bestToHear.1.desc).map (fun d => d.parameters.length) = some 1) := ⟨(k_m3 225 rfl rfl), (k_m1 8 rfl rfl), by decide +kernel, by decide +kernel, by decide +kernel⟩
theorem vX3_bestToHear : Cond.instanceMethod jX3_bestToHear.1 ∈ k_ws ∧ Cond.selects jX3_bestToHear.1.cls jX3_bestToHear.1 jX3_bestToHear.1 ∈ k_ws := ⟨(k_m3 223 rfl rfl), (k_m3 224 rfl rfl)⟩
theorem hX3_agrees : Cond.code jX3_agrees.1 jX3_agrees.2.1 jX3_agrees.2.2.1 jX3_agrees.2.2.2.1 ∈ k_ws ∧ Cond.initialized jX3_agrees.1.cls ∈ k_ws ∧ (jX3_agrees.1.cls ≠ "java/lang/invoke/MethodHandle" ∧ jX3_agrees.1.cls ≠ "java/lang/invoke/VarHandle" ∧ (parseMethodDescriptor jX3_agrees.1.desc).map (fun d => d.parameters.length) = some 4) := ⟨(k_m3 212 rfl rfl), (k_m1 8 rfl rfl), by decide +kernel, by decide +kernel, by decide +kernel⟩
theorem vX3_agrees : Cond.instanceMethod jX3_agrees.1 ∈ k_ws ∧ Cond.selects jX3_agrees.1.cls jX3_agrees.1 jX3_agrees.1 ∈ k_ws := ⟨(k_m3 211 rfl rfl), (k_mp 21 rfl rfl)⟩
theorem hX3_sort : Cond.code jX3_sort.1 jX3_sort.2.1 jX3_sort.2.2.1 jX3_sort.2.2.2.1 ∈ k_ws ∧ Cond.initialized jX3_sort.1.cls ∈ k_ws ∧ (jX3_sort.1.cls ≠ "java/lang/invoke/MethodHandle" ∧ jX3_sort.1.cls ≠ "java/lang/invoke/VarHandle" ∧ (parseMethodDescriptor jX3_sort.1.desc).map (fun d => d.parameters.length) = some 3) := ⟨(k_m3 221 rfl rfl), (k_m1 8 rfl rfl), by decide +kernel, by decide +kernel, by decide +kernel⟩
theorem vX3_sort : Cond.instanceMethod jX3_sort.1 ∈ k_ws ∧ Cond.selects jX3_sort.1.cls jX3_sort.1 jX3_sort.1 ∈ k_ws := ⟨(k_m3 220 rfl rfl), (k_mp 22 rfl rfl)⟩
theorem hX4_isThere : Cond.code jX4_isThere.1 jX4_isThere.2.1 jX4_isThere.2.2.1 jX4_isThere.2.2.2.1 ∈ k_ws ∧ Cond.initialized jX4_isThere.1.cls ∈ k_ws ∧ (jX4_isThere.1.cls ≠ "java/lang/invoke/MethodHandle" ∧ jX4_isThere.1.cls ≠ "java/lang/invoke/VarHandle" ∧ (parseMethodDescriptor jX4_isThere.1.desc).map (fun d => d.parameters.length) = some 0) := ⟨(k_m3 165 rfl rfl), (k_m1 9 rfl rfl), by decide +kernel, by decide +kernel, by decide +kernel⟩
theorem vX4_isThere : Cond.instanceMethod jX4_isThere.1 ∈ k_ws ∧ Cond.selects jX4_isThere.1.cls jX4_isThere.1 jX4_isThere.1 ∈ k_ws := ⟨(k_m3 163 rfl rfl), (k_m3 164 rfl rfl)⟩
theorem hX4_begin : Cond.code jX4_begin.1 jX4_begin.2.1 jX4_begin.2.2.1 jX4_begin.2.2.2.1 ∈ k_ws ∧ Cond.initialized jX4_begin.1.cls ∈ k_ws ∧ (jX4_begin.1.cls ≠ "java/lang/invoke/MethodHandle" ∧ jX4_begin.1.cls ≠ "java/lang/invoke/VarHandle" ∧ (parseMethodDescriptor jX4_begin.1.desc).map (fun d => d.parameters.length) = some 2) := ⟨(k_m3 154 rfl rfl), (k_m1 9 rfl rfl), by decide +kernel, by decide +kernel, by decide +kernel⟩
theorem vX4_begin : Cond.instanceMethod jX4_begin.1 ∈ k_ws ∧ Cond.selects jX4_begin.1.cls jX4_begin.1 jX4_begin.1 ∈ k_ws := ⟨(k_m3 152 rfl rfl), (k_m3 153 rfl rfl)⟩
theorem hX4_end : Cond.code jX4_end.1 jX4_end.2.1 jX4_end.2.2.1 jX4_end.2.2.2.1 ∈ k_ws ∧ Cond.initialized jX4_end.1.cls ∈ k_ws ∧ (jX4_end.1.cls ≠ "java/lang/invoke/MethodHandle" ∧ jX4_end.1.cls ≠ "java/lang/invoke/VarHandle" ∧ (parseMethodDescriptor jX4_end.1.desc).map (fun d => d.parameters.length) = some 0) := ⟨(k_m3 169 rfl rfl), (k_m1 9 rfl rfl), by decide +kernel, by decide +kernel, by decide +kernel⟩
theorem vX4_end : Cond.instanceMethod jX4_end.1 ∈ k_ws ∧ Cond.selects jX4_end.1.cls jX4_end.1 jX4_end.1 ∈ k_ws := ⟨(k_m3 167 rfl rfl), (k_m3 168 rfl rfl)⟩
theorem hX4_holds : Cond.code jX4_holds.1 jX4_holds.2.1 jX4_holds.2.2.1 jX4_holds.2.2.2.1 ∈ k_ws ∧ Cond.initialized jX4_holds.1.cls ∈ k_ws ∧ (jX4_holds.1.cls ≠ "java/lang/invoke/MethodHandle" ∧ jX4_holds.1.cls ≠ "java/lang/invoke/VarHandle" ∧ (parseMethodDescriptor jX4_holds.1.desc).map (fun d => d.parameters.length) = some 2) := ⟨(k_m3 181 rfl rfl), (k_m1 9 rfl rfl), by decide +kernel, by decide +kernel, by decide +kernel⟩
theorem vX4_holds : Cond.instanceMethod jX4_holds.1 ∈ k_ws ∧ Cond.selects jX4_holds.1.cls jX4_holds.1 jX4_holds.1 ∈ k_ws := ⟨(k_m3 179 rfl rfl), (k_m3 180 rfl rfl)⟩
theorem hX4_holdsPairs : Cond.code jX4_holdsPairs.1 jX4_holdsPairs.2.1 jX4_holdsPairs.2.2.1 jX4_holdsPairs.2.2.2.1 ∈ k_ws ∧ Cond.initialized jX4_holdsPairs.1.cls ∈ k_ws ∧ (jX4_holdsPairs.1.cls ≠ "java/lang/invoke/MethodHandle" ∧ jX4_holdsPairs.1.cls ≠ "java/lang/invoke/VarHandle" ∧ (parseMethodDescriptor jX4_holdsPairs.1.desc).map (fun d => d.parameters.length) = some 3) := ⟨(k_m3 202 rfl rfl), (k_m1 9 rfl rfl), by decide +kernel, by decide +kernel, by decide +kernel⟩
theorem vX4_holdsPairs : Cond.instanceMethod jX4_holdsPairs.1 ∈ k_ws ∧ Cond.selects jX4_holdsPairs.1.cls jX4_holdsPairs.1 jX4_holdsPairs.1 ∈ k_ws := ⟨(k_m3 200 rfl rfl), (k_m3 201 rfl rfl)⟩
theorem hX4_put : Cond.code jX4_put.1 jX4_put.2.1 jX4_put.2.2.1 jX4_put.2.2.2.1 ∈ k_ws ∧ Cond.initialized jX4_put.1.cls ∈ k_ws ∧ (jX4_put.1.cls ≠ "java/lang/invoke/MethodHandle" ∧ jX4_put.1.cls ≠ "java/lang/invoke/VarHandle" ∧ (parseMethodDescriptor jX4_put.1.desc).map (fun d => d.parameters.length) = some 2) := ⟨(k_m3 185 rfl rfl), (k_m1 9 rfl rfl), by decide +kernel, by decide +kernel, by decide +kernel⟩
theorem vX4_put : Cond.instanceMethod jX4_put.1 ∈ k_ws ∧ Cond.selects jX4_put.1.cls jX4_put.1 jX4_put.1 ∈ k_ws := ⟨(k_m3 183 rfl rfl), (k_m3 184 rfl rfl)⟩
theorem hX5_find : Cond.code jX5_find.1 jX5_find.2.1 jX5_find.2.2.1 jX5_find.2.2.2.1 ∈ k_ws ∧ Cond.initialized jX5_find.1.cls ∈ k_ws ∧ (jX5_find.1.cls ≠ "java/lang/invoke/MethodHandle" ∧ jX5_find.1.cls ≠ "java/lang/invoke/VarHandle" ∧ (parseMethodDescriptor jX5_find.1.desc).map (fun d => d.parameters.length) = some 2) := ⟨(k_m3 80 rfl rfl), (k_m1 7 rfl rfl), by decide +kernel, by decide +kernel, by decide +kernel⟩
theorem vX5_find : Cond.instanceMethod jX5_find.1 ∈ k_ws ∧ Cond.selects jX5_find.1.cls jX5_find.1 jX5_find.1 ∈ k_ws := ⟨(k_m3 78 rfl rfl), (k_m3 79 rfl rfl)⟩
theorem hX5_fullFields : Cond.code jX5_fullFields.1 jX5_fullFields.2.1 jX5_fullFields.2.2.1 jX5_fullFields.2.2.2.1 ∈ k_ws ∧ Cond.initialized jX5_fullFields.1.cls ∈ k_ws ∧ (jX5_fullFields.1.cls ≠ "java/lang/invoke/MethodHandle" ∧ jX5_fullFields.1.cls ≠ "java/lang/invoke/VarHandle" ∧ (parseMethodDescriptor jX5_fullFields.1.desc).map (fun d => d.parameters.length) = some 0) := ⟨(k_m3 106 rfl rfl), (k_m1 7 rfl rfl), by decide +kernel, by decide +kernel, by decide +kernel⟩
theorem vX5_fullFields : Cond.instanceMethod jX5_fullFields.1 ∈ k_ws ∧ Cond.selects jX5_fullFields.1.cls jX5_fullFields.1 jX5_fullFields.1 ∈ k_ws := ⟨(k_m3 104 rfl rfl), (k_m3 105 rfl rfl)⟩
theorem hX5_bestPlace : Cond.code jX5_bestPlace.1 jX5_bestPlace.2.1 jX5_bestPlace.2.2.1 jX5_bestPlace.2.2.2.1 ∈ k_ws ∧ Cond.initialized jX5_bestPlace.1.cls ∈ k_ws ∧ (jX5_bestPlace.1.cls ≠ "java/lang/invoke/MethodHandle" ∧ jX5_bestPlace.1.cls ≠ "java/lang/invoke/VarHandle" ∧ (parseMethodDescriptor jX5_bestPlace.1.desc).map (fun d => d.parameters.length) = some 1) := ⟨(k_m3 110 rfl rfl), (k_m1 7 rfl rfl), by decide +kernel, by decide +kernel, by decide +kernel⟩
theorem vX5_bestPlace : Cond.instanceMethod jX5_bestPlace.1 ∈ k_ws ∧ Cond.selects jX5_bestPlace.1.cls jX5_bestPlace.1 jX5_bestPlace.1 ∈ k_ws := ⟨(k_m3 108 rfl rfl), (k_m3 109 rfl rfl)⟩
theorem hX5_weigh : Cond.code jX5_weigh.1 jX5_weigh.2.1 jX5_weigh.2.2.1 jX5_weigh.2.2.2.1 ∈ k_ws ∧ Cond.initialized jX5_weigh.1.cls ∈ k_ws ∧ (jX5_weigh.1.cls ≠ "java/lang/invoke/MethodHandle" ∧ jX5_weigh.1.cls ≠ "java/lang/invoke/VarHandle" ∧ (parseMethodDescriptor jX5_weigh.1.desc).map (fun d => d.parameters.length) = some 2) := ⟨(k_m3 84 rfl rfl), (k_m1 7 rfl rfl), by decide +kernel, by decide +kernel, by decide +kernel⟩
theorem vX5_weigh : Cond.instanceMethod jX5_weigh.1 ∈ k_ws ∧ Cond.selects jX5_weigh.1.cls jX5_weigh.1 jX5_weigh.1 ∈ k_ws := ⟨(k_m3 83 rfl rfl), (k_mp 17 rfl rfl)⟩
theorem hX5_worthOfAll : Cond.code jX5_worthOfAll.1 jX5_worthOfAll.2.1 jX5_worthOfAll.2.2.1 jX5_worthOfAll.2.2.2.1 ∈ k_ws ∧ Cond.initialized jX5_worthOfAll.1.cls ∈ k_ws ∧ (jX5_worthOfAll.1.cls ≠ "java/lang/invoke/MethodHandle" ∧ jX5_worthOfAll.1.cls ≠ "java/lang/invoke/VarHandle" ∧ (parseMethodDescriptor jX5_worthOfAll.1.desc).map (fun d => d.parameters.length) = some 0) := ⟨(k_m3 97 rfl rfl), (k_m1 7 rfl rfl), by decide +kernel, by decide +kernel, by decide +kernel⟩
theorem vX5_worthOfAll : Cond.instanceMethod jX5_worthOfAll.1 ∈ k_ws ∧ Cond.selects jX5_worthOfAll.1.cls jX5_worthOfAll.1 jX5_worthOfAll.1 ∈ k_ws := ⟨(k_m3 96 rfl rfl), (k_mp 18 rfl rfl)⟩
theorem hX5_turn : Cond.code jX5_turn.1 jX5_turn.2.1 jX5_turn.2.2.1 jX5_turn.2.2.2.1 ∈ k_ws ∧ Cond.initialized jX5_turn.1.cls ∈ k_ws ∧ (jX5_turn.1.cls ≠ "java/lang/invoke/MethodHandle" ∧ jX5_turn.1.cls ≠ "java/lang/invoke/VarHandle" ∧ (parseMethodDescriptor jX5_turn.1.desc).map (fun d => d.parameters.length) = some 1) := ⟨(k_m3 102 rfl rfl), (k_m1 7 rfl rfl), by decide +kernel, by decide +kernel, by decide +kernel⟩
theorem vX5_turn : Cond.instanceMethod jX5_turn.1 ∈ k_ws ∧ Cond.selects jX5_turn.1.cls jX5_turn.1 jX5_turn.1 ∈ k_ws := ⟨(k_m3 101 rfl rfl), (k_mp 19 rfl rfl)⟩
theorem hX6_put : Cond.code jX6_put.1 jX6_put.2.1 jX6_put.2.2.1 jX6_put.2.2.2.1 ∈ k_ws ∧ Cond.initialized jX6_put.1.cls ∈ k_ws ∧ (jX6_put.1.cls ≠ "java/lang/invoke/MethodHandle" ∧ jX6_put.1.cls ≠ "java/lang/invoke/VarHandle" ∧ (parseMethodDescriptor jX6_put.1.desc).map (fun d => d.parameters.length) = some 1) := ⟨(k_m2 40 rfl rfl), (k_m1 2 rfl rfl), by decide +kernel, by decide +kernel, by decide +kernel⟩
theorem vX6_put : Cond.instanceMethod jX6_put.1 ∈ k_ws ∧ Cond.selects jX6_put.1.cls jX6_put.1 jX6_put.1 ∈ k_ws := ⟨(k_m2 38 rfl rfl), (k_m2 39 rfl rfl)⟩
theorem hX6_readValley : Cond.code jX6_readValley.1 jX6_readValley.2.1 jX6_readValley.2.2.1 jX6_readValley.2.2.2.1 ∈ k_ws ∧ Cond.initialized jX6_readValley.1.cls ∈ k_ws ∧ (jX6_readValley.1.cls ≠ "java/lang/invoke/MethodHandle" ∧ jX6_readValley.1.cls ≠ "java/lang/invoke/VarHandle" ∧ (parseMethodDescriptor jX6_readValley.1.desc).map (fun d => d.parameters.length) = some 1) := ⟨(k_m2 48 rfl rfl), (k_m1 2 rfl rfl), by decide +kernel, by decide +kernel, by decide +kernel⟩
theorem vX6_readValley : Cond.instanceMethod jX6_readValley.1 ∈ k_ws ∧ Cond.selects jX6_readValley.1.cls jX6_readValley.1 jX6_readValley.1 ∈ k_ws := ⟨(k_m2 46 rfl rfl), (k_m2 47 rfl rfl)⟩
theorem hX6_peek : Cond.code jX6_peek.1 jX6_peek.2.1 jX6_peek.2.2.1 jX6_peek.2.2.2.1 ∈ k_ws ∧ Cond.initialized jX6_peek.1.cls ∈ k_ws ∧ (jX6_peek.1.cls ≠ "java/lang/invoke/MethodHandle" ∧ jX6_peek.1.cls ≠ "java/lang/invoke/VarHandle" ∧ (parseMethodDescriptor jX6_peek.1.desc).map (fun d => d.parameters.length) = some 0) := ⟨(k_m2 63 rfl rfl), (k_m1 2 rfl rfl), by decide +kernel, by decide +kernel, by decide +kernel⟩
theorem vX6_peek : Cond.instanceMethod jX6_peek.1 ∈ k_ws ∧ Cond.selects jX6_peek.1.cls jX6_peek.1 jX6_peek.1 ∈ k_ws := ⟨(k_m2 62 rfl rfl), (k_mp 1 rfl rfl)⟩
theorem hX6_take : Cond.code jX6_take.1 jX6_take.2.1 jX6_take.2.2.1 jX6_take.2.2.2.1 ∈ k_ws ∧ Cond.initialized jX6_take.1.cls ∈ k_ws ∧ (jX6_take.1.cls ≠ "java/lang/invoke/MethodHandle" ∧ jX6_take.1.cls ≠ "java/lang/invoke/VarHandle" ∧ (parseMethodDescriptor jX6_take.1.desc).map (fun d => d.parameters.length) = some 1) := ⟨(k_m2 59 rfl rfl), (k_m1 2 rfl rfl), by decide +kernel, by decide +kernel, by decide +kernel⟩
theorem vX6_take : Cond.instanceMethod jX6_take.1 ∈ k_ws ∧ Cond.selects jX6_take.1.cls jX6_take.1 jX6_take.1 ∈ k_ws := ⟨(k_m2 58 rfl rfl), (k_mp 0 rfl rfl)⟩
theorem hX6_peekPitch : Cond.code jX6_peekPitch.1 jX6_peekPitch.2.1 jX6_peekPitch.2.2.1 jX6_peekPitch.2.2.2.1 ∈ k_ws ∧ Cond.initialized jX6_peekPitch.1.cls ∈ k_ws ∧ (jX6_peekPitch.1.cls ≠ "java/lang/invoke/MethodHandle" ∧ jX6_peekPitch.1.cls ≠ "java/lang/invoke/VarHandle" ∧ (parseMethodDescriptor jX6_peekPitch.1.desc).map (fun d => d.parameters.length) = some 0) := ⟨(k_m2 75 rfl rfl), (k_m1 2 rfl rfl), by decide +kernel, by decide +kernel, by decide +kernel⟩
theorem vX6_peekPitch : Cond.instanceMethod jX6_peekPitch.1 ∈ k_ws ∧ Cond.selects jX6_peekPitch.1.cls jX6_peekPitch.1 jX6_peekPitch.1 ∈ k_ws := ⟨(k_m2 74 rfl rfl), (k_mp 4 rfl rfl)⟩
theorem hX6_takeRising : Cond.code jX6_takeRising.1 jX6_takeRising.2.1 jX6_takeRising.2.2.1 jX6_takeRising.2.2.2.1 ∈ k_ws ∧ Cond.initialized jX6_takeRising.1.cls ∈ k_ws ∧ (jX6_takeRising.1.cls ≠ "java/lang/invoke/MethodHandle" ∧ jX6_takeRising.1.cls ≠ "java/lang/invoke/VarHandle" ∧ (parseMethodDescriptor jX6_takeRising.1.desc).map (fun d => d.parameters.length) = some 1) := ⟨(k_m2 79 rfl rfl), (k_m1 2 rfl rfl), by decide +kernel, by decide +kernel, by decide +kernel⟩
theorem vX6_takeRising : Cond.instanceMethod jX6_takeRising.1 ∈ k_ws ∧ Cond.selects jX6_takeRising.1.cls jX6_takeRising.1 jX6_takeRising.1 ∈ k_ws := ⟨(k_m2 78 rfl rfl), (k_mp 5 rfl rfl)⟩
theorem hX6_readShapes : Cond.code jX6_readShapes.1 jX6_readShapes.2.1 jX6_readShapes.2.2.1 jX6_readShapes.2.2.2.1 ∈ k_ws ∧ Cond.initialized jX6_readShapes.1.cls ∈ k_ws ∧ (jX6_readShapes.1.cls ≠ "java/lang/invoke/MethodHandle" ∧ jX6_readShapes.1.cls ≠ "java/lang/invoke/VarHandle" ∧ (parseMethodDescriptor jX6_readShapes.1.desc).map (fun d => d.parameters.length) = some 1) := ⟨(k_m2 67 rfl rfl), (k_m1 2 rfl rfl), by decide +kernel, by decide +kernel, by decide +kernel⟩
theorem vX6_readShapes : Cond.instanceMethod jX6_readShapes.1 ∈ k_ws ∧ Cond.selects jX6_readShapes.1.cls jX6_readShapes.1 jX6_readShapes.1 ∈ k_ws := ⟨(k_m2 66 rfl rfl), (k_mp 2 rfl rfl)⟩
theorem hX6_readShape : Cond.code jX6_readShape.1 jX6_readShape.2.1 jX6_readShape.2.2.1 jX6_readShape.2.2.2.1 ∈ k_ws ∧ Cond.initialized jX6_readShape.1.cls ∈ k_ws ∧ (jX6_readShape.1.cls ≠ "java/lang/invoke/MethodHandle" ∧ jX6_readShape.1.cls ≠ "java/lang/invoke/VarHandle" ∧ (parseMethodDescriptor jX6_readShape.1.desc).map (fun d => d.parameters.length) = some 2) := ⟨(k_m2 71 rfl rfl), (k_m1 2 rfl rfl), by decide +kernel, by decide +kernel, by decide +kernel⟩
theorem vX6_readShape : Cond.instanceMethod jX6_readShape.1 ∈ k_ws ∧ Cond.selects jX6_readShape.1.cls jX6_readShape.1 jX6_readShape.1 ∈ k_ws := ⟨(k_m2 70 rfl rfl), (k_mp 3 rfl rfl)⟩
theorem hX6_readFields : Cond.code jX6_readFields.1 jX6_readFields.2.1 jX6_readFields.2.2.1 jX6_readFields.2.2.2.1 ∈ k_ws ∧ Cond.initialized jX6_readFields.1.cls ∈ k_ws ∧ (jX6_readFields.1.cls ≠ "java/lang/invoke/MethodHandle" ∧ jX6_readFields.1.cls ≠ "java/lang/invoke/VarHandle" ∧ (parseMethodDescriptor jX6_readFields.1.desc).map (fun d => d.parameters.length) = some 1) := ⟨(k_m2 89 rfl rfl), (k_m1 2 rfl rfl), by decide +kernel, by decide +kernel, by decide +kernel⟩
theorem vX6_readFields : Cond.instanceMethod jX6_readFields.1 ∈ k_ws ∧ Cond.selects jX6_readFields.1.cls jX6_readFields.1 jX6_readFields.1 ∈ k_ws := ⟨(k_m2 88 rfl rfl), (k_mp 6 rfl rfl)⟩
theorem hX6_readSingers : Cond.code jX6_readSingers.1 jX6_readSingers.2.1 jX6_readSingers.2.2.1 jX6_readSingers.2.2.2.1 ∈ k_ws ∧ Cond.initialized jX6_readSingers.1.cls ∈ k_ws ∧ (jX6_readSingers.1.cls ≠ "java/lang/invoke/MethodHandle" ∧ jX6_readSingers.1.cls ≠ "java/lang/invoke/VarHandle" ∧ (parseMethodDescriptor jX6_readSingers.1.desc).map (fun d => d.parameters.length) = some 1) := ⟨(k_m2 93 rfl rfl), (k_m1 2 rfl rfl), by decide +kernel, by decide +kernel, by decide +kernel⟩
theorem vX6_readSingers : Cond.instanceMethod jX6_readSingers.1 ∈ k_ws ∧ Cond.selects jX6_readSingers.1.cls jX6_readSingers.1 jX6_readSingers.1 ∈ k_ws := ⟨(k_m2 92 rfl rfl), (k_mp 7 rfl rfl)⟩
theorem hX6_readKind : Cond.code jX6_readKind.1 jX6_readKind.2.1 jX6_readKind.2.2.1 jX6_readKind.2.2.2.1 ∈ k_ws ∧ Cond.initialized jX6_readKind.1.cls ∈ k_ws ∧ (jX6_readKind.1.cls ≠ "java/lang/invoke/MethodHandle" ∧ jX6_readKind.1.cls ≠ "java/lang/invoke/VarHandle" ∧ (parseMethodDescriptor jX6_readKind.1.desc).map (fun d => d.parameters.length) = some 2) := ⟨(k_m2 97 rfl rfl), (k_m1 2 rfl rfl), by decide +kernel, by decide +kernel, by decide +kernel⟩
theorem vX6_readKind : Cond.instanceMethod jX6_readKind.1 ∈ k_ws ∧ Cond.selects jX6_readKind.1.cls jX6_readKind.1 jX6_readKind.1 ∈ k_ws := ⟨(k_m2 96 rfl rfl), (k_mp 8 rfl rfl)⟩
theorem hX6_readRange : Cond.code jX6_readRange.1 jX6_readRange.2.1 jX6_readRange.2.2.1 jX6_readRange.2.2.2.1 ∈ k_ws ∧ Cond.initialized jX6_readRange.1.cls ∈ k_ws ∧ (jX6_readRange.1.cls ≠ "java/lang/invoke/MethodHandle" ∧ jX6_readRange.1.cls ≠ "java/lang/invoke/VarHandle" ∧ (parseMethodDescriptor jX6_readRange.1.desc).map (fun d => d.parameters.length) = some 2) := ⟨(k_m2 101 rfl rfl), (k_m1 2 rfl rfl), by decide +kernel, by decide +kernel, by decide +kernel⟩
theorem vX6_readRange : Cond.instanceMethod jX6_readRange.1 ∈ k_ws ∧ Cond.selects jX6_readRange.1.cls jX6_readRange.1 jX6_readRange.1 ∈ k_ws := ⟨(k_m2 100 rfl rfl), (k_mp 9 rfl rfl)⟩
theorem hX6_readPlace : Cond.code jX6_readPlace.1 jX6_readPlace.2.1 jX6_readPlace.2.2.1 jX6_readPlace.2.2.2.1 ∈ k_ws ∧ Cond.initialized jX6_readPlace.1.cls ∈ k_ws ∧ (jX6_readPlace.1.cls ≠ "java/lang/invoke/MethodHandle" ∧ jX6_readPlace.1.cls ≠ "java/lang/invoke/VarHandle" ∧ (parseMethodDescriptor jX6_readPlace.1.desc).map (fun d => d.parameters.length) = some 2) := ⟨(k_m2 105 rfl rfl), (k_m1 2 rfl rfl), by decide +kernel, by decide +kernel, by decide +kernel⟩
theorem vX6_readPlace : Cond.instanceMethod jX6_readPlace.1 ∈ k_ws ∧ Cond.selects jX6_readPlace.1.cls jX6_readPlace.1 jX6_readPlace.1 ∈ k_ws := ⟨(k_m2 104 rfl rfl), (k_mp 10 rfl rfl)⟩
theorem hX7_isThere : Cond.code jX7_isThere.1 jX7_isThere.2.1 jX7_isThere.2.2.1 jX7_isThere.2.2.2.1 ∈ k_ws ∧ Cond.initialized jX7_isThere.1.cls ∈ k_ws ∧ (jX7_isThere.1.cls ≠ "java/lang/invoke/MethodHandle" ∧ jX7_isThere.1.cls ≠ "java/lang/invoke/VarHandle" ∧ (parseMethodDescriptor jX7_isThere.1.desc).map (fun d => d.parameters.length) = some 0) := ⟨(k_m2 199 rfl rfl), (k_m1 3 rfl rfl), by decide +kernel, by decide +kernel, by decide +kernel⟩
theorem vX7_isThere : Cond.instanceMethod jX7_isThere.1 ∈ k_ws ∧ Cond.selects jX7_isThere.1.cls jX7_isThere.1 jX7_isThere.1 ∈ k_ws := ⟨(k_m2 197 rfl rfl), (k_m2 198 rfl rfl)⟩
theorem hX7_clear : Cond.code jX7_clear.1 jX7_clear.2.1 jX7_clear.2.2.1 jX7_clear.2.2.2.1 ∈ k_ws ∧ Cond.initialized jX7_clear.1.cls ∈ k_ws ∧ (jX7_clear.1.cls ≠ "java/lang/invoke/MethodHandle" ∧ jX7_clear.1.cls ≠ "java/lang/invoke/VarHandle" ∧ (parseMethodDescriptor jX7_clear.1.desc).map (fun d => d.parameters.length) = some 0) := ⟨(k_m2 52 rfl rfl), (k_m1 3 rfl rfl), by decide +kernel, by decide +kernel, by decide +kernel⟩
theorem vX7_clear : Cond.instanceMethod jX7_clear.1 ∈ k_ws ∧ Cond.selects jX7_clear.1.cls jX7_clear.1 jX7_clear.1 ∈ k_ws := ⟨(k_m2 50 rfl rfl), (k_m2 51 rfl rfl)⟩
theorem hX7_become : Cond.code jX7_become.1 jX7_become.2.1 jX7_become.2.2.1 jX7_become.2.2.2.1 ∈ k_ws ∧ Cond.initialized jX7_become.1.cls ∈ k_ws ∧ (jX7_become.1.cls ≠ "java/lang/invoke/MethodHandle" ∧ jX7_become.1.cls ≠ "java/lang/invoke/VarHandle" ∧ (parseMethodDescriptor jX7_become.1.desc).map (fun d => d.parameters.length) = some 1) := ⟨(k_m2 114 rfl rfl), (k_m1 3 rfl rfl), by decide +kernel, by decide +kernel, by decide +kernel⟩
theorem vX7_become : Cond.instanceMethod jX7_become.1 ∈ k_ws ∧ Cond.selects jX7_become.1.cls jX7_become.1 jX7_become.1 ∈ k_ws := ⟨(k_m2 112 rfl rfl), (k_m2 113 rfl rfl)⟩
theorem hX7_turnPitch : Cond.code jX7_turnPitch.1 jX7_turnPitch.2.1 jX7_turnPitch.2.2.1 jX7_turnPitch.2.2.2.1 ∈ k_ws ∧ Cond.initialized jX7_turnPitch.1.cls ∈ k_ws ∧ (jX7_turnPitch.1.cls ≠ "java/lang/invoke/MethodHandle" ∧ jX7_turnPitch.1.cls ≠ "java/lang/invoke/VarHandle" ∧ (parseMethodDescriptor jX7_turnPitch.1.desc).map (fun d => d.parameters.length) = some 2) := ⟨(k_m3 32 rfl rfl), (k_m1 3 rfl rfl), by decide +kernel, by decide +kernel, by decide +kernel⟩
theorem vX7_turnPitch : Cond.instanceMethod jX7_turnPitch.1 ∈ k_ws ∧ Cond.selects jX7_turnPitch.1.cls jX7_turnPitch.1 jX7_turnPitch.1 ∈ k_ws := ⟨(k_m3 30 rfl rfl), (k_m3 31 rfl rfl)⟩
theorem hX7_disturb : Cond.code jX7_disturb.1 jX7_disturb.2.1 jX7_disturb.2.2.1 jX7_disturb.2.2.2.1 ∈ k_ws ∧ Cond.initialized jX7_disturb.1.cls ∈ k_ws ∧ (jX7_disturb.1.cls ≠ "java/lang/invoke/MethodHandle" ∧ jX7_disturb.1.cls ≠ "java/lang/invoke/VarHandle" ∧ (parseMethodDescriptor jX7_disturb.1.desc).map (fun d => d.parameters.length) = some 1) := ⟨(k_m3 140 rfl rfl), (k_m1 3 rfl rfl), by decide +kernel, by decide +kernel, by decide +kernel⟩
theorem vX7_disturb : Cond.instanceMethod jX7_disturb.1 ∈ k_ws ∧ Cond.selects jX7_disturb.1.cls jX7_disturb.1 jX7_disturb.1 ∈ k_ws := ⟨(k_m3 138 rfl rfl), (k_m3 139 rfl rfl)⟩
theorem hX7_range : Cond.code jX7_range.1 jX7_range.2.1 jX7_range.2.2.1 jX7_range.2.2.2.1 ∈ k_ws ∧ Cond.initialized jX7_range.1.cls ∈ k_ws ∧ (jX7_range.1.cls ≠ "java/lang/invoke/MethodHandle" ∧ jX7_range.1.cls ≠ "java/lang/invoke/VarHandle" ∧ (parseMethodDescriptor jX7_range.1.desc).map (fun d => d.parameters.length) = some 1) := ⟨(k_m2 239 rfl rfl), (k_m1 3 rfl rfl), by decide +kernel, by decide +kernel, by decide +kernel⟩
theorem vX7_range : Cond.instanceMethod jX7_range.1 ∈ k_ws ∧ Cond.selects jX7_range.1.cls jX7_range.1 jX7_range.1 ∈ k_ws := ⟨(k_m2 237 rfl rfl), (k_m2 238 rfl rfl)⟩
theorem hX7_standing : Cond.code jX7_standing.1 jX7_standing.2.1 jX7_standing.2.2.1 jX7_standing.2.2.2.1 ∈ k_ws ∧ Cond.initialized jX7_standing.1.cls ∈ k_ws ∧ (jX7_standing.1.cls ≠ "java/lang/invoke/MethodHandle" ∧ jX7_standing.1.cls ≠ "java/lang/invoke/VarHandle" ∧ (parseMethodDescriptor jX7_standing.1.desc).map (fun d => d.parameters.length) = some 1) := ⟨(k_m2 151 rfl rfl), (k_m1 3 rfl rfl), by decide +kernel, by decide +kernel, by decide +kernel⟩
theorem vX7_standing : Cond.instanceMethod jX7_standing.1 ∈ k_ws ∧ Cond.selects jX7_standing.1.cls jX7_standing.1 jX7_standing.1 ∈ k_ws := ⟨(k_m2 149 rfl rfl), (k_m2 150 rfl rfl)⟩
theorem hX7_rested : Cond.code jX7_rested.1 jX7_rested.2.1 jX7_rested.2.2.1 jX7_rested.2.2.2.1 ∈ k_ws ∧ Cond.initialized jX7_rested.1.cls ∈ k_ws ∧ (jX7_rested.1.cls ≠ "java/lang/invoke/MethodHandle" ∧ jX7_rested.1.cls ≠ "java/lang/invoke/VarHandle" ∧ (parseMethodDescriptor jX7_rested.1.desc).map (fun d => d.parameters.length) = some 0) := ⟨(k_m2 232 rfl rfl), (k_m1 3 rfl rfl), by decide +kernel, by decide +kernel, by decide +kernel⟩
theorem vX7_rested : Cond.instanceMethod jX7_rested.1 ∈ k_ws ∧ Cond.selects jX7_rested.1.cls jX7_rested.1 jX7_rested.1 ∈ k_ws := ⟨(k_m2 230 rfl rfl), (k_m2 231 rfl rfl)⟩
theorem hX7_tiredInAll : Cond.code jX7_tiredInAll.1 jX7_tiredInAll.2.1 jX7_tiredInAll.2.2.1 jX7_tiredInAll.2.2.2.1 ∈ k_ws ∧ Cond.initialized jX7_tiredInAll.1.cls ∈ k_ws ∧ (jX7_tiredInAll.1.cls ≠ "java/lang/invoke/MethodHandle" ∧ jX7_tiredInAll.1.cls ≠ "java/lang/invoke/VarHandle" ∧ (parseMethodDescriptor jX7_tiredInAll.1.desc).map (fun d => d.parameters.length) = some 0) := ⟨(k_m3 66 rfl rfl), (k_m1 3 rfl rfl), by decide +kernel, by decide +kernel, by decide +kernel⟩
theorem vX7_tiredInAll : Cond.instanceMethod jX7_tiredInAll.1 ∈ k_ws ∧ Cond.selects jX7_tiredInAll.1.cls jX7_tiredInAll.1 jX7_tiredInAll.1 ∈ k_ws := ⟨(k_m3 64 rfl rfl), (k_m3 65 rfl rfl)⟩
theorem hX7_packTired : Cond.code jX7_packTired.1 jX7_packTired.2.1 jX7_packTired.2.2.1 jX7_packTired.2.2.2.1 ∈ k_ws ∧ Cond.initialized jX7_packTired.1.cls ∈ k_ws ∧ (jX7_packTired.1.cls ≠ "java/lang/invoke/MethodHandle" ∧ jX7_packTired.1.cls ≠ "java/lang/invoke/VarHandle" ∧ (parseMethodDescriptor jX7_packTired.1.desc).map (fun d => d.parameters.length) = some 0) := ⟨(k_m2 207 rfl rfl), (k_m1 3 rfl rfl), by decide +kernel, by decide +kernel, by decide +kernel⟩
theorem vX7_packTired : Cond.instanceMethod jX7_packTired.1 ∈ k_ws ∧ Cond.selects jX7_packTired.1.cls jX7_packTired.1 jX7_packTired.1 ∈ k_ws := ⟨(k_m2 205 rfl rfl), (k_m2 206 rfl rfl)⟩
theorem hX7_unpackTired : Cond.code jX7_unpackTired.1 jX7_unpackTired.2.1 jX7_unpackTired.2.2.1 jX7_unpackTired.2.2.2.1 ∈ k_ws ∧ Cond.initialized jX7_unpackTired.1.cls ∈ k_ws ∧ (jX7_unpackTired.1.cls ≠ "java/lang/invoke/MethodHandle" ∧ jX7_unpackTired.1.cls ≠ "java/lang/invoke/VarHandle" ∧ (parseMethodDescriptor jX7_unpackTired.1.desc).map (fun d => d.parameters.length) = some 1) := ⟨(k_m3 44 rfl rfl), (k_m1 3 rfl rfl), by decide +kernel, by decide +kernel, by decide +kernel⟩
theorem vX7_unpackTired : Cond.instanceMethod jX7_unpackTired.1 ∈ k_ws ∧ Cond.selects jX7_unpackTired.1.cls jX7_unpackTired.1 jX7_unpackTired.1 ∈ k_ws := ⟨(k_m3 42 rfl rfl), (k_m3 43 rfl rfl)⟩
theorem hX8_feed : Cond.code jX8_feed.1 jX8_feed.2.1 jX8_feed.2.2.1 jX8_feed.2.2.2.1 ∈ k_ws ∧ Cond.initialized jX8_feed.1.cls ∈ k_ws ∧ (jX8_feed.1.cls ≠ "java/lang/invoke/MethodHandle" ∧ jX8_feed.1.cls ≠ "java/lang/invoke/VarHandle" ∧ (parseMethodDescriptor jX8_feed.1.desc).map (fun d => d.parameters.length) = some 1) := ⟨(k_m2 33 rfl rfl), (k_m1 1 rfl rfl), by decide +kernel, by decide +kernel, by decide +kernel⟩
theorem vX8_feed : Cond.instanceMethod jX8_feed.1 ∈ k_ws ∧ Cond.selects jX8_feed.1.cls jX8_feed.1 jX8_feed.1 ∈ k_ws := ⟨(k_m2 31 rfl rfl), (k_m2 32 rfl rfl)⟩
theorem hX8_valley : Cond.code jX8_valley.1 jX8_valley.2.1 jX8_valley.2.2.1 jX8_valley.2.2.2.1 ∈ k_ws ∧ Cond.initialized jX8_valley.1.cls ∈ k_ws ∧ (jX8_valley.1.cls ≠ "java/lang/invoke/MethodHandle" ∧ jX8_valley.1.cls ≠ "java/lang/invoke/VarHandle" ∧ (parseMethodDescriptor jX8_valley.1.desc).map (fun d => d.parameters.length) = some 0) := ⟨(k_m2 44 rfl rfl), (k_m1 1 rfl rfl), by decide +kernel, by decide +kernel, by decide +kernel⟩
theorem vX8_valley : Cond.instanceMethod jX8_valley.1 ∈ k_ws ∧ Cond.selects jX8_valley.1.cls jX8_valley.1 jX8_valley.1 ∈ k_ws := ⟨(k_m2 42 rfl rfl), (k_m2 43 rfl rfl)⟩
theorem hX8_shape : Cond.code jX8_shape.1 jX8_shape.2.1 jX8_shape.2.2.1 jX8_shape.2.2.2.1 ∈ k_ws ∧ Cond.initialized jX8_shape.1.cls ∈ k_ws ∧ (jX8_shape.1.cls ≠ "java/lang/invoke/MethodHandle" ∧ jX8_shape.1.cls ≠ "java/lang/invoke/VarHandle" ∧ (parseMethodDescriptor jX8_shape.1.desc).map (fun d => d.parameters.length) = some 1) := ⟨(k_m2 139 rfl rfl), (k_m1 1 rfl rfl), by decide +kernel, by decide +kernel, by decide +kernel⟩
theorem vX8_shape : Cond.instanceMethod jX8_shape.1 ∈ k_ws ∧ Cond.selects jX8_shape.1.cls jX8_shape.1 jX8_shape.1 ∈ k_ws := ⟨(k_m2 137 rfl rfl), (k_m2 138 rfl rfl)⟩
theorem hX8_field : Cond.code jX8_field.1 jX8_field.2.1 jX8_field.2.2.1 jX8_field.2.2.2.1 ∈ k_ws ∧ Cond.initialized jX8_field.1.cls ∈ k_ws ∧ (jX8_field.1.cls ≠ "java/lang/invoke/MethodHandle" ∧ jX8_field.1.cls ≠ "java/lang/invoke/VarHandle" ∧ (parseMethodDescriptor jX8_field.1.desc).map (fun d => d.parameters.length) = some 2) := ⟨(k_m2 143 rfl rfl), (k_m1 1 rfl rfl), by decide +kernel, by decide +kernel, by decide +kernel⟩
theorem vX8_field : Cond.instanceMethod jX8_field.1 ∈ k_ws ∧ Cond.selects jX8_field.1.cls jX8_field.1 jX8_field.1 ∈ k_ws := ⟨(k_m2 141 rfl rfl), (k_m2 142 rfl rfl)⟩
theorem hX8_singer : Cond.code jX8_singer.1 jX8_singer.2.1 jX8_singer.2.2.1 jX8_singer.2.2.2.1 ∈ k_ws ∧ Cond.initialized jX8_singer.1.cls ∈ k_ws ∧ (jX8_singer.1.cls ≠ "java/lang/invoke/MethodHandle" ∧ jX8_singer.1.cls ≠ "java/lang/invoke/VarHandle" ∧ (parseMethodDescriptor jX8_singer.1.desc).map (fun d => d.parameters.length) = some 2) := ⟨(k_m2 175 rfl rfl), (k_m1 1 rfl rfl), by decide +kernel, by decide +kernel, by decide +kernel⟩
theorem vX8_singer : Cond.instanceMethod jX8_singer.1 ∈ k_ws ∧ Cond.selects jX8_singer.1.cls jX8_singer.1 jX8_singer.1 ∈ k_ws := ⟨(k_m2 173 rfl rfl), (k_m2 174 rfl rfl)⟩
theorem hX8_as : Cond.code jX8_as.1 jX8_as.2.1 jX8_as.2.2.1 jX8_as.2.2.2.1 ∈ k_ws ∧ Cond.initialized jX8_as.1.cls ∈ k_ws ∧ (jX8_as.1.cls ≠ "java/lang/invoke/MethodHandle" ∧ jX8_as.1.cls ≠ "java/lang/invoke/VarHandle" ∧ (parseMethodDescriptor jX8_as.1.desc).map (fun d => d.parameters.length) = some 2) := ⟨(k_m2 186 rfl rfl), (k_m1 1 rfl rfl), by decide +kernel, by decide +kernel, by decide +kernel⟩
theorem vX8_as : Cond.instanceMethod jX8_as.1 ∈ k_ws ∧ Cond.selects jX8_as.1.cls jX8_as.1 jX8_as.1 ∈ k_ws := ⟨(k_m2 184 rfl rfl), (k_m2 185 rfl rfl)⟩
theorem hX8_chord : Cond.code jX8_chord.1 jX8_chord.2.1 jX8_chord.2.2.1 jX8_chord.2.2.2.1 ∈ k_ws ∧ Cond.initialized jX8_chord.1.cls ∈ k_ws ∧ (jX8_chord.1.cls ≠ "java/lang/invoke/MethodHandle" ∧ jX8_chord.1.cls ≠ "java/lang/invoke/VarHandle" ∧ (parseMethodDescriptor jX8_chord.1.desc).map (fun d => d.parameters.length) = some 2) := ⟨(k_m2 195 rfl rfl), (k_m1 1 rfl rfl), by decide +kernel, by decide +kernel, by decide +kernel⟩
theorem vX8_chord : Cond.instanceMethod jX8_chord.1 ∈ k_ws ∧ Cond.selects jX8_chord.1.cls jX8_chord.1 jX8_chord.1 ∈ k_ws := ⟨(k_m2 193 rfl rfl), (k_m2 194 rfl rfl)⟩
theorem hX8_hour : Cond.code jX8_hour.1 jX8_hour.2.1 jX8_hour.2.2.1 jX8_hour.2.2.2.1 ∈ k_ws ∧ Cond.initialized jX8_hour.1.cls ∈ k_ws ∧ (jX8_hour.1.cls ≠ "java/lang/invoke/MethodHandle" ∧ jX8_hour.1.cls ≠ "java/lang/invoke/VarHandle" ∧ (parseMethodDescriptor jX8_hour.1.desc).map (fun d => d.parameters.length) = some 0) := ⟨(k_m2 203 rfl rfl), (k_m1 1 rfl rfl), by decide +kernel, by decide +kernel, by decide +kernel⟩
theorem vX8_hour : Cond.instanceMethod jX8_hour.1 ∈ k_ws ∧ Cond.selects jX8_hour.1.cls jX8_hour.1 jX8_hour.1 ∈ k_ws := ⟨(k_m2 201 rfl rfl), (k_m2 202 rfl rfl)⟩
theorem hX8_send : Cond.code jX8_send.1 jX8_send.2.1 jX8_send.2.2.1 jX8_send.2.2.2.1 ∈ k_ws ∧ Cond.initialized jX8_send.1.cls ∈ k_ws ∧ (jX8_send.1.cls ≠ "java/lang/invoke/MethodHandle" ∧ jX8_send.1.cls ≠ "java/lang/invoke/VarHandle" ∧ (parseMethodDescriptor jX8_send.1.desc).map (fun d => d.parameters.length) = some 2) := ⟨(k_m3 24 rfl rfl), (k_m1 1 rfl rfl), by decide +kernel, by decide +kernel, by decide +kernel⟩
theorem vX8_send : Cond.instanceMethod jX8_send.1 ∈ k_ws ∧ Cond.selects jX8_send.1.cls jX8_send.1 jX8_send.1 ∈ k_ws := ⟨(k_m3 22 rfl rfl), (k_m3 23 rfl rfl)⟩
theorem hX8_sound : Cond.code jX8_sound.1 jX8_sound.2.1 jX8_sound.2.2.1 jX8_sound.2.2.2.1 ∈ k_ws ∧ Cond.initialized jX8_sound.1.cls ∈ k_ws ∧ (jX8_sound.1.cls ≠ "java/lang/invoke/MethodHandle" ∧ jX8_sound.1.cls ≠ "java/lang/invoke/VarHandle" ∧ (parseMethodDescriptor jX8_sound.1.desc).map (fun d => d.parameters.length) = some 2) := ⟨(k_m3 28 rfl rfl), (k_m1 1 rfl rfl), by decide +kernel, by decide +kernel, by decide +kernel⟩
theorem vX8_sound : Cond.instanceMethod jX8_sound.1 ∈ k_ws ∧ Cond.selects jX8_sound.1.cls jX8_sound.1 jX8_sound.1 ∈ k_ws := ⟨(k_m3 26 rfl rfl), (k_m3 27 rfl rfl)⟩
theorem hX8_undo : Cond.code jX8_undo.1 jX8_undo.2.1 jX8_undo.2.2.1 jX8_undo.2.2.2.1 ∈ k_ws ∧ Cond.initialized jX8_undo.1.cls ∈ k_ws ∧ (jX8_undo.1.cls ≠ "java/lang/invoke/MethodHandle" ∧ jX8_undo.1.cls ≠ "java/lang/invoke/VarHandle" ∧ (parseMethodDescriptor jX8_undo.1.desc).map (fun d => d.parameters.length) = some 0) := ⟨(k_m3 36 rfl rfl), (k_m1 1 rfl rfl), by decide +kernel, by decide +kernel, by decide +kernel⟩
theorem vX8_undo : Cond.instanceMethod jX8_undo.1 ∈ k_ws ∧ Cond.selects jX8_undo.1.cls jX8_undo.1 jX8_undo.1 ∈ k_ws := ⟨(k_m3 34 rfl rfl), (k_m3 35 rfl rfl)⟩
theorem hX8_image : Cond.code jX8_image.1 jX8_image.2.1 jX8_image.2.2.1 jX8_image.2.2.2.1 ∈ k_ws ∧ Cond.initialized jX8_image.1.cls ∈ k_ws ∧ (jX8_image.1.cls ≠ "java/lang/invoke/MethodHandle" ∧ jX8_image.1.cls ≠ "java/lang/invoke/VarHandle" ∧ (parseMethodDescriptor jX8_image.1.desc).map (fun d => d.parameters.length) = some 1) := ⟨(k_m3 49 rfl rfl), (k_m1 1 rfl rfl), by decide +kernel, by decide +kernel, by decide +kernel⟩
theorem vX8_image : Cond.instanceMethod jX8_image.1 ∈ k_ws ∧ Cond.selects jX8_image.1.cls jX8_image.1 jX8_image.1 ∈ k_ws := ⟨(k_m3 47 rfl rfl), (k_m3 48 rfl rfl)⟩
theorem hX8_restore : Cond.code jX8_restore.1 jX8_restore.2.1 jX8_restore.2.2.1 jX8_restore.2.2.2.1 ∈ k_ws ∧ Cond.initialized jX8_restore.1.cls ∈ k_ws ∧ (jX8_restore.1.cls ≠ "java/lang/invoke/MethodHandle" ∧ jX8_restore.1.cls ≠ "java/lang/invoke/VarHandle" ∧ (parseMethodDescriptor jX8_restore.1.desc).map (fun d => d.parameters.length) = some 1) := ⟨(k_m3 53 rfl rfl), (k_m1 1 rfl rfl), by decide +kernel, by decide +kernel, by decide +kernel⟩
theorem vX8_restore : Cond.instanceMethod jX8_restore.1 ∈ k_ws ∧ Cond.selects jX8_restore.1.cls jX8_restore.1 jX8_restore.1 ∈ k_ws := ⟨(k_m3 51 rfl rfl), (k_m3 52 rfl rfl)⟩
theorem hX8_sings : Cond.code jX8_sings.1 jX8_sings.2.1 jX8_sings.2.2.1 jX8_sings.2.2.2.1 ∈ k_ws ∧ Cond.initialized jX8_sings.1.cls ∈ k_ws ∧ (jX8_sings.1.cls ≠ "java/lang/invoke/MethodHandle" ∧ jX8_sings.1.cls ≠ "java/lang/invoke/VarHandle" ∧ (parseMethodDescriptor jX8_sings.1.desc).map (fun d => d.parameters.length) = some 1) := ⟨(k_m3 57 rfl rfl), (k_m1 1 rfl rfl), by decide +kernel, by decide +kernel, by decide +kernel⟩
theorem vX8_sings : Cond.instanceMethod jX8_sings.1 ∈ k_ws ∧ Cond.selects jX8_sings.1.cls jX8_sings.1 jX8_sings.1 ∈ k_ws := ⟨(k_m3 55 rfl rfl), (k_m3 56 rfl rfl)⟩
theorem hX8_ahead : Cond.code jX8_ahead.1 jX8_ahead.2.1 jX8_ahead.2.2.1 jX8_ahead.2.2.2.1 ∈ k_ws ∧ Cond.initialized jX8_ahead.1.cls ∈ k_ws ∧ (jX8_ahead.1.cls ≠ "java/lang/invoke/MethodHandle" ∧ jX8_ahead.1.cls ≠ "java/lang/invoke/VarHandle" ∧ (parseMethodDescriptor jX8_ahead.1.desc).map (fun d => d.parameters.length) = some 2) := ⟨(k_m3 62 rfl rfl), (k_m1 1 rfl rfl), by decide +kernel, by decide +kernel, by decide +kernel⟩
theorem vX8_ahead : Cond.instanceMethod jX8_ahead.1 ∈ k_ws ∧ Cond.selects jX8_ahead.1.cls jX8_ahead.1 jX8_ahead.1 ∈ k_ws := ⟨(k_m3 60 rfl rfl), (k_m3 61 rfl rfl)⟩
theorem hX8_fills : Cond.code jX8_fills.1 jX8_fills.2.1 jX8_fills.2.2.1 jX8_fills.2.2.2.1 ∈ k_ws ∧ Cond.initialized jX8_fills.1.cls ∈ k_ws ∧ (jX8_fills.1.cls ≠ "java/lang/invoke/MethodHandle" ∧ jX8_fills.1.cls ≠ "java/lang/invoke/VarHandle" ∧ (parseMethodDescriptor jX8_fills.1.desc).map (fun d => d.parameters.length) = some 1) := ⟨(k_m3 70 rfl rfl), (k_m1 1 rfl rfl), by decide +kernel, by decide +kernel, by decide +kernel⟩
theorem vX8_fills : Cond.instanceMethod jX8_fills.1 ∈ k_ws ∧ Cond.selects jX8_fills.1.cls jX8_fills.1 jX8_fills.1 ∈ k_ws := ⟨(k_m3 68 rfl rfl), (k_m3 69 rfl rfl)⟩
theorem hX8_stands : Cond.code jX8_stands.1 jX8_stands.2.1 jX8_stands.2.2.1 jX8_stands.2.2.2.1 ∈ k_ws ∧ Cond.initialized jX8_stands.1.cls ∈ k_ws ∧ (jX8_stands.1.cls ≠ "java/lang/invoke/MethodHandle" ∧ jX8_stands.1.cls ≠ "java/lang/invoke/VarHandle" ∧ (parseMethodDescriptor jX8_stands.1.desc).map (fun d => d.parameters.length) = some 1) := ⟨(k_m3 76 rfl rfl), (k_m1 1 rfl rfl), by decide +kernel, by decide +kernel, by decide +kernel⟩
theorem vX8_stands : Cond.instanceMethod jX8_stands.1 ∈ k_ws ∧ Cond.selects jX8_stands.1.cls jX8_stands.1 jX8_stands.1 ∈ k_ws := ⟨(k_m3 74 rfl rfl), (k_m3 75 rfl rfl)⟩
theorem hX8_howls : Cond.code jX8_howls.1 jX8_howls.2.1 jX8_howls.2.2.1 jX8_howls.2.2.2.1 ∈ k_ws ∧ Cond.initialized jX8_howls.1.cls ∈ k_ws ∧ (jX8_howls.1.cls ≠ "java/lang/invoke/MethodHandle" ∧ jX8_howls.1.cls ≠ "java/lang/invoke/VarHandle" ∧ (parseMethodDescriptor jX8_howls.1.desc).map (fun d => d.parameters.length) = some 1) := ⟨(k_m3 114 rfl rfl), (k_m1 1 rfl rfl), by decide +kernel, by decide +kernel, by decide +kernel⟩
theorem vX8_howls : Cond.instanceMethod jX8_howls.1 ∈ k_ws ∧ Cond.selects jX8_howls.1.cls jX8_howls.1 jX8_howls.1 ∈ k_ws := ⟨(k_m3 112 rfl rfl), (k_m3 113 rfl rfl)⟩
theorem hX8_back : Cond.code jX8_back.1 jX8_back.2.1 jX8_back.2.2.1 jX8_back.2.2.2.1 ∈ k_ws ∧ Cond.initialized jX8_back.1.cls ∈ k_ws ∧ (jX8_back.1.cls ≠ "java/lang/invoke/MethodHandle" ∧ jX8_back.1.cls ≠ "java/lang/invoke/VarHandle" ∧ (parseMethodDescriptor jX8_back.1.desc).map (fun d => d.parameters.length) = some 1) := ⟨(k_m3 119 rfl rfl), (k_m1 1 rfl rfl), by decide +kernel, by decide +kernel, by decide +kernel⟩
theorem vX8_back : Cond.instanceMethod jX8_back.1 ∈ k_ws ∧ Cond.selects jX8_back.1.cls jX8_back.1 jX8_back.1 ∈ k_ws := ⟨(k_m3 117 rfl rfl), (k_m3 118 rfl rfl)⟩
theorem hX8_wind : Cond.code jX8_wind.1 jX8_wind.2.1 jX8_wind.2.2.1 jX8_wind.2.2.2.1 ∈ k_ws ∧ Cond.initialized jX8_wind.1.cls ∈ k_ws ∧ (jX8_wind.1.cls ≠ "java/lang/invoke/MethodHandle" ∧ jX8_wind.1.cls ≠ "java/lang/invoke/VarHandle" ∧ (parseMethodDescriptor jX8_wind.1.desc).map (fun d => d.parameters.length) = some 3) := ⟨(k_m3 123 rfl rfl), (k_m1 1 rfl rfl), by decide +kernel, by decide +kernel, by decide +kernel⟩
theorem vX8_wind : Cond.instanceMethod jX8_wind.1 ∈ k_ws ∧ Cond.selects jX8_wind.1.cls jX8_wind.1 jX8_wind.1 ∈ k_ws := ⟨(k_m3 121 rfl rfl), (k_m3 122 rfl rfl)⟩
theorem hX8_decades : Cond.code jX8_decades.1 jX8_decades.2.1 jX8_decades.2.2.1 jX8_decades.2.2.2.1 ∈ k_ws ∧ Cond.initialized jX8_decades.1.cls ∈ k_ws ∧ (jX8_decades.1.cls ≠ "java/lang/invoke/MethodHandle" ∧ jX8_decades.1.cls ≠ "java/lang/invoke/VarHandle" ∧ (parseMethodDescriptor jX8_decades.1.desc).map (fun d => d.parameters.length) = some 3) := ⟨(k_m3 133 rfl rfl), (k_m1 1 rfl rfl), by decide +kernel, by decide +kernel, by decide +kernel⟩
theorem vX8_decades : Cond.instanceMethod jX8_decades.1 ∈ k_ws ∧ Cond.selects jX8_decades.1.cls jX8_decades.1 jX8_decades.1 ∈ k_ws := ⟨(k_m3 131 rfl rfl), (k_m3 132 rfl rfl)⟩
theorem hX8_sheet : Cond.code jX8_sheet.1 jX8_sheet.2.1 jX8_sheet.2.2.1 jX8_sheet.2.2.2.1 ∈ k_ws ∧ Cond.initialized jX8_sheet.1.cls ∈ k_ws ∧ (jX8_sheet.1.cls ≠ "java/lang/invoke/MethodHandle" ∧ jX8_sheet.1.cls ≠ "java/lang/invoke/VarHandle" ∧ (parseMethodDescriptor jX8_sheet.1.desc).map (fun d => d.parameters.length) = some 3) := ⟨(k_m3 150 rfl rfl), (k_m1 1 rfl rfl), by decide +kernel, by decide +kernel, by decide +kernel⟩
theorem vX8_sheet : Cond.instanceMethod jX8_sheet.1 ∈ k_ws ∧ Cond.selects jX8_sheet.1.cls jX8_sheet.1 jX8_sheet.1 ∈ k_ws := ⟨(k_m3 148 rfl rfl), (k_m3 149 rfl rfl)⟩
theorem hX8_drop : Cond.code jX8_drop.1 jX8_drop.2.1 jX8_drop.2.2.1 jX8_drop.2.2.2.1 ∈ k_ws ∧ Cond.initialized jX8_drop.1.cls ∈ k_ws ∧ (jX8_drop.1.cls ≠ "java/lang/invoke/MethodHandle" ∧ jX8_drop.1.cls ≠ "java/lang/invoke/VarHandle" ∧ (parseMethodDescriptor jX8_drop.1.desc).map (fun d => d.parameters.length) = some 1) := ⟨(k_m3 161 rfl rfl), (k_m1 1 rfl rfl), by decide +kernel, by decide +kernel, by decide +kernel⟩
theorem vX8_drop : Cond.instanceMethod jX8_drop.1 ∈ k_ws ∧ Cond.selects jX8_drop.1.cls jX8_drop.1 jX8_drop.1 ∈ k_ws := ⟨(k_m3 159 rfl rfl), (k_m3 160 rfl rfl)⟩
theorem hX8_item : Cond.code jX8_item.1 jX8_item.2.1 jX8_item.2.2.1 jX8_item.2.2.2.1 ∈ k_ws ∧ Cond.initialized jX8_item.1.cls ∈ k_ws ∧ (jX8_item.1.cls ≠ "java/lang/invoke/MethodHandle" ∧ jX8_item.1.cls ≠ "java/lang/invoke/VarHandle" ∧ (parseMethodDescriptor jX8_item.1.desc).map (fun d => d.parameters.length) = some 4) := ⟨(k_m3 173 rfl rfl), (k_m1 1 rfl rfl), by decide +kernel, by decide +kernel, by decide +kernel⟩
theorem vX8_item : Cond.instanceMethod jX8_item.1 ∈ k_ws ∧ Cond.selects jX8_item.1.cls jX8_item.1 jX8_item.1 ∈ k_ws := ⟨(k_m3 171 rfl rfl), (k_m3 172 rfl rfl)⟩
theorem hX8_copy : Cond.code jX8_copy.1 jX8_copy.2.1 jX8_copy.2.2.1 jX8_copy.2.2.2.1 ∈ k_ws ∧ Cond.initialized jX8_copy.1.cls ∈ k_ws ∧ (jX8_copy.1.cls ≠ "java/lang/invoke/MethodHandle" ∧ jX8_copy.1.cls ≠ "java/lang/invoke/VarHandle" ∧ (parseMethodDescriptor jX8_copy.1.desc).map (fun d => d.parameters.length) = some 5) := ⟨(k_m3 189 rfl rfl), (k_m1 1 rfl rfl), by decide +kernel, by decide +kernel, by decide +kernel⟩
theorem vX8_copy : Cond.instanceMethod jX8_copy.1 ∈ k_ws ∧ Cond.selects jX8_copy.1.cls jX8_copy.1 jX8_copy.1 ∈ k_ws := ⟨(k_m3 187 rfl rfl), (k_m3 188 rfl rfl)⟩
theorem hX8_log : Cond.code jX8_log.1 jX8_log.2.1 jX8_log.2.2.1 jX8_log.2.2.2.1 ∈ k_ws ∧ Cond.initialized jX8_log.1.cls ∈ k_ws ∧ (jX8_log.1.cls ≠ "java/lang/invoke/MethodHandle" ∧ jX8_log.1.cls ≠ "java/lang/invoke/VarHandle" ∧ (parseMethodDescriptor jX8_log.1.desc).map (fun d => d.parameters.length) = some 3) := ⟨(k_m3 194 rfl rfl), (k_m1 1 rfl rfl), by decide +kernel, by decide +kernel, by decide +kernel⟩
theorem vX8_log : Cond.instanceMethod jX8_log.1 ∈ k_ws ∧ Cond.selects jX8_log.1.cls jX8_log.1 jX8_log.1 ∈ k_ws := ⟨(k_m3 192 rfl rfl), (k_m3 193 rfl rfl)⟩
theorem hX8_sounded : Cond.code jX8_sounded.1 jX8_sounded.2.1 jX8_sounded.2.2.1 jX8_sounded.2.2.2.1 ∈ k_ws ∧ Cond.initialized jX8_sounded.1.cls ∈ k_ws ∧ (jX8_sounded.1.cls ≠ "java/lang/invoke/MethodHandle" ∧ jX8_sounded.1.cls ≠ "java/lang/invoke/VarHandle" ∧ (parseMethodDescriptor jX8_sounded.1.desc).map (fun d => d.parameters.length) = some 5) := ⟨(k_m3 198 rfl rfl), (k_m1 1 rfl rfl), by decide +kernel, by decide +kernel, by decide +kernel⟩
theorem vX8_sounded : Cond.instanceMethod jX8_sounded.1 ∈ k_ws ∧ Cond.selects jX8_sounded.1.cls jX8_sounded.1 jX8_sounded.1 ∈ k_ws := ⟨(k_m3 196 rfl rfl), (k_m3 197 rfl rfl)⟩
theorem hX8_kinds : Cond.code jX8_kinds.1 jX8_kinds.2.1 jX8_kinds.2.2.1 jX8_kinds.2.2.2.1 ∈ k_ws ∧ Cond.initialized jX8_kinds.1.cls ∈ k_ws ∧ (jX8_kinds.1.cls ≠ "java/lang/invoke/MethodHandle" ∧ jX8_kinds.1.cls ≠ "java/lang/invoke/VarHandle" ∧ (parseMethodDescriptor jX8_kinds.1.desc).map (fun d => d.parameters.length) = some 5) := ⟨(k_m3 230 rfl rfl), (k_m1 1 rfl rfl), by decide +kernel, by decide +kernel, by decide +kernel⟩
theorem vX8_kinds : Cond.instanceMethod jX8_kinds.1 ∈ k_ws ∧ Cond.selects jX8_kinds.1.cls jX8_kinds.1 jX8_kinds.1 ∈ k_ws := ⟨(k_m3 228 rfl rfl), (k_m3 229 rfl rfl)⟩
theorem hX8_count : Cond.code jX8_count.1 jX8_count.2.1 jX8_count.2.2.1 jX8_count.2.2.2.1 ∈ k_ws ∧ Cond.initialized jX8_count.1.cls ∈ k_ws ∧ (jX8_count.1.cls ≠ "java/lang/invoke/MethodHandle" ∧ jX8_count.1.cls ≠ "java/lang/invoke/VarHandle" ∧ (parseMethodDescriptor jX8_count.1.desc).map (fun d => d.parameters.length) = some 1) := ⟨(k_m4 0 rfl rfl), (k_m1 1 rfl rfl), by decide +kernel, by decide +kernel, by decide +kernel⟩
theorem vX8_count : Cond.instanceMethod jX8_count.1 ∈ k_ws ∧ Cond.selects jX8_count.1.cls jX8_count.1 jX8_count.1 ∈ k_ws := ⟨(k_m3 238 rfl rfl), (k_m3 239 rfl rfl)⟩
theorem hX8_within : Cond.code jX8_within.1 jX8_within.2.1 jX8_within.2.2.1 jX8_within.2.2.2.1 ∈ k_ws ∧ Cond.initialized jX8_within.1.cls ∈ k_ws ∧ (jX8_within.1.cls ≠ "java/lang/invoke/MethodHandle" ∧ jX8_within.1.cls ≠ "java/lang/invoke/VarHandle" ∧ (parseMethodDescriptor jX8_within.1.desc).map (fun d => d.parameters.length) = some 2) := ⟨(k_m2 36 rfl rfl), (k_m1 1 rfl rfl), by decide +kernel, by decide +kernel, by decide +kernel⟩
theorem sX8_within : Cond.static jX8_within.1 ∈ k_ws := (k_m2 35 rfl rfl)
theorem hX8_has : Cond.code jX8_has.1 jX8_has.2.1 jX8_has.2.2.1 jX8_has.2.2.2.1 ∈ k_ws ∧ Cond.initialized jX8_has.1.cls ∈ k_ws ∧ (jX8_has.1.cls ≠ "java/lang/invoke/MethodHandle" ∧ jX8_has.1.cls ≠ "java/lang/invoke/VarHandle" ∧ (parseMethodDescriptor jX8_has.1.desc).map (fun d => d.parameters.length) = some 2) := ⟨(k_m2 191 rfl rfl), (k_m1 1 rfl rfl), by decide +kernel, by decide +kernel, by decide +kernel⟩
theorem sX8_has : Cond.static jX8_has.1 ∈ k_ws := (k_m2 190 rfl rfl)
theorem hX8_isField : Cond.code jX8_isField.1 jX8_isField.2.1 jX8_isField.2.2.1 jX8_isField.2.2.2.1 ∈ k_ws ∧ Cond.initialized jX8_isField.1.cls ∈ k_ws ∧ (jX8_isField.1.cls ≠ "java/lang/invoke/MethodHandle" ∧ jX8_isField.1.cls ≠ "java/lang/invoke/VarHandle" ∧ (parseMethodDescriptor jX8_isField.1.desc).map (fun d => d.parameters.length) = some 1) := ⟨(k_m2 147 rfl rfl), (k_m1 1 rfl rfl), by decide +kernel, by decide +kernel, by decide +kernel⟩
theorem vX8_isField : Cond.instanceMethod jX8_isField.1 ∈ k_ws ∧ Cond.selects jX8_isField.1.cls jX8_isField.1 jX8_isField.1 ∈ k_ws := ⟨(k_m2 146 rfl rfl), (k_mp 14 rfl rfl)⟩
theorem hX8_isSinger : Cond.code jX8_isSinger.1 jX8_isSinger.2.1 jX8_isSinger.2.2.1 jX8_isSinger.2.2.2.1 ∈ k_ws ∧ Cond.initialized jX8_isSinger.1.cls ∈ k_ws ∧ (jX8_isSinger.1.cls ≠ "java/lang/invoke/MethodHandle" ∧ jX8_isSinger.1.cls ≠ "java/lang/invoke/VarHandle" ∧ (parseMethodDescriptor jX8_isSinger.1.desc).map (fun d => d.parameters.length) = some 1) := ⟨(k_m2 179 rfl rfl), (k_m1 1 rfl rfl), by decide +kernel, by decide +kernel, by decide +kernel⟩
theorem vX8_isSinger : Cond.instanceMethod jX8_isSinger.1 ∈ k_ws ∧ Cond.selects jX8_isSinger.1.cls jX8_isSinger.1 jX8_isSinger.1 ∈ k_ws := ⟨(k_m2 178 rfl rfl), (k_mp 16 rfl rfl)⟩
theorem hX8_tellPlace : Cond.code jX8_tellPlace.1 jX8_tellPlace.2.1 jX8_tellPlace.2.2.1 jX8_tellPlace.2.2.2.1 ∈ k_ws ∧ Cond.initialized jX8_tellPlace.1.cls ∈ k_ws ∧ (jX8_tellPlace.1.cls ≠ "java/lang/invoke/MethodHandle" ∧ jX8_tellPlace.1.cls ≠ "java/lang/invoke/VarHandle" ∧ (parseMethodDescriptor jX8_tellPlace.1.desc).map (fun d => d.parameters.length) = some 1) := ⟨(k_m2 182 rfl rfl), (k_m1 1 rfl rfl), by decide +kernel, by decide +kernel, by decide +kernel⟩
theorem sX8_tellPlace : Cond.static jX8_tellPlace.1 ∈ k_ws := (k_m2 181 rfl rfl)
theorem hX8_tellChord : Cond.code jX8_tellChord.1 jX8_tellChord.2.1 jX8_tellChord.2.2.1 jX8_tellChord.2.2.2.1 ∈ k_ws ∧ Cond.initialized jX8_tellChord.1.cls ∈ k_ws ∧ (jX8_tellChord.1.cls ≠ "java/lang/invoke/MethodHandle" ∧ jX8_tellChord.1.cls ≠ "java/lang/invoke/VarHandle" ∧ (parseMethodDescriptor jX8_tellChord.1.desc).map (fun d => d.parameters.length) = some 2) := ⟨(k_m2 155 rfl rfl), (k_m1 1 rfl rfl), by decide +kernel, by decide +kernel, by decide +kernel⟩
theorem vX8_tellChord : Cond.instanceMethod jX8_tellChord.1 ∈ k_ws ∧ Cond.selects jX8_tellChord.1.cls jX8_tellChord.1 jX8_tellChord.1 ∈ k_ws := ⟨(k_m2 154 rfl rfl), (k_mp 15 rfl rfl)⟩
theorem hX8_begin : Cond.code jX8_begin.1 jX8_begin.2.1 jX8_begin.2.2.1 jX8_begin.2.2.2.1 ∈ k_ws ∧ Cond.initialized jX8_begin.1.cls ∈ k_ws ∧ (jX8_begin.1.cls ≠ "java/lang/invoke/MethodHandle" ∧ jX8_begin.1.cls ≠ "java/lang/invoke/VarHandle" ∧ (parseMethodDescriptor jX8_begin.1.desc).map (fun d => d.parameters.length) = some 1) := ⟨(k_m2 110 rfl rfl), (k_m1 1 rfl rfl), by decide +kernel, by decide +kernel, by decide +kernel⟩
theorem vX8_begin : Cond.instanceMethod jX8_begin.1 ∈ k_ws ∧ Cond.selects jX8_begin.1.cls jX8_begin.1 jX8_begin.1 ∈ k_ws := ⟨(k_m2 109 rfl rfl), (k_mp 11 rfl rfl)⟩
theorem hX8_fieldsWithChord : Cond.code jX8_fieldsWithChord.1 jX8_fieldsWithChord.2.1 jX8_fieldsWithChord.2.2.1 jX8_fieldsWithChord.2.2.2.1 ∈ k_ws ∧ Cond.initialized jX8_fieldsWithChord.1.cls ∈ k_ws ∧ (jX8_fieldsWithChord.1.cls ≠ "java/lang/invoke/MethodHandle" ∧ jX8_fieldsWithChord.1.cls ≠ "java/lang/invoke/VarHandle" ∧ (parseMethodDescriptor jX8_fieldsWithChord.1.desc).map (fun d => d.parameters.length) = some 1) := ⟨(k_m4 4 rfl rfl), (k_m1 1 rfl rfl), by decide +kernel, by decide +kernel, by decide +kernel⟩
theorem vX8_fieldsWithChord : Cond.instanceMethod jX8_fieldsWithChord.1 ∈ k_ws ∧ Cond.selects jX8_fieldsWithChord.1.cls jX8_fieldsWithChord.1 jX8_fieldsWithChord.1 ∈ k_ws := ⟨(k_m4 3 rfl rfl), (k_mp 24 rfl rfl)⟩
theorem hX8_power : Cond.code jX8_power.1 jX8_power.2.1 jX8_power.2.2.1 jX8_power.2.2.2.1 ∈ k_ws ∧ Cond.initialized jX8_power.1.cls ∈ k_ws ∧ (jX8_power.1.cls ≠ "java/lang/invoke/MethodHandle" ∧ jX8_power.1.cls ≠ "java/lang/invoke/VarHandle" ∧ (parseMethodDescriptor jX8_power.1.desc).map (fun d => d.parameters.length) = some 2) := ⟨(k_m3 93 rfl rfl), (k_m1 1 rfl rfl), by decide +kernel, by decide +kernel, by decide +kernel⟩
theorem sX8_power : Cond.static jX8_power.1 ∈ k_ws := (k_m3 92 rfl rfl)
theorem hX8_sharedDivisor : Cond.code jX8_sharedDivisor.1 jX8_sharedDivisor.2.1 jX8_sharedDivisor.2.2.1 jX8_sharedDivisor.2.2.2.1 ∈ k_ws ∧ Cond.initialized jX8_sharedDivisor.1.cls ∈ k_ws ∧ (jX8_sharedDivisor.1.cls ≠ "java/lang/invoke/MethodHandle" ∧ jX8_sharedDivisor.1.cls ≠ "java/lang/invoke/VarHandle" ∧ (parseMethodDescriptor jX8_sharedDivisor.1.desc).map (fun d => d.parameters.length) = some 2) := ⟨(k_m3 128 rfl rfl), (k_m1 1 rfl rfl), by decide +kernel, by decide +kernel, by decide +kernel⟩
theorem sX8_sharedDivisor : Cond.static jX8_sharedDivisor.1 ∈ k_ws := (k_m3 127 rfl rfl)
theorem hX8_refusal : Cond.code jX8_refusal.1 jX8_refusal.2.1 jX8_refusal.2.2.1 jX8_refusal.2.2.2.1 ∈ k_ws ∧ Cond.initialized jX8_refusal.1.cls ∈ k_ws ∧ (jX8_refusal.1.cls ≠ "java/lang/invoke/MethodHandle" ∧ jX8_refusal.1.cls ≠ "java/lang/invoke/VarHandle" ∧ (parseMethodDescriptor jX8_refusal.1.desc).map (fun d => d.parameters.length) = some 4) := ⟨(k_m3 177 rfl rfl), (k_m1 1 rfl rfl), by decide +kernel, by decide +kernel, by decide +kernel⟩
theorem vX8_refusal : Cond.instanceMethod jX8_refusal.1 ∈ k_ws ∧ Cond.selects jX8_refusal.1.cls jX8_refusal.1 jX8_refusal.1 ∈ k_ws := ⟨(k_m3 176 rfl rfl), (k_mp 20 rfl rfl)⟩
theorem hX8_agrees : Cond.code jX8_agrees.1 jX8_agrees.2.1 jX8_agrees.2.2.1 jX8_agrees.2.2.2.1 ∈ k_ws ∧ Cond.initialized jX8_agrees.1.cls ∈ k_ws ∧ (jX8_agrees.1.cls ≠ "java/lang/invoke/MethodHandle" ∧ jX8_agrees.1.cls ≠ "java/lang/invoke/VarHandle" ∧ (parseMethodDescriptor jX8_agrees.1.desc).map (fun d => d.parameters.length) = some 5) := ⟨(k_m3 235 rfl rfl), (k_m1 1 rfl rfl), by decide +kernel, by decide +kernel, by decide +kernel⟩
theorem vX8_agrees : Cond.instanceMethod jX8_agrees.1 ∈ k_ws ∧ Cond.selects jX8_agrees.1.cls jX8_agrees.1 jX8_agrees.1 ∈ k_ws := ⟨(k_m3 234 rfl rfl), (k_mp 23 rfl rfl)⟩
theorem hX9_in : Cond.code jX9_in.1 jX9_in.2.1 jX9_in.2.2.1 jX9_in.2.2.2.1 ∈ k_ws ∧ Cond.initialized jX9_in.1.cls ∈ k_ws ∧ (jX9_in.1.cls ≠ "java/lang/invoke/MethodHandle" ∧ jX9_in.1.cls ≠ "java/lang/invoke/VarHandle" ∧ (parseMethodDescriptor jX9_in.1.desc).map (fun d => d.parameters.length) = some 3) := ⟨(k_m4 76 rfl rfl), (k_m1 10 rfl rfl), by decide +kernel, by decide +kernel, by decide +kernel⟩
theorem sX9_in : Cond.static jX9_in.1 ∈ k_ws := (k_m4 75 rfl rfl)
theorem hX9_has : Cond.code jX9_has.1 jX9_has.2.1 jX9_has.2.2.1 jX9_has.2.2.2.1 ∈ k_ws ∧ Cond.initialized jX9_has.1.cls ∈ k_ws ∧ (jX9_has.1.cls ≠ "java/lang/invoke/MethodHandle" ∧ jX9_has.1.cls ≠ "java/lang/invoke/VarHandle" ∧ (parseMethodDescriptor jX9_has.1.desc).map (fun d => d.parameters.length) = some 2) := ⟨(k_m4 193 rfl rfl), (k_m1 10 rfl rfl), by decide +kernel, by decide +kernel, by decide +kernel⟩
theorem sX9_has : Cond.static jX9_has.1 ∈ k_ws := (k_m4 192 rfl rfl)
theorem hX9_bits : Cond.code jX9_bits.1 jX9_bits.2.1 jX9_bits.2.2.1 jX9_bits.2.2.2.1 ∈ k_ws ∧ Cond.initialized jX9_bits.1.cls ∈ k_ws ∧ (jX9_bits.1.cls ≠ "java/lang/invoke/MethodHandle" ∧ jX9_bits.1.cls ≠ "java/lang/invoke/VarHandle" ∧ (parseMethodDescriptor jX9_bits.1.desc).map (fun d => d.parameters.length) = some 1) := ⟨(k_m4 107 rfl rfl), (k_m1 10 rfl rfl), by decide +kernel, by decide +kernel, by decide +kernel⟩
theorem sX9_bits : Cond.static jX9_bits.1 ∈ k_ws := (k_m4 106 rfl rfl)
theorem hX9_bring : Cond.code jX9_bring.1 jX9_bring.2.1 jX9_bring.2.2.1 jX9_bring.2.2.2.1 ∈ k_ws ∧ Cond.initialized jX9_bring.1.cls ∈ k_ws ∧ (jX9_bring.1.cls ≠ "java/lang/invoke/MethodHandle" ∧ jX9_bring.1.cls ≠ "java/lang/invoke/VarHandle" ∧ (parseMethodDescriptor jX9_bring.1.desc).map (fun d => d.parameters.length) = some 5) := ⟨(k_m4 121 rfl rfl), (k_m1 10 rfl rfl), by decide +kernel, by decide +kernel, by decide +kernel⟩
theorem sX9_bring : Cond.static jX9_bring.1 ∈ k_ws := (k_m4 120 rfl rfl)
theorem hX9_isThere : Cond.code jX9_isThere.1 jX9_isThere.2.1 jX9_isThere.2.2.1 jX9_isThere.2.2.2.1 ∈ k_ws ∧ Cond.initialized jX9_isThere.1.cls ∈ k_ws ∧ (jX9_isThere.1.cls ≠ "java/lang/invoke/MethodHandle" ∧ jX9_isThere.1.cls ≠ "java/lang/invoke/VarHandle" ∧ (parseMethodDescriptor jX9_isThere.1.desc).map (fun d => d.parameters.length) = some 0) := ⟨(k_m4 133 rfl rfl), (k_m1 10 rfl rfl), by decide +kernel, by decide +kernel, by decide +kernel⟩
theorem vX9_isThere : Cond.instanceMethod jX9_isThere.1 ∈ k_ws ∧ Cond.selects jX9_isThere.1.cls jX9_isThere.1 jX9_isThere.1 ∈ k_ws := ⟨(k_m4 132 rfl rfl), (k_mp 33 rfl rfl)⟩
theorem hX9_isField : Cond.code jX9_isField.1 jX9_isField.2.1 jX9_isField.2.2.1 jX9_isField.2.2.2.1 ∈ k_ws ∧ Cond.initialized jX9_isField.1.cls ∈ k_ws ∧ (jX9_isField.1.cls ≠ "java/lang/invoke/MethodHandle" ∧ jX9_isField.1.cls ≠ "java/lang/invoke/VarHandle" ∧ (parseMethodDescriptor jX9_isField.1.desc).map (fun d => d.parameters.length) = some 1) := ⟨(k_m4 150 rfl rfl), (k_m1 10 rfl rfl), by decide +kernel, by decide +kernel, by decide +kernel⟩
theorem vX9_isField : Cond.instanceMethod jX9_isField.1 ∈ k_ws ∧ Cond.selects jX9_isField.1.cls jX9_isField.1 jX9_isField.1 ∈ k_ws := ⟨(k_m4 149 rfl rfl), (k_mp 34 rfl rfl)⟩
theorem hX9_isOne : Cond.code jX9_isOne.1 jX9_isOne.2.1 jX9_isOne.2.2.1 jX9_isOne.2.2.2.1 ∈ k_ws ∧ Cond.initialized jX9_isOne.1.cls ∈ k_ws ∧ (jX9_isOne.1.cls ≠ "java/lang/invoke/MethodHandle" ∧ jX9_isOne.1.cls ≠ "java/lang/invoke/VarHandle" ∧ (parseMethodDescriptor jX9_isOne.1.desc).map (fun d => d.parameters.length) = some 1) := ⟨(k_m4 162 rfl rfl), (k_m1 10 rfl rfl), by decide +kernel, by decide +kernel, by decide +kernel⟩
theorem vX9_isOne : Cond.instanceMethod jX9_isOne.1 ∈ k_ws ∧ Cond.selects jX9_isOne.1.cls jX9_isOne.1 jX9_isOne.1 ∈ k_ws := ⟨(k_m4 161 rfl rfl), (k_mp 35 rfl rfl)⟩
theorem hX9_feed : Cond.code jX9_feed.1 jX9_feed.2.1 jX9_feed.2.2.1 jX9_feed.2.2.2.1 ∈ k_ws ∧ Cond.initialized jX9_feed.1.cls ∈ k_ws ∧ (jX9_feed.1.cls ≠ "java/lang/invoke/MethodHandle" ∧ jX9_feed.1.cls ≠ "java/lang/invoke/VarHandle" ∧ (parseMethodDescriptor jX9_feed.1.desc).map (fun d => d.parameters.length) = some 1) := ⟨(k_m4 73 rfl rfl), (k_m1 10 rfl rfl), by decide +kernel, by decide +kernel, by decide +kernel⟩
theorem vX9_feed : Cond.instanceMethod jX9_feed.1 ∈ k_ws ∧ Cond.selects jX9_feed.1.cls jX9_feed.1 jX9_feed.1 ∈ k_ws := ⟨(k_m4 71 rfl rfl), (k_m4 72 rfl rfl)⟩
theorem hX9_peek : Cond.code jX9_peek.1 jX9_peek.2.1 jX9_peek.2.2.1 jX9_peek.2.2.2.1 ∈ k_ws ∧ Cond.initialized jX9_peek.1.cls ∈ k_ws ∧ (jX9_peek.1.cls ≠ "java/lang/invoke/MethodHandle" ∧ jX9_peek.1.cls ≠ "java/lang/invoke/VarHandle" ∧ (parseMethodDescriptor jX9_peek.1.desc).map (fun d => d.parameters.length) = some 0) := ⟨(k_m4 92 rfl rfl), (k_m1 10 rfl rfl), by decide +kernel, by decide +kernel, by decide +kernel⟩
theorem vX9_peek : Cond.instanceMethod jX9_peek.1 ∈ k_ws ∧ Cond.selects jX9_peek.1.cls jX9_peek.1 jX9_peek.1 ∈ k_ws := ⟨(k_m4 91 rfl rfl), (k_mp 27 rfl rfl)⟩
theorem hX9_isSign : Cond.code jX9_isSign.1 jX9_isSign.2.1 jX9_isSign.2.2.1 jX9_isSign.2.2.2.1 ∈ k_ws ∧ Cond.initialized jX9_isSign.1.cls ∈ k_ws ∧ (jX9_isSign.1.cls ≠ "java/lang/invoke/MethodHandle" ∧ jX9_isSign.1.cls ≠ "java/lang/invoke/VarHandle" ∧ (parseMethodDescriptor jX9_isSign.1.desc).map (fun d => d.parameters.length) = some 1) := ⟨(k_m4 88 rfl rfl), (k_m1 10 rfl rfl), by decide +kernel, by decide +kernel, by decide +kernel⟩
theorem vX9_isSign : Cond.instanceMethod jX9_isSign.1 ∈ k_ws ∧ Cond.selects jX9_isSign.1.cls jX9_isSign.1 jX9_isSign.1 ∈ k_ws := ⟨(k_m4 87 rfl rfl), (k_mp 26 rfl rfl)⟩
theorem hX9_kindBy : Cond.code jX9_kindBy.1 jX9_kindBy.2.1 jX9_kindBy.2.2.1 jX9_kindBy.2.2.2.1 ∈ k_ws ∧ Cond.initialized jX9_kindBy.1.cls ∈ k_ws ∧ (jX9_kindBy.1.cls ≠ "java/lang/invoke/MethodHandle" ∧ jX9_kindBy.1.cls ≠ "java/lang/invoke/VarHandle" ∧ (parseMethodDescriptor jX9_kindBy.1.desc).map (fun d => d.parameters.length) = some 1) := ⟨(k_m4 118 rfl rfl), (k_m1 10 rfl rfl), by decide +kernel, by decide +kernel, by decide +kernel⟩
theorem sX9_kindBy : Cond.static jX9_kindBy.1 ∈ k_ws := (k_m4 117 rfl rfl)
theorem hX9_pitchThere : Cond.code jX9_pitchThere.1 jX9_pitchThere.2.1 jX9_pitchThere.2.2.1 jX9_pitchThere.2.2.2.1 ∈ k_ws ∧ Cond.initialized jX9_pitchThere.1.cls ∈ k_ws ∧ (jX9_pitchThere.1.cls ≠ "java/lang/invoke/MethodHandle" ∧ jX9_pitchThere.1.cls ≠ "java/lang/invoke/VarHandle" ∧ (parseMethodDescriptor jX9_pitchThere.1.desc).map (fun d => d.parameters.length) = some 0) := ⟨(k_m4 100 rfl rfl), (k_m1 10 rfl rfl), by decide +kernel, by decide +kernel, by decide +kernel⟩
theorem vX9_pitchThere : Cond.instanceMethod jX9_pitchThere.1 ∈ k_ws ∧ Cond.selects jX9_pitchThere.1.cls jX9_pitchThere.1 jX9_pitchThere.1 ∈ k_ws := ⟨(k_m4 99 rfl rfl), (k_mp 29 rfl rfl)⟩
theorem hX9_pitches : Cond.code jX9_pitches.1 jX9_pitches.2.1 jX9_pitches.2.2.1 jX9_pitches.2.2.2.1 ∈ k_ws ∧ Cond.initialized jX9_pitches.1.cls ∈ k_ws ∧ (jX9_pitches.1.cls ≠ "java/lang/invoke/MethodHandle" ∧ jX9_pitches.1.cls ≠ "java/lang/invoke/VarHandle" ∧ (parseMethodDescriptor jX9_pitches.1.desc).map (fun d => d.parameters.length) = some 1) := ⟨(k_m4 104 rfl rfl), (k_m1 10 rfl rfl), by decide +kernel, by decide +kernel, by decide +kernel⟩
theorem vX9_pitches : Cond.instanceMethod jX9_pitches.1 ∈ k_ws ∧ Cond.selects jX9_pitches.1.cls jX9_pitches.1 jX9_pitches.1 ∈ k_ws := ⟨(k_m4 103 rfl rfl), (k_mp 30 rfl rfl)⟩
theorem hX9_isShape : Cond.code jX9_isShape.1 jX9_isShape.2.1 jX9_isShape.2.2.1 jX9_isShape.2.2.2.1 ∈ k_ws ∧ Cond.initialized jX9_isShape.1.cls ∈ k_ws ∧ (jX9_isShape.1.cls ≠ "java/lang/invoke/MethodHandle" ∧ jX9_isShape.1.cls ≠ "java/lang/invoke/VarHandle" ∧ (parseMethodDescriptor jX9_isShape.1.desc).map (fun d => d.parameters.length) = some 0) := ⟨(k_m4 96 rfl rfl), (k_m1 10 rfl rfl), by decide +kernel, by decide +kernel, by decide +kernel⟩
theorem vX9_isShape : Cond.instanceMethod jX9_isShape.1 ∈ k_ws ∧ Cond.selects jX9_isShape.1.cls jX9_isShape.1 jX9_isShape.1 ∈ k_ws := ⟨(k_m4 95 rfl rfl), (k_mp 28 rfl rfl)⟩
theorem hX9_isFieldItem : Cond.code jX9_isFieldItem.1 jX9_isFieldItem.2.1 jX9_isFieldItem.2.2.1 jX9_isFieldItem.2.2.2.1 ∈ k_ws ∧ Cond.initialized jX9_isFieldItem.1.cls ∈ k_ws ∧ (jX9_isFieldItem.1.cls ≠ "java/lang/invoke/MethodHandle" ∧ jX9_isFieldItem.1.cls ≠ "java/lang/invoke/VarHandle" ∧ (parseMethodDescriptor jX9_isFieldItem.1.desc).map (fun d => d.parameters.length) = some 0) := ⟨(k_m4 111 rfl rfl), (k_m1 10 rfl rfl), by decide +kernel, by decide +kernel, by decide +kernel⟩
theorem vX9_isFieldItem : Cond.instanceMethod jX9_isFieldItem.1 ∈ k_ws ∧ Cond.selects jX9_isFieldItem.1.cls jX9_isFieldItem.1 jX9_isFieldItem.1 ∈ k_ws := ⟨(k_m4 110 rfl rfl), (k_mp 31 rfl rfl)⟩
theorem hX9_isSinger : Cond.code jX9_isSinger.1 jX9_isSinger.2.1 jX9_isSinger.2.2.1 jX9_isSinger.2.2.2.1 ∈ k_ws ∧ Cond.initialized jX9_isSinger.1.cls ∈ k_ws ∧ (jX9_isSinger.1.cls ≠ "java/lang/invoke/MethodHandle" ∧ jX9_isSinger.1.cls ≠ "java/lang/invoke/VarHandle" ∧ (parseMethodDescriptor jX9_isSinger.1.desc).map (fun d => d.parameters.length) = some 0) := ⟨(k_m4 115 rfl rfl), (k_m1 10 rfl rfl), by decide +kernel, by decide +kernel, by decide +kernel⟩
theorem vX9_isSinger : Cond.instanceMethod jX9_isSinger.1 ∈ k_ws ∧ Cond.selects jX9_isSinger.1.cls jX9_isSinger.1 jX9_isSinger.1 ∈ k_ws := ⟨(k_m4 114 rfl rfl), (k_mp 32 rfl rfl)⟩
theorem hX9_isRead : Cond.code jX9_isRead.1 jX9_isRead.2.1 jX9_isRead.2.2.1 jX9_isRead.2.2.2.1 ∈ k_ws ∧ Cond.initialized jX9_isRead.1.cls ∈ k_ws ∧ (jX9_isRead.1.cls ≠ "java/lang/invoke/MethodHandle" ∧ jX9_isRead.1.cls ≠ "java/lang/invoke/VarHandle" ∧ (parseMethodDescriptor jX9_isRead.1.desc).map (fun d => d.parameters.length) = some 0) := ⟨(k_m4 84 rfl rfl), (k_m1 10 rfl rfl), by decide +kernel, by decide +kernel, by decide +kernel⟩
theorem vX9_isRead : Cond.instanceMethod jX9_isRead.1 ∈ k_ws ∧ Cond.selects jX9_isRead.1.cls jX9_isRead.1 jX9_isRead.1 ∈ k_ws := ⟨(k_m4 83 rfl rfl), (k_mp 25 rfl rfl)⟩
theorem hX9_valley : Cond.code jX9_valley.1 jX9_valley.2.1 jX9_valley.2.2.1 jX9_valley.2.2.2.1 ∈ k_ws ∧ Cond.initialized jX9_valley.1.cls ∈ k_ws ∧ (jX9_valley.1.cls ≠ "java/lang/invoke/MethodHandle" ∧ jX9_valley.1.cls ≠ "java/lang/invoke/VarHandle" ∧ (parseMethodDescriptor jX9_valley.1.desc).map (fun d => d.parameters.length) = some 0) := ⟨(k_m4 80 rfl rfl), (k_m1 10 rfl rfl), by decide +kernel, by decide +kernel, by decide +kernel⟩
theorem vX9_valley : Cond.instanceMethod jX9_valley.1 ∈ k_ws ∧ Cond.selects jX9_valley.1.cls jX9_valley.1 jX9_valley.1 ∈ k_ws := ⟨(k_m4 78 rfl rfl), (k_m4 79 rfl rfl)⟩
theorem hX9_shape : Cond.code jX9_shape.1 jX9_shape.2.1 jX9_shape.2.2.1 jX9_shape.2.2.2.1 ∈ k_ws ∧ Cond.initialized jX9_shape.1.cls ∈ k_ws ∧ (jX9_shape.1.cls ≠ "java/lang/invoke/MethodHandle" ∧ jX9_shape.1.cls ≠ "java/lang/invoke/VarHandle" ∧ (parseMethodDescriptor jX9_shape.1.desc).map (fun d => d.parameters.length) = some 1) := ⟨(k_m4 125 rfl rfl), (k_m1 10 rfl rfl), by decide +kernel, by decide +kernel, by decide +kernel⟩
theorem vX9_shape : Cond.instanceMethod jX9_shape.1 ∈ k_ws ∧ Cond.selects jX9_shape.1.cls jX9_shape.1 jX9_shape.1 ∈ k_ws := ⟨(k_m4 123 rfl rfl), (k_m4 124 rfl rfl)⟩
theorem hX9_chordOn : Cond.code jX9_chordOn.1 jX9_chordOn.2.1 jX9_chordOn.2.2.1 jX9_chordOn.2.2.2.1 ∈ k_ws ∧ Cond.initialized jX9_chordOn.1.cls ∈ k_ws ∧ (jX9_chordOn.1.cls ≠ "java/lang/invoke/MethodHandle" ∧ jX9_chordOn.1.cls ≠ "java/lang/invoke/VarHandle" ∧ (parseMethodDescriptor jX9_chordOn.1.desc).map (fun d => d.parameters.length) = some 2) := ⟨(k_m4 139 rfl rfl), (k_m1 10 rfl rfl), by decide +kernel, by decide +kernel, by decide +kernel⟩
theorem sX9_chordOn : Cond.static jX9_chordOn.1 ∈ k_ws := (k_m4 138 rfl rfl)
theorem hX9_chordBy : Cond.code jX9_chordBy.1 jX9_chordBy.2.1 jX9_chordBy.2.2.1 jX9_chordBy.2.2.2.1 ∈ k_ws ∧ Cond.initialized jX9_chordBy.1.cls ∈ k_ws ∧ (jX9_chordBy.1.cls ≠ "java/lang/invoke/MethodHandle" ∧ jX9_chordBy.1.cls ≠ "java/lang/invoke/VarHandle" ∧ (parseMethodDescriptor jX9_chordBy.1.desc).map (fun d => d.parameters.length) = some 2) := ⟨(k_m4 136 rfl rfl), (k_m1 10 rfl rfl), by decide +kernel, by decide +kernel, by decide +kernel⟩
theorem sX9_chordBy : Cond.static jX9_chordBy.1 ∈ k_ws := (k_m4 135 rfl rfl)
theorem hX9_missingBy : Cond.code jX9_missingBy.1 jX9_missingBy.2.1 jX9_missingBy.2.2.1 jX9_missingBy.2.2.2.1 ∈ k_ws ∧ Cond.initialized jX9_missingBy.1.cls ∈ k_ws ∧ (jX9_missingBy.1.cls ≠ "java/lang/invoke/MethodHandle" ∧ jX9_missingBy.1.cls ≠ "java/lang/invoke/VarHandle" ∧ (parseMethodDescriptor jX9_missingBy.1.desc).map (fun d => d.parameters.length) = some 3) := ⟨(k_m4 142 rfl rfl), (k_m1 10 rfl rfl), by decide +kernel, by decide +kernel, by decide +kernel⟩
theorem sX9_missingBy : Cond.static jX9_missingBy.1 ∈ k_ws := (k_m4 141 rfl rfl)
theorem hX9_whoAt : Cond.code jX9_whoAt.1 jX9_whoAt.2.1 jX9_whoAt.2.2.1 jX9_whoAt.2.2.2.1 ∈ k_ws ∧ Cond.initialized jX9_whoAt.1.cls ∈ k_ws ∧ (jX9_whoAt.1.cls ≠ "java/lang/invoke/MethodHandle" ∧ jX9_whoAt.1.cls ≠ "java/lang/invoke/VarHandle" ∧ (parseMethodDescriptor jX9_whoAt.1.desc).map (fun d => d.parameters.length) = some 2) := ⟨(k_m4 153 rfl rfl), (k_m1 10 rfl rfl), by decide +kernel, by decide +kernel, by decide +kernel⟩
theorem sX9_whoAt : Cond.static jX9_whoAt.1 ∈ k_ws := (k_m4 152 rfl rfl)
theorem hX9_chord : Cond.code jX9_chord.1 jX9_chord.2.1 jX9_chord.2.2.1 jX9_chord.2.2.2.1 ∈ k_ws ∧ Cond.initialized jX9_chord.1.cls ∈ k_ws ∧ (jX9_chord.1.cls ≠ "java/lang/invoke/MethodHandle" ∧ jX9_chord.1.cls ≠ "java/lang/invoke/VarHandle" ∧ (parseMethodDescriptor jX9_chord.1.desc).map (fun d => d.parameters.length) = some 2) := ⟨(k_m4 129 rfl rfl), (k_m1 10 rfl rfl), by decide +kernel, by decide +kernel, by decide +kernel⟩
theorem vX9_chord : Cond.instanceMethod jX9_chord.1 ∈ k_ws ∧ Cond.selects jX9_chord.1.cls jX9_chord.1 jX9_chord.1 ∈ k_ws := ⟨(k_m4 127 rfl rfl), (k_m4 128 rfl rfl)⟩
theorem hX9_field : Cond.code jX9_field.1 jX9_field.2.1 jX9_field.2.2.1 jX9_field.2.2.2.1 ∈ k_ws ∧ Cond.initialized jX9_field.1.cls ∈ k_ws ∧ (jX9_field.1.cls ≠ "java/lang/invoke/MethodHandle" ∧ jX9_field.1.cls ≠ "java/lang/invoke/VarHandle" ∧ (parseMethodDescriptor jX9_field.1.desc).map (fun d => d.parameters.length) = some 2) := ⟨(k_m4 146 rfl rfl), (k_m1 10 rfl rfl), by decide +kernel, by decide +kernel, by decide +kernel⟩
theorem vX9_field : Cond.instanceMethod jX9_field.1 ∈ k_ws ∧ Cond.selects jX9_field.1.cls jX9_field.1 jX9_field.1 ∈ k_ws := ⟨(k_m4 144 rfl rfl), (k_m4 145 rfl rfl)⟩
theorem hX9_singer : Cond.code jX9_singer.1 jX9_singer.2.1 jX9_singer.2.2.1 jX9_singer.2.2.2.1 ∈ k_ws ∧ Cond.initialized jX9_singer.1.cls ∈ k_ws ∧ (jX9_singer.1.cls ≠ "java/lang/invoke/MethodHandle" ∧ jX9_singer.1.cls ≠ "java/lang/invoke/VarHandle" ∧ (parseMethodDescriptor jX9_singer.1.desc).map (fun d => d.parameters.length) = some 2) := ⟨(k_m4 158 rfl rfl), (k_m1 10 rfl rfl), by decide +kernel, by decide +kernel, by decide +kernel⟩
theorem vX9_singer : Cond.instanceMethod jX9_singer.1 ∈ k_ws ∧ Cond.selects jX9_singer.1.cls jX9_singer.1 jX9_singer.1 ∈ k_ws := ⟨(k_m4 156 rfl rfl), (k_m4 157 rfl rfl)⟩
theorem hX9_as : Cond.code jX9_as.1 jX9_as.2.1 jX9_as.2.2.1 jX9_as.2.2.2.1 ∈ k_ws ∧ Cond.initialized jX9_as.1.cls ∈ k_ws ∧ (jX9_as.1.cls ≠ "java/lang/invoke/MethodHandle" ∧ jX9_as.1.cls ≠ "java/lang/invoke/VarHandle" ∧ (parseMethodDescriptor jX9_as.1.desc).map (fun d => d.parameters.length) = some 2) := ⟨(k_m4 166 rfl rfl), (k_m1 10 rfl rfl), by decide +kernel, by decide +kernel, by decide +kernel⟩
theorem vX9_as : Cond.instanceMethod jX9_as.1 ∈ k_ws ∧ Cond.selects jX9_as.1.cls jX9_as.1 jX9_as.1 ∈ k_ws := ⟨(k_m4 164 rfl rfl), (k_m4 165 rfl rfl)⟩
theorem hX9_lowest : Cond.code jX9_lowest.1 jX9_lowest.2.1 jX9_lowest.2.2.1 jX9_lowest.2.2.2.1 ∈ k_ws ∧ Cond.initialized jX9_lowest.1.cls ∈ k_ws ∧ (jX9_lowest.1.cls ≠ "java/lang/invoke/MethodHandle" ∧ jX9_lowest.1.cls ≠ "java/lang/invoke/VarHandle" ∧ (parseMethodDescriptor jX9_lowest.1.desc).map (fun d => d.parameters.length) = some 1) := ⟨(k_m4 202 rfl rfl), (k_m1 10 rfl rfl), by decide +kernel, by decide +kernel, by decide +kernel⟩
theorem sX9_lowest : Cond.static jX9_lowest.1 ∈ k_ws := (k_m4 201 rfl rfl)
theorem hX9_highest : Cond.code jX9_highest.1 jX9_highest.2.1 jX9_highest.2.2.1 jX9_highest.2.2.2.1 ∈ k_ws ∧ Cond.initialized jX9_highest.1.cls ∈ k_ws ∧ (jX9_highest.1.cls ≠ "java/lang/invoke/MethodHandle" ∧ jX9_highest.1.cls ≠ "java/lang/invoke/VarHandle" ∧ (parseMethodDescriptor jX9_highest.1.desc).map (fun d => d.parameters.length) = some 1) := ⟨(k_m4 205 rfl rfl), (k_m1 10 rfl rfl), by decide +kernel, by decide +kernel, by decide +kernel⟩
theorem sX9_highest : Cond.static jX9_highest.1 ∈ k_ws := (k_m4 204 rfl rfl)
theorem hX9_singsOf : Cond.code jX9_singsOf.1 jX9_singsOf.2.1 jX9_singsOf.2.2.1 jX9_singsOf.2.2.2.1 ∈ k_ws ∧ Cond.initialized jX9_singsOf.1.cls ∈ k_ws ∧ (jX9_singsOf.1.cls ≠ "java/lang/invoke/MethodHandle" ∧ jX9_singsOf.1.cls ≠ "java/lang/invoke/VarHandle" ∧ (parseMethodDescriptor jX9_singsOf.1.desc).map (fun d => d.parameters.length) = some 3) := ⟨(k_m4 199 rfl rfl), (k_m1 10 rfl rfl), by decide +kernel, by decide +kernel, by decide +kernel⟩
theorem sX9_singsOf : Cond.static jX9_singsOf.1 ∈ k_ws := (k_m4 198 rfl rfl)
theorem hX9_rangeOf : Cond.code jX9_rangeOf.1 jX9_rangeOf.2.1 jX9_rangeOf.2.2.1 jX9_rangeOf.2.2.2.1 ∈ k_ws ∧ Cond.initialized jX9_rangeOf.1.cls ∈ k_ws ∧ (jX9_rangeOf.1.cls ≠ "java/lang/invoke/MethodHandle" ∧ jX9_rangeOf.1.cls ≠ "java/lang/invoke/VarHandle" ∧ (parseMethodDescriptor jX9_rangeOf.1.desc).map (fun d => d.parameters.length) = some 2) := ⟨(k_m4 196 rfl rfl), (k_m1 10 rfl rfl), by decide +kernel, by decide +kernel, by decide +kernel⟩
theorem sX9_rangeOf : Cond.static jX9_rangeOf.1 ∈ k_ws := (k_m4 195 rfl rfl)
theorem hX9_singIn : Cond.code jX9_singIn.1 jX9_singIn.2.1 jX9_singIn.2.2.1 jX9_singIn.2.2.2.1 ∈ k_ws ∧ Cond.initialized jX9_singIn.1.cls ∈ k_ws ∧ (jX9_singIn.1.cls ≠ "java/lang/invoke/MethodHandle" ∧ jX9_singIn.1.cls ≠ "java/lang/invoke/VarHandle" ∧ (parseMethodDescriptor jX9_singIn.1.desc).map (fun d => d.parameters.length) = some 3) := ⟨(k_m4 190 rfl rfl), (k_m1 10 rfl rfl), by decide +kernel, by decide +kernel, by decide +kernel⟩
theorem vX9_singIn : Cond.instanceMethod jX9_singIn.1 ∈ k_ws ∧ Cond.selects jX9_singIn.1.cls jX9_singIn.1 jX9_singIn.1 ∈ k_ws := ⟨(k_m4 189 rfl rfl), (k_mp 40 rfl rfl)⟩
theorem hX9_hush : Cond.code jX9_hush.1 jX9_hush.2.1 jX9_hush.2.2.1 jX9_hush.2.2.2.1 ∈ k_ws ∧ Cond.initialized jX9_hush.1.cls ∈ k_ws ∧ (jX9_hush.1.cls ≠ "java/lang/invoke/MethodHandle" ∧ jX9_hush.1.cls ≠ "java/lang/invoke/VarHandle" ∧ (parseMethodDescriptor jX9_hush.1.desc).map (fun d => d.parameters.length) = some 0) := ⟨(k_m4 186 rfl rfl), (k_m1 10 rfl rfl), by decide +kernel, by decide +kernel, by decide +kernel⟩
theorem vX9_hush : Cond.instanceMethod jX9_hush.1 ∈ k_ws ∧ Cond.selects jX9_hush.1.cls jX9_hush.1 jX9_hush.1 ∈ k_ws := ⟨(k_m4 185 rfl rfl), (k_mp 39 rfl rfl)⟩
theorem hX9_singAll : Cond.code jX9_singAll.1 jX9_singAll.2.1 jX9_singAll.2.2.1 jX9_singAll.2.2.2.1 ∈ k_ws ∧ Cond.initialized jX9_singAll.1.cls ∈ k_ws ∧ (jX9_singAll.1.cls ≠ "java/lang/invoke/MethodHandle" ∧ jX9_singAll.1.cls ≠ "java/lang/invoke/VarHandle" ∧ (parseMethodDescriptor jX9_singAll.1.desc).map (fun d => d.parameters.length) = some 1) := ⟨(k_m4 182 rfl rfl), (k_m1 10 rfl rfl), by decide +kernel, by decide +kernel, by decide +kernel⟩
theorem vX9_singAll : Cond.instanceMethod jX9_singAll.1 ∈ k_ws ∧ Cond.selects jX9_singAll.1.cls jX9_singAll.1 jX9_singAll.1 ∈ k_ws := ⟨(k_m4 181 rfl rfl), (k_mp 38 rfl rfl)⟩
theorem hX9_tires : Cond.code jX9_tires.1 jX9_tires.2.1 jX9_tires.2.2.1 jX9_tires.2.2.2.1 ∈ k_ws ∧ Cond.initialized jX9_tires.1.cls ∈ k_ws ∧ (jX9_tires.1.cls ≠ "java/lang/invoke/MethodHandle" ∧ jX9_tires.1.cls ≠ "java/lang/invoke/VarHandle" ∧ (parseMethodDescriptor jX9_tires.1.desc).map (fun d => d.parameters.length) = some 1) := ⟨(k_m4 208 rfl rfl), (k_m1 10 rfl rfl), by decide +kernel, by decide +kernel, by decide +kernel⟩
theorem sX9_tires : Cond.static jX9_tires.1 ∈ k_ws := (k_m4 207 rfl rfl)
theorem hX9_hourIn : Cond.code jX9_hourIn.1 jX9_hourIn.2.1 jX9_hourIn.2.2.1 jX9_hourIn.2.2.2.1 ∈ k_ws ∧ Cond.initialized jX9_hourIn.1.cls ∈ k_ws ∧ (jX9_hourIn.1.cls ≠ "java/lang/invoke/MethodHandle" ∧ jX9_hourIn.1.cls ≠ "java/lang/invoke/VarHandle" ∧ (parseMethodDescriptor jX9_hourIn.1.desc).map (fun d => d.parameters.length) = some 1) := ⟨(k_m4 178 rfl rfl), (k_m1 10 rfl rfl), by decide +kernel, by decide +kernel, by decide +kernel⟩
theorem vX9_hourIn : Cond.instanceMethod jX9_hourIn.1 ∈ k_ws ∧ Cond.selects jX9_hourIn.1.cls jX9_hourIn.1 jX9_hourIn.1 ∈ k_ws := ⟨(k_m4 177 rfl rfl), (k_mp 37 rfl rfl)⟩
theorem hX9_note : Cond.code jX9_note.1 jX9_note.2.1 jX9_note.2.2.1 jX9_note.2.2.2.1 ∈ k_ws ∧ Cond.initialized jX9_note.1.cls ∈ k_ws ∧ (jX9_note.1.cls ≠ "java/lang/invoke/MethodHandle" ∧ jX9_note.1.cls ≠ "java/lang/invoke/VarHandle" ∧ (parseMethodDescriptor jX9_note.1.desc).map (fun d => d.parameters.length) = some 0) := ⟨(k_m4 174 rfl rfl), (k_m1 10 rfl rfl), by decide +kernel, by decide +kernel, by decide +kernel⟩
theorem vX9_note : Cond.instanceMethod jX9_note.1 ∈ k_ws ∧ Cond.selects jX9_note.1.cls jX9_note.1 jX9_note.1 ∈ k_ws := ⟨(k_m4 173 rfl rfl), (k_mp 36 rfl rfl)⟩
theorem hX9_hour : Cond.code jX9_hour.1 jX9_hour.2.1 jX9_hour.2.2.1 jX9_hour.2.2.2.1 ∈ k_ws ∧ Cond.initialized jX9_hour.1.cls ∈ k_ws ∧ (jX9_hour.1.cls ≠ "java/lang/invoke/MethodHandle" ∧ jX9_hour.1.cls ≠ "java/lang/invoke/VarHandle" ∧ (parseMethodDescriptor jX9_hour.1.desc).map (fun d => d.parameters.length) = some 0) := ⟨(k_m4 170 rfl rfl), (k_m1 10 rfl rfl), by decide +kernel, by decide +kernel, by decide +kernel⟩
theorem vX9_hour : Cond.instanceMethod jX9_hour.1 ∈ k_ws ∧ Cond.selects jX9_hour.1.cls jX9_hour.1 jX9_hour.1 ∈ k_ws := ⟨(k_m4 168 rfl rfl), (k_m4 169 rfl rfl)⟩
theorem hX9_send : Cond.code jX9_send.1 jX9_send.2.1 jX9_send.2.2.1 jX9_send.2.2.2.1 ∈ k_ws ∧ Cond.initialized jX9_send.1.cls ∈ k_ws ∧ (jX9_send.1.cls ≠ "java/lang/invoke/MethodHandle" ∧ jX9_send.1.cls ≠ "java/lang/invoke/VarHandle" ∧ (parseMethodDescriptor jX9_send.1.desc).map (fun d => d.parameters.length) = some 2) := ⟨(k_m4 212 rfl rfl), (k_m1 10 rfl rfl), by decide +kernel, by decide +kernel, by decide +kernel⟩
theorem vX9_send : Cond.instanceMethod jX9_send.1 ∈ k_ws ∧ Cond.selects jX9_send.1.cls jX9_send.1 jX9_send.1 ∈ k_ws := ⟨(k_m4 210 rfl rfl), (k_m4 211 rfl rfl)⟩
theorem hX9_turn : Cond.code jX9_turn.1 jX9_turn.2.1 jX9_turn.2.2.1 jX9_turn.2.2.2.1 ∈ k_ws ∧ Cond.initialized jX9_turn.1.cls ∈ k_ws ∧ (jX9_turn.1.cls ≠ "java/lang/invoke/MethodHandle" ∧ jX9_turn.1.cls ≠ "java/lang/invoke/VarHandle" ∧ (parseMethodDescriptor jX9_turn.1.desc).map (fun d => d.parameters.length) = some 3) := ⟨(k_m4 219 rfl rfl), (k_m1 10 rfl rfl), by decide +kernel, by decide +kernel, by decide +kernel⟩
theorem sX9_turn : Cond.static jX9_turn.1 ∈ k_ws := (k_m4 218 rfl rfl)
theorem hX9_sound : Cond.code jX9_sound.1 jX9_sound.2.1 jX9_sound.2.2.1 jX9_sound.2.2.2.1 ∈ k_ws ∧ Cond.initialized jX9_sound.1.cls ∈ k_ws ∧ (jX9_sound.1.cls ≠ "java/lang/invoke/MethodHandle" ∧ jX9_sound.1.cls ≠ "java/lang/invoke/VarHandle" ∧ (parseMethodDescriptor jX9_sound.1.desc).map (fun d => d.parameters.length) = some 2) := ⟨(k_m4 216 rfl rfl), (k_m1 10 rfl rfl), by decide +kernel, by decide +kernel, by decide +kernel⟩
theorem vX9_sound : Cond.instanceMethod jX9_sound.1 ∈ k_ws ∧ Cond.selects jX9_sound.1.cls jX9_sound.1 jX9_sound.1 ∈ k_ws := ⟨(k_m4 214 rfl rfl), (k_m4 215 rfl rfl)⟩
theorem hX9_undo : Cond.code jX9_undo.1 jX9_undo.2.1 jX9_undo.2.2.1 jX9_undo.2.2.2.1 ∈ k_ws ∧ Cond.initialized jX9_undo.1.cls ∈ k_ws ∧ (jX9_undo.1.cls ≠ "java/lang/invoke/MethodHandle" ∧ jX9_undo.1.cls ≠ "java/lang/invoke/VarHandle" ∧ (parseMethodDescriptor jX9_undo.1.desc).map (fun d => d.parameters.length) = some 0) := ⟨(k_m4 223 rfl rfl), (k_m1 10 rfl rfl), by decide +kernel, by decide +kernel, by decide +kernel⟩
theorem vX9_undo : Cond.instanceMethod jX9_undo.1 ∈ k_ws ∧ Cond.selects jX9_undo.1.cls jX9_undo.1 jX9_undo.1 ∈ k_ws := ⟨(k_m4 221 rfl rfl), (k_m4 222 rfl rfl)⟩
theorem hX9_image : Cond.code jX9_image.1 jX9_image.2.1 jX9_image.2.2.1 jX9_image.2.2.2.1 ∈ k_ws ∧ Cond.initialized jX9_image.1.cls ∈ k_ws ∧ (jX9_image.1.cls ≠ "java/lang/invoke/MethodHandle" ∧ jX9_image.1.cls ≠ "java/lang/invoke/VarHandle" ∧ (parseMethodDescriptor jX9_image.1.desc).map (fun d => d.parameters.length) = some 1) := ⟨(k_m4 227 rfl rfl), (k_m1 10 rfl rfl), by decide +kernel, by decide +kernel, by decide +kernel⟩
theorem vX9_image : Cond.instanceMethod jX9_image.1 ∈ k_ws ∧ Cond.selects jX9_image.1.cls jX9_image.1 jX9_image.1 ∈ k_ws := ⟨(k_m4 225 rfl rfl), (k_m4 226 rfl rfl)⟩
theorem hX9_restore : Cond.code jX9_restore.1 jX9_restore.2.1 jX9_restore.2.2.1 jX9_restore.2.2.2.1 ∈ k_ws ∧ Cond.initialized jX9_restore.1.cls ∈ k_ws ∧ (jX9_restore.1.cls ≠ "java/lang/invoke/MethodHandle" ∧ jX9_restore.1.cls ≠ "java/lang/invoke/VarHandle" ∧ (parseMethodDescriptor jX9_restore.1.desc).map (fun d => d.parameters.length) = some 1) := ⟨(k_m4 231 rfl rfl), (k_m1 10 rfl rfl), by decide +kernel, by decide +kernel, by decide +kernel⟩
theorem vX9_restore : Cond.instanceMethod jX9_restore.1 ∈ k_ws ∧ Cond.selects jX9_restore.1.cls jX9_restore.1 jX9_restore.1 ∈ k_ws := ⟨(k_m4 229 rfl rfl), (k_m4 230 rfl rfl)⟩
theorem hX9_begin : Cond.code jX9_begin.1 jX9_begin.2.1 jX9_begin.2.2.1 jX9_begin.2.2.2.1 ∈ k_ws ∧ Cond.initialized jX9_begin.1.cls ∈ k_ws ∧ (jX9_begin.1.cls ≠ "java/lang/invoke/MethodHandle" ∧ jX9_begin.1.cls ≠ "java/lang/invoke/VarHandle" ∧ (parseMethodDescriptor jX9_begin.1.desc).map (fun d => d.parameters.length) = some 0) := ⟨(k_m5 3 rfl rfl), (k_m1 10 rfl rfl), by decide +kernel, by decide +kernel, by decide +kernel⟩
theorem vX9_begin : Cond.instanceMethod jX9_begin.1 ∈ k_ws ∧ Cond.selects jX9_begin.1.cls jX9_begin.1 jX9_begin.1 ∈ k_ws := ⟨(k_m5 2 rfl rfl), (k_mp 41 rfl rfl)⟩
theorem hX9_sings : Cond.code jX9_sings.1 jX9_sings.2.1 jX9_sings.2.2.1 jX9_sings.2.2.2.1 ∈ k_ws ∧ Cond.initialized jX9_sings.1.cls ∈ k_ws ∧ (jX9_sings.1.cls ≠ "java/lang/invoke/MethodHandle" ∧ jX9_sings.1.cls ≠ "java/lang/invoke/VarHandle" ∧ (parseMethodDescriptor jX9_sings.1.desc).map (fun d => d.parameters.length) = some 1) := ⟨(k_m4 235 rfl rfl), (k_m1 10 rfl rfl), by decide +kernel, by decide +kernel, by decide +kernel⟩
theorem vX9_sings : Cond.instanceMethod jX9_sings.1 ∈ k_ws ∧ Cond.selects jX9_sings.1.cls jX9_sings.1 jX9_sings.1 ∈ k_ws := ⟨(k_m4 233 rfl rfl), (k_m4 234 rfl rfl)⟩
theorem hX9_tiredOf : Cond.code jX9_tiredOf.1 jX9_tiredOf.2.1 jX9_tiredOf.2.2.1 jX9_tiredOf.2.2.2.1 ∈ k_ws ∧ Cond.initialized jX9_tiredOf.1.cls ∈ k_ws ∧ (jX9_tiredOf.1.cls ≠ "java/lang/invoke/MethodHandle" ∧ jX9_tiredOf.1.cls ≠ "java/lang/invoke/VarHandle" ∧ (parseMethodDescriptor jX9_tiredOf.1.desc).map (fun d => d.parameters.length) = some 1) := ⟨(k_m5 6 rfl rfl), (k_m1 10 rfl rfl), by decide +kernel, by decide +kernel, by decide +kernel⟩
theorem sX9_tiredOf : Cond.static jX9_tiredOf.1 ∈ k_ws := (k_m5 5 rfl rfl)
theorem hX9_ahead : Cond.code jX9_ahead.1 jX9_ahead.2.1 jX9_ahead.2.2.1 jX9_ahead.2.2.2.1 ∈ k_ws ∧ Cond.initialized jX9_ahead.1.cls ∈ k_ws ∧ (jX9_ahead.1.cls ≠ "java/lang/invoke/MethodHandle" ∧ jX9_ahead.1.cls ≠ "java/lang/invoke/VarHandle" ∧ (parseMethodDescriptor jX9_ahead.1.desc).map (fun d => d.parameters.length) = some 2) := ⟨(k_m4 239 rfl rfl), (k_m1 10 rfl rfl), by decide +kernel, by decide +kernel, by decide +kernel⟩
theorem vX9_ahead : Cond.instanceMethod jX9_ahead.1 ∈ k_ws ∧ Cond.selects jX9_ahead.1.cls jX9_ahead.1 jX9_ahead.1 ∈ k_ws := ⟨(k_m4 237 rfl rfl), (k_m4 238 rfl rfl)⟩
theorem hX9_fills : Cond.code jX9_fills.1 jX9_fills.2.1 jX9_fills.2.2.1 jX9_fills.2.2.2.1 ∈ k_ws ∧ Cond.initialized jX9_fills.1.cls ∈ k_ws ∧ (jX9_fills.1.cls ≠ "java/lang/invoke/MethodHandle" ∧ jX9_fills.1.cls ≠ "java/lang/invoke/VarHandle" ∧ (parseMethodDescriptor jX9_fills.1.desc).map (fun d => d.parameters.length) = some 1) := ⟨(k_m5 10 rfl rfl), (k_m1 10 rfl rfl), by decide +kernel, by decide +kernel, by decide +kernel⟩
theorem vX9_fills : Cond.instanceMethod jX9_fills.1 ∈ k_ws ∧ Cond.selects jX9_fills.1.cls jX9_fills.1 jX9_fills.1 ∈ k_ws := ⟨(k_m5 8 rfl rfl), (k_m5 9 rfl rfl)⟩
theorem hX9_layStands : Cond.code jX9_layStands.1 jX9_layStands.2.1 jX9_layStands.2.2.1 jX9_layStands.2.2.2.1 ∈ k_ws ∧ Cond.initialized jX9_layStands.1.cls ∈ k_ws ∧ (jX9_layStands.1.cls ≠ "java/lang/invoke/MethodHandle" ∧ jX9_layStands.1.cls ≠ "java/lang/invoke/VarHandle" ∧ (parseMethodDescriptor jX9_layStands.1.desc).map (fun d => d.parameters.length) = some 0) := ⟨(k_m5 18 rfl rfl), (k_m1 10 rfl rfl), by decide +kernel, by decide +kernel, by decide +kernel⟩
theorem vX9_layStands : Cond.instanceMethod jX9_layStands.1 ∈ k_ws ∧ Cond.selects jX9_layStands.1.cls jX9_layStands.1 jX9_layStands.1 ∈ k_ws := ⟨(k_m5 17 rfl rfl), (k_mp 42 rfl rfl)⟩
theorem hX9_stands : Cond.code jX9_stands.1 jX9_stands.2.1 jX9_stands.2.2.1 jX9_stands.2.2.2.1 ∈ k_ws ∧ Cond.initialized jX9_stands.1.cls ∈ k_ws ∧ (jX9_stands.1.cls ≠ "java/lang/invoke/MethodHandle" ∧ jX9_stands.1.cls ≠ "java/lang/invoke/VarHandle" ∧ (parseMethodDescriptor jX9_stands.1.desc).map (fun d => d.parameters.length) = some 1) := ⟨(k_m5 14 rfl rfl), (k_m1 10 rfl rfl), by decide +kernel, by decide +kernel, by decide +kernel⟩
theorem vX9_stands : Cond.instanceMethod jX9_stands.1 ∈ k_ws ∧ Cond.selects jX9_stands.1.cls jX9_stands.1 jX9_stands.1 ∈ k_ws := ⟨(k_m5 12 rfl rfl), (k_m5 13 rfl rfl)⟩
theorem hX9_howls : Cond.code jX9_howls.1 jX9_howls.2.1 jX9_howls.2.2.1 jX9_howls.2.2.2.1 ∈ k_ws ∧ Cond.initialized jX9_howls.1.cls ∈ k_ws ∧ (jX9_howls.1.cls ≠ "java/lang/invoke/MethodHandle" ∧ jX9_howls.1.cls ≠ "java/lang/invoke/VarHandle" ∧ (parseMethodDescriptor jX9_howls.1.desc).map (fun d => d.parameters.length) = some 1) := ⟨(k_m5 22 rfl rfl), (k_m1 10 rfl rfl), by decide +kernel, by decide +kernel, by decide +kernel⟩
theorem vX9_howls : Cond.instanceMethod jX9_howls.1 ∈ k_ws ∧ Cond.selects jX9_howls.1.cls jX9_howls.1 jX9_howls.1 ∈ k_ws := ⟨(k_m5 20 rfl rfl), (k_m5 21 rfl rfl)⟩
theorem hX9_back : Cond.code jX9_back.1 jX9_back.2.1 jX9_back.2.2.1 jX9_back.2.2.2.1 ∈ k_ws ∧ Cond.initialized jX9_back.1.cls ∈ k_ws ∧ (jX9_back.1.cls ≠ "java/lang/invoke/MethodHandle" ∧ jX9_back.1.cls ≠ "java/lang/invoke/VarHandle" ∧ (parseMethodDescriptor jX9_back.1.desc).map (fun d => d.parameters.length) = some 1) := ⟨(k_m5 26 rfl rfl), (k_m1 10 rfl rfl), by decide +kernel, by decide +kernel, by decide +kernel⟩
theorem vX9_back : Cond.instanceMethod jX9_back.1 ∈ k_ws ∧ Cond.selects jX9_back.1.cls jX9_back.1 jX9_back.1 ∈ k_ws := ⟨(k_m5 24 rfl rfl), (k_m5 25 rfl rfl)⟩
theorem hX9_part : Cond.code jX9_part.1 jX9_part.2.1 jX9_part.2.2.1 jX9_part.2.2.2.1 ∈ k_ws ∧ Cond.initialized jX9_part.1.cls ∈ k_ws ∧ (jX9_part.1.cls ≠ "java/lang/invoke/MethodHandle" ∧ jX9_part.1.cls ≠ "java/lang/invoke/VarHandle" ∧ (parseMethodDescriptor jX9_part.1.desc).map (fun d => d.parameters.length) = some 3) := ⟨(k_m5 33 rfl rfl), (k_m1 10 rfl rfl), by decide +kernel, by decide +kernel, by decide +kernel⟩
theorem sX9_part : Cond.static jX9_part.1 ∈ k_ws := (k_m5 32 rfl rfl)
theorem hX9_wind : Cond.code jX9_wind.1 jX9_wind.2.1 jX9_wind.2.2.1 jX9_wind.2.2.2.1 ∈ k_ws ∧ Cond.initialized jX9_wind.1.cls ∈ k_ws ∧ (jX9_wind.1.cls ≠ "java/lang/invoke/MethodHandle" ∧ jX9_wind.1.cls ≠ "java/lang/invoke/VarHandle" ∧ (parseMethodDescriptor jX9_wind.1.desc).map (fun d => d.parameters.length) = some 3) := ⟨(k_m5 30 rfl rfl), (k_m1 10 rfl rfl), by decide +kernel, by decide +kernel, by decide +kernel⟩
theorem vX9_wind : Cond.instanceMethod jX9_wind.1 ∈ k_ws ∧ Cond.selects jX9_wind.1.cls jX9_wind.1 jX9_wind.1 ∈ k_ws := ⟨(k_m5 28 rfl rfl), (k_m5 29 rfl rfl)⟩
theorem hX9_decades : Cond.code jX9_decades.1 jX9_decades.2.1 jX9_decades.2.2.1 jX9_decades.2.2.2.1 ∈ k_ws ∧ Cond.initialized jX9_decades.1.cls ∈ k_ws ∧ (jX9_decades.1.cls ≠ "java/lang/invoke/MethodHandle" ∧ jX9_decades.1.cls ≠ "java/lang/invoke/VarHandle" ∧ (parseMethodDescriptor jX9_decades.1.desc).map (fun d => d.parameters.length) = some 3) := ⟨(k_m5 37 rfl rfl), (k_m1 10 rfl rfl), by decide +kernel, by decide +kernel, by decide +kernel⟩
theorem vX9_decades : Cond.instanceMethod jX9_decades.1 ∈ k_ws ∧ Cond.selects jX9_decades.1.cls jX9_decades.1 jX9_decades.1 ∈ k_ws := ⟨(k_m5 35 rfl rfl), (k_m5 36 rfl rfl)⟩
theorem hX9_isSheet : Cond.code jX9_isSheet.1 jX9_isSheet.2.1 jX9_isSheet.2.2.1 jX9_isSheet.2.2.2.1 ∈ k_ws ∧ Cond.initialized jX9_isSheet.1.cls ∈ k_ws ∧ (jX9_isSheet.1.cls ≠ "java/lang/invoke/MethodHandle" ∧ jX9_isSheet.1.cls ≠ "java/lang/invoke/VarHandle" ∧ (parseMethodDescriptor jX9_isSheet.1.desc).map (fun d => d.parameters.length) = some 1) := ⟨(k_m5 51 rfl rfl), (k_m1 10 rfl rfl), by decide +kernel, by decide +kernel, by decide +kernel⟩
theorem sX9_isSheet : Cond.static jX9_isSheet.1 ∈ k_ws := (k_m5 50 rfl rfl)
theorem hX9_isPart : Cond.code jX9_isPart.1 jX9_isPart.2.1 jX9_isPart.2.2.1 jX9_isPart.2.2.2.1 ∈ k_ws ∧ Cond.initialized jX9_isPart.1.cls ∈ k_ws ∧ (jX9_isPart.1.cls ≠ "java/lang/invoke/MethodHandle" ∧ jX9_isPart.1.cls ≠ "java/lang/invoke/VarHandle" ∧ (parseMethodDescriptor jX9_isPart.1.desc).map (fun d => d.parameters.length) = some 3) := ⟨(k_m5 67 rfl rfl), (k_m1 10 rfl rfl), by decide +kernel, by decide +kernel, by decide +kernel⟩
theorem sX9_isPart : Cond.static jX9_isPart.1 ∈ k_ws := (k_m5 66 rfl rfl)
theorem hX9_badRow : Cond.code jX9_badRow.1 jX9_badRow.2.1 jX9_badRow.2.2.1 jX9_badRow.2.2.2.1 ∈ k_ws ∧ Cond.initialized jX9_badRow.1.cls ∈ k_ws ∧ (jX9_badRow.1.cls ≠ "java/lang/invoke/MethodHandle" ∧ jX9_badRow.1.cls ≠ "java/lang/invoke/VarHandle" ∧ (parseMethodDescriptor jX9_badRow.1.desc).map (fun d => d.parameters.length) = some 4) := ⟨(k_m5 64 rfl rfl), (k_m1 10 rfl rfl), by decide +kernel, by decide +kernel, by decide +kernel⟩
theorem vX9_badRow : Cond.instanceMethod jX9_badRow.1 ∈ k_ws ∧ Cond.selects jX9_badRow.1.cls jX9_badRow.1 jX9_badRow.1 ∈ k_ws := ⟨(k_m5 63 rfl rfl), (k_mp 43 rfl rfl)⟩
theorem hX9_sheet : Cond.code jX9_sheet.1 jX9_sheet.2.1 jX9_sheet.2.2.1 jX9_sheet.2.2.2.1 ∈ k_ws ∧ Cond.initialized jX9_sheet.1.cls ∈ k_ws ∧ (jX9_sheet.1.cls ≠ "java/lang/invoke/MethodHandle" ∧ jX9_sheet.1.cls ≠ "java/lang/invoke/VarHandle" ∧ (parseMethodDescriptor jX9_sheet.1.desc).map (fun d => d.parameters.length) = some 3) := ⟨(k_m5 48 rfl rfl), (k_m1 10 rfl rfl), by decide +kernel, by decide +kernel, by decide +kernel⟩
theorem vX9_sheet : Cond.instanceMethod jX9_sheet.1 ∈ k_ws ∧ Cond.selects jX9_sheet.1.cls jX9_sheet.1 jX9_sheet.1 ∈ k_ws := ⟨(k_m5 46 rfl rfl), (k_m5 47 rfl rfl)⟩
theorem hX9_drop : Cond.code jX9_drop.1 jX9_drop.2.1 jX9_drop.2.2.1 jX9_drop.2.2.2.1 ∈ k_ws ∧ Cond.initialized jX9_drop.1.cls ∈ k_ws ∧ (jX9_drop.1.cls ≠ "java/lang/invoke/MethodHandle" ∧ jX9_drop.1.cls ≠ "java/lang/invoke/VarHandle" ∧ (parseMethodDescriptor jX9_drop.1.desc).map (fun d => d.parameters.length) = some 1) := ⟨(k_m5 55 rfl rfl), (k_m1 10 rfl rfl), by decide +kernel, by decide +kernel, by decide +kernel⟩
theorem vX9_drop : Cond.instanceMethod jX9_drop.1 ∈ k_ws ∧ Cond.selects jX9_drop.1.cls jX9_drop.1 jX9_drop.1 ∈ k_ws := ⟨(k_m5 53 rfl rfl), (k_m5 54 rfl rfl)⟩
theorem hX9_item : Cond.code jX9_item.1 jX9_item.2.1 jX9_item.2.2.1 jX9_item.2.2.2.1 ∈ k_ws ∧ Cond.initialized jX9_item.1.cls ∈ k_ws ∧ (jX9_item.1.cls ≠ "java/lang/invoke/MethodHandle" ∧ jX9_item.1.cls ≠ "java/lang/invoke/VarHandle" ∧ (parseMethodDescriptor jX9_item.1.desc).map (fun d => d.parameters.length) = some 4) := ⟨(k_m5 59 rfl rfl), (k_m1 10 rfl rfl), by decide +kernel, by decide +kernel, by decide +kernel⟩
theorem vX9_item : Cond.instanceMethod jX9_item.1 ∈ k_ws ∧ Cond.selects jX9_item.1.cls jX9_item.1 jX9_item.1 ∈ k_ws := ⟨(k_m5 57 rfl rfl), (k_m5 58 rfl rfl)⟩
theorem hX9_copy : Cond.code jX9_copy.1 jX9_copy.2.1 jX9_copy.2.2.1 jX9_copy.2.2.2.1 ∈ k_ws ∧ Cond.initialized jX9_copy.1.cls ∈ k_ws ∧ (jX9_copy.1.cls ≠ "java/lang/invoke/MethodHandle" ∧ jX9_copy.1.cls ≠ "java/lang/invoke/VarHandle" ∧ (parseMethodDescriptor jX9_copy.1.desc).map (fun d => d.parameters.length) = some 5) := ⟨(k_m5 71 rfl rfl), (k_m1 10 rfl rfl), by decide +kernel, by decide +kernel, by decide +kernel⟩
theorem vX9_copy : Cond.instanceMethod jX9_copy.1 ∈ k_ws ∧ Cond.selects jX9_copy.1.cls jX9_copy.1 jX9_copy.1 ∈ k_ws := ⟨(k_m5 69 rfl rfl), (k_m5 70 rfl rfl)⟩
theorem hX9_cutTo : Cond.code jX9_cutTo.1 jX9_cutTo.2.1 jX9_cutTo.2.2.1 jX9_cutTo.2.2.2.1 ∈ k_ws ∧ Cond.initialized jX9_cutTo.1.cls ∈ k_ws ∧ (jX9_cutTo.1.cls ≠ "java/lang/invoke/MethodHandle" ∧ jX9_cutTo.1.cls ≠ "java/lang/invoke/VarHandle" ∧ (parseMethodDescriptor jX9_cutTo.1.desc).map (fun d => d.parameters.length) = some 2) := ⟨(k_m5 78 rfl rfl), (k_m1 10 rfl rfl), by decide +kernel, by decide +kernel, by decide +kernel⟩
theorem sX9_cutTo : Cond.static jX9_cutTo.1 ∈ k_ws := (k_m5 77 rfl rfl)
theorem hX9_log : Cond.code jX9_log.1 jX9_log.2.1 jX9_log.2.2.1 jX9_log.2.2.2.1 ∈ k_ws ∧ Cond.initialized jX9_log.1.cls ∈ k_ws ∧ (jX9_log.1.cls ≠ "java/lang/invoke/MethodHandle" ∧ jX9_log.1.cls ≠ "java/lang/invoke/VarHandle" ∧ (parseMethodDescriptor jX9_log.1.desc).map (fun d => d.parameters.length) = some 3) := ⟨(k_m5 75 rfl rfl), (k_m1 10 rfl rfl), by decide +kernel, by decide +kernel, by decide +kernel⟩
theorem vX9_log : Cond.instanceMethod jX9_log.1 ∈ k_ws ∧ Cond.selects jX9_log.1.cls jX9_log.1 jX9_log.1 ∈ k_ws := ⟨(k_m5 73 rfl rfl), (k_m5 74 rfl rfl)⟩
theorem hX9_areBelow : Cond.code jX9_areBelow.1 jX9_areBelow.2.1 jX9_areBelow.2.2.1 jX9_areBelow.2.2.2.1 ∈ k_ws ∧ Cond.initialized jX9_areBelow.1.cls ∈ k_ws ∧ (jX9_areBelow.1.cls ≠ "java/lang/invoke/MethodHandle" ∧ jX9_areBelow.1.cls ≠ "java/lang/invoke/VarHandle" ∧ (parseMethodDescriptor jX9_areBelow.1.desc).map (fun d => d.parameters.length) = some 4) := ⟨(k_m5 86 rfl rfl), (k_m1 10 rfl rfl), by decide +kernel, by decide +kernel, by decide +kernel⟩
theorem vX9_areBelow : Cond.instanceMethod jX9_areBelow.1 ∈ k_ws ∧ Cond.selects jX9_areBelow.1.cls jX9_areBelow.1 jX9_areBelow.1 ∈ k_ws := ⟨(k_m5 85 rfl rfl), (k_mp 44 rfl rfl)⟩
theorem hX9_aloneSings : Cond.code jX9_aloneSings.1 jX9_aloneSings.2.1 jX9_aloneSings.2.2.1 jX9_aloneSings.2.2.2.1 ∈ k_ws ∧ Cond.initialized jX9_aloneSings.1.cls ∈ k_ws ∧ (jX9_aloneSings.1.cls ≠ "java/lang/invoke/MethodHandle" ∧ jX9_aloneSings.1.cls ≠ "java/lang/invoke/VarHandle" ∧ (parseMethodDescriptor jX9_aloneSings.1.desc).map (fun d => d.parameters.length) = some 4) := ⟨(k_m5 94 rfl rfl), (k_m1 10 rfl rfl), by decide +kernel, by decide +kernel, by decide +kernel⟩
theorem vX9_aloneSings : Cond.instanceMethod jX9_aloneSings.1 ∈ k_ws ∧ Cond.selects jX9_aloneSings.1.cls jX9_aloneSings.1 jX9_aloneSings.1 ∈ k_ws := ⟨(k_m5 93 rfl rfl), (k_mp 46 rfl rfl)⟩
theorem hX9_layFits : Cond.code jX9_layFits.1 jX9_layFits.2.1 jX9_layFits.2.2.1 jX9_layFits.2.2.2.1 ∈ k_ws ∧ Cond.initialized jX9_layFits.1.cls ∈ k_ws ∧ (jX9_layFits.1.cls ≠ "java/lang/invoke/MethodHandle" ∧ jX9_layFits.1.cls ≠ "java/lang/invoke/VarHandle" ∧ (parseMethodDescriptor jX9_layFits.1.desc).map (fun d => d.parameters.length) = some 2) := ⟨(k_m5 90 rfl rfl), (k_m1 10 rfl rfl), by decide +kernel, by decide +kernel, by decide +kernel⟩
theorem vX9_layFits : Cond.instanceMethod jX9_layFits.1 ∈ k_ws ∧ Cond.selects jX9_layFits.1.cls jX9_layFits.1 jX9_layFits.1 ∈ k_ws := ⟨(k_m5 89 rfl rfl), (k_mp 45 rfl rfl)⟩
theorem hX9_leastFit : Cond.code jX9_leastFit.1 jX9_leastFit.2.1 jX9_leastFit.2.2.1 jX9_leastFit.2.2.2.1 ∈ k_ws ∧ Cond.initialized jX9_leastFit.1.cls ∈ k_ws ∧ (jX9_leastFit.1.cls ≠ "java/lang/invoke/MethodHandle" ∧ jX9_leastFit.1.cls ≠ "java/lang/invoke/VarHandle" ∧ (parseMethodDescriptor jX9_leastFit.1.desc).map (fun d => d.parameters.length) = some 0) := ⟨(k_m5 98 rfl rfl), (k_m1 10 rfl rfl), by decide +kernel, by decide +kernel, by decide +kernel⟩
theorem vX9_leastFit : Cond.instanceMethod jX9_leastFit.1 ∈ k_ws ∧ Cond.selects jX9_leastFit.1.cls jX9_leastFit.1 jX9_leastFit.1 ∈ k_ws := ⟨(k_m5 97 rfl rfl), (k_mp 47 rfl rfl)⟩
theorem hX9_bestHeard : Cond.code jX9_bestHeard.1 jX9_bestHeard.2.1 jX9_bestHeard.2.2.1 jX9_bestHeard.2.2.2.1 ∈ k_ws ∧ Cond.initialized jX9_bestHeard.1.cls ∈ k_ws ∧ (jX9_bestHeard.1.cls ≠ "java/lang/invoke/MethodHandle" ∧ jX9_bestHeard.1.cls ≠ "java/lang/invoke/VarHandle" ∧ (parseMethodDescriptor jX9_bestHeard.1.desc).map (fun d => d.parameters.length) = some 0) := ⟨(k_m5 102 rfl rfl), (k_m1 10 rfl rfl), by decide +kernel, by decide +kernel, by decide +kernel⟩
theorem vX9_bestHeard : Cond.instanceMethod jX9_bestHeard.1 ∈ k_ws ∧ Cond.selects jX9_bestHeard.1.cls jX9_bestHeard.1 jX9_bestHeard.1 ∈ k_ws := ⟨(k_m5 101 rfl rfl), (k_mp 48 rfl rfl)⟩
theorem hX9_sounded : Cond.code jX9_sounded.1 jX9_sounded.2.1 jX9_sounded.2.2.1 jX9_sounded.2.2.2.1 ∈ k_ws ∧ Cond.initialized jX9_sounded.1.cls ∈ k_ws ∧ (jX9_sounded.1.cls ≠ "java/lang/invoke/MethodHandle" ∧ jX9_sounded.1.cls ≠ "java/lang/invoke/VarHandle" ∧ (parseMethodDescriptor jX9_sounded.1.desc).map (fun d => d.parameters.length) = some 5) := ⟨(k_m5 82 rfl rfl), (k_m1 10 rfl rfl), by decide +kernel, by decide +kernel, by decide +kernel⟩
theorem vX9_sounded : Cond.instanceMethod jX9_sounded.1 ∈ k_ws ∧ Cond.selects jX9_sounded.1.cls jX9_sounded.1 jX9_sounded.1 ∈ k_ws := ⟨(k_m5 80 rfl rfl), (k_m5 81 rfl rfl)⟩
theorem hX9_kinds : Cond.code jX9_kinds.1 jX9_kinds.2.1 jX9_kinds.2.2.1 jX9_kinds.2.2.2.1 ∈ k_ws ∧ Cond.initialized jX9_kinds.1.cls ∈ k_ws ∧ (jX9_kinds.1.cls ≠ "java/lang/invoke/MethodHandle" ∧ jX9_kinds.1.cls ≠ "java/lang/invoke/VarHandle" ∧ (parseMethodDescriptor jX9_kinds.1.desc).map (fun d => d.parameters.length) = some 5) := ⟨(k_m5 106 rfl rfl), (k_m1 10 rfl rfl), by decide +kernel, by decide +kernel, by decide +kernel⟩
theorem vX9_kinds : Cond.instanceMethod jX9_kinds.1 ∈ k_ws ∧ Cond.selects jX9_kinds.1.cls jX9_kinds.1 jX9_kinds.1 ∈ k_ws := ⟨(k_m5 104 rfl rfl), (k_m5 105 rfl rfl)⟩
theorem hX9_fieldsWith : Cond.code jX9_fieldsWith.1 jX9_fieldsWith.2.1 jX9_fieldsWith.2.2.1 jX9_fieldsWith.2.2.2.1 ∈ k_ws ∧ Cond.initialized jX9_fieldsWith.1.cls ∈ k_ws ∧ (jX9_fieldsWith.1.cls ≠ "java/lang/invoke/MethodHandle" ∧ jX9_fieldsWith.1.cls ≠ "java/lang/invoke/VarHandle" ∧ (parseMethodDescriptor jX9_fieldsWith.1.desc).map (fun d => d.parameters.length) = some 1) := ⟨(k_m5 114 rfl rfl), (k_m1 10 rfl rfl), by decide +kernel, by decide +kernel, by decide +kernel⟩
theorem vX9_fieldsWith : Cond.instanceMethod jX9_fieldsWith.1 ∈ k_ws ∧ Cond.selects jX9_fieldsWith.1.cls jX9_fieldsWith.1 jX9_fieldsWith.1 ∈ k_ws := ⟨(k_m5 113 rfl rfl), (k_mp 49 rfl rfl)⟩
theorem hX9_count : Cond.code jX9_count.1 jX9_count.2.1 jX9_count.2.2.1 jX9_count.2.2.2.1 ∈ k_ws ∧ Cond.initialized jX9_count.1.cls ∈ k_ws ∧ (jX9_count.1.cls ≠ "java/lang/invoke/MethodHandle" ∧ jX9_count.1.cls ≠ "java/lang/invoke/VarHandle" ∧ (parseMethodDescriptor jX9_count.1.desc).map (fun d => d.parameters.length) = some 1) := ⟨(k_m5 110 rfl rfl), (k_m1 10 rfl rfl), by decide +kernel, by decide +kernel, by decide +kernel⟩
theorem vX9_count : Cond.instanceMethod jX9_count.1 ∈ k_ws ∧ Cond.selects jX9_count.1.cls jX9_count.1 jX9_count.1 ∈ k_ws := ⟨(k_m5 108 rfl rfl), (k_m5 109 rfl rfl)⟩
theorem hJ6_bitCount_0f7a4 : Cond.code jJ6_bitCount_0f7a4.1 jJ6_bitCount_0f7a4.2.1 jJ6_bitCount_0f7a4.2.2.1 jJ6_bitCount_0f7a4.2.2.2.1 ∈ k_ws ∧ Cond.initialized jJ6_bitCount_0f7a4.1.cls ∈ k_ws ∧ (jJ6_bitCount_0f7a4.1.cls ≠ "java/lang/invoke/MethodHandle" ∧ jJ6_bitCount_0f7a4.1.cls ≠ "java/lang/invoke/VarHandle" ∧ (parseMethodDescriptor jJ6_bitCount_0f7a4.1.desc).map (fun d => d.parameters.length) = some 1) := ⟨(k_m2 82 rfl rfl), (k_m1 12 rfl rfl), by decide +kernel, by decide +kernel, by decide +kernel⟩
theorem sJ6_bitCount_0f7a4 : Cond.static jJ6_bitCount_0f7a4.1 ∈ k_ws := (k_m2 81 rfl rfl)
theorem hJ9_max_7cf53 : Cond.code jJ9_max_7cf53.1 jJ9_max_7cf53.2.1 jJ9_max_7cf53.2.2.1 jJ9_max_7cf53.2.2.2.1 ∈ k_ws ∧ Cond.initialized jJ9_max_7cf53.1.cls ∈ k_ws ∧ (jJ9_max_7cf53.1.cls ≠ "java/lang/invoke/MethodHandle" ∧ jJ9_max_7cf53.1.cls ≠ "java/lang/invoke/VarHandle" ∧ (parseMethodDescriptor jJ9_max_7cf53.1.desc).map (fun d => d.parameters.length) = some 2) := ⟨(k_m3 20 rfl rfl), (k_m1 14 rfl rfl), by decide +kernel, by decide +kernel, by decide +kernel⟩
theorem sJ9_max_7cf53 : Cond.static jJ9_max_7cf53.1 ∈ k_ws := (k_m3 19 rfl rfl)
theorem hJ9_min_7cf53 : Cond.code jJ9_min_7cf53.1 jJ9_min_7cf53.2.1 jJ9_min_7cf53.2.2.1 jJ9_min_7cf53.2.2.2.1 ∈ k_ws ∧ Cond.initialized jJ9_min_7cf53.1.cls ∈ k_ws ∧ (jJ9_min_7cf53.1.cls ≠ "java/lang/invoke/MethodHandle" ∧ jJ9_min_7cf53.1.cls ≠ "java/lang/invoke/VarHandle" ∧ (parseMethodDescriptor jJ9_min_7cf53.1.desc).map (fun d => d.parameters.length) = some 2) := ⟨(k_m2 214 rfl rfl), (k_m1 14 rfl rfl), by decide +kernel, by decide +kernel, by decide +kernel⟩
theorem sJ9_min_7cf53 : Cond.static jJ9_min_7cf53.1 ∈ k_ws := (k_m2 213 rfl rfl)
theorem hJ7_fill_d0a16 : Cond.code jJ7_fill_d0a16.1 jJ7_fill_d0a16.2.1 jJ7_fill_d0a16.2.2.1 jJ7_fill_d0a16.2.2.2.1 ∈ k_ws ∧ Cond.initialized jJ7_fill_d0a16.1.cls ∈ k_ws ∧ (jJ7_fill_d0a16.1.cls ≠ "java/lang/invoke/MethodHandle" ∧ jJ7_fill_d0a16.1.cls ≠ "java/lang/invoke/VarHandle" ∧ (parseMethodDescriptor jJ7_fill_d0a16.1.desc).map (fun d => d.parameters.length) = some 2) := ⟨(k_m3 157 rfl rfl), (k_m1 11 rfl rfl), by decide +kernel, by decide +kernel, by decide +kernel⟩
theorem sJ7_fill_d0a16 : Cond.static jJ7_fill_d0a16.1 ∈ k_ws := (k_m3 156 rfl rfl)
theorem hJ7_fill_53178 : Cond.code jJ7_fill_53178.1 jJ7_fill_53178.2.1 jJ7_fill_53178.2.2.1 jJ7_fill_53178.2.2.2.1 ∈ k_ws ∧ Cond.initialized jJ7_fill_53178.1.cls ∈ k_ws ∧ (jJ7_fill_53178.1.cls ≠ "java/lang/invoke/MethodHandle" ∧ jJ7_fill_53178.1.cls ≠ "java/lang/invoke/VarHandle" ∧ (parseMethodDescriptor jJ7_fill_53178.1.desc).map (fun d => d.parameters.length) = some 2) := ⟨(k_m2 55 rfl rfl), (k_m1 11 rfl rfl), by decide +kernel, by decide +kernel, by decide +kernel⟩
theorem sJ7_fill_53178 : Cond.static jJ7_fill_53178.1 ∈ k_ws := (k_m2 54 rfl rfl)
theorem mX8_70 : Cond.methodLink RX8 70 jX8_within.1 ∈ k_ws := (k_m2 34 rfl rfl)
theorem mX8_78 : Cond.methodLink RX8 78 jX6_put.1 ∈ k_ws := (k_m2 37 rfl rfl)
theorem mX8_82 : Cond.methodLink RX8 82 jX6_readValley.1 ∈ k_ws := (k_m2 45 rfl rfl)
theorem mX8_89 : Cond.methodLink RX8 89 jX8_begin.1 ∈ k_ws := (k_m2 107 rfl rfl)
theorem mX8_103 : Cond.methodLink RX8 103 jX8_isField.1 ∈ k_ws := (k_m2 144 rfl rfl)
theorem mX8_110 : Cond.methodLink RX8 110 jX7_standing.1 ∈ k_ws := (k_m2 148 rfl rfl)
theorem mX8_113 : Cond.methodLink RX8 113 jX8_tellChord.1 ∈ k_ws := (k_m2 152 rfl rfl)
theorem mX8_117 : Cond.methodLink RX8 117 jX8_isSinger.1 ∈ k_ws := (k_m2 176 rfl rfl)
theorem mX8_134 : Cond.methodLink RX8 134 jX8_tellPlace.1 ∈ k_ws := (k_m2 180 rfl rfl)
theorem mX8_140 : Cond.methodLink RX8 140 jX8_has.1 ∈ k_ws := (k_m2 189 rfl rfl)
theorem mX8_143 : Cond.methodLink RX8 143 jX7_isThere.1 ∈ k_ws := (k_m2 196 rfl rfl)
theorem mX8_150 : Cond.methodLink RX8 150 jX7_packTired.1 ∈ k_ws := (k_m2 204 rfl rfl)
theorem mX8_154 : Cond.methodLink RX8 154 jX0_keep.1 ∈ k_ws := (k_m2 208 rfl rfl)
theorem mX8_158 : Cond.methodLink RX8 158 jX1_passHour.1 ∈ k_ws := (k_m2 215 rfl rfl)
theorem mX8_162 : Cond.methodLink RX8 162 jX7_turnPitch.1 ∈ k_ws := (k_m3 29 rfl rfl)
theorem mX8_167 : Cond.methodLink RX8 167 jX0_takeBack.1 ∈ k_ws := (k_m3 37 rfl rfl)
theorem mX8_170 : Cond.methodLink RX8 170 jX7_become.1 ∈ k_ws := (k_m2 111 rfl rfl)
theorem mX8_173 : Cond.methodLink RX8 173 jX1_singAll.1 ∈ k_ws := (k_m3 58 rfl rfl)
theorem mX8_179 : Cond.methodLink RX8 179 jX7_tiredInAll.1 ∈ k_ws := (k_m3 63 rfl rfl)
theorem mX8_182 : Cond.methodLink RX8 182 jJ6_bitCount_0f7a4.1 ∈ k_ws := (k_m3 71 rfl rfl)
theorem mX8_187 : Cond.methodLink RX8 187 jX1_sing.1 ∈ k_ws := (k_m3 72 rfl rfl)
theorem mX8_191 : Cond.methodLink RX8 191 jX5_find.1 ∈ k_ws := (k_m3 77 rfl rfl)
theorem mX8_195 : Cond.methodLink RX8 195 jX5_fullFields.1 ∈ k_ws := (k_m3 103 rfl rfl)
theorem mX8_198 : Cond.methodLink RX8 198 jX5_bestPlace.1 ∈ k_ws := (k_m3 107 rfl rfl)
theorem mX8_201 : Cond.methodLink RX8 201 jX2_isThere.1 ∈ k_ws := (k_m3 115 rfl rfl)
theorem mX8_205 : Cond.methodLink RX8 205 jX7_rested.1 ∈ k_ws := (k_m3 124 rfl rfl)
theorem mX8_208 : Cond.methodLink RX8 208 jX8_power.1 ∈ k_ws := (k_m3 125 rfl rfl)
theorem mX8_211 : Cond.methodLink RX8 211 jX8_sharedDivisor.1 ∈ k_ws := (k_m3 126 rfl rfl)
theorem mX8_219 : Cond.methodLink RX8 219 jX7_disturb.1 ∈ k_ws := (k_m3 137 rfl rfl)
theorem mX8_223 : Cond.methodLink RX8 223 jX4_begin.1 ∈ k_ws := (k_m3 151 rfl rfl)
theorem mX8_225 : Cond.methodLink RX8 225 jX4_isThere.1 ∈ k_ws := (k_m3 162 rfl rfl)
theorem mX8_227 : Cond.methodLink RX8 227 jX4_end.1 ∈ k_ws := (k_m3 166 rfl rfl)
theorem mX8_230 : Cond.methodLink RX8 230 jX8_refusal.1 ∈ k_ws := (k_m3 174 rfl rfl)
theorem mX8_234 : Cond.methodLink RX8 234 jX4_put.1 ∈ k_ws := (k_m3 182 rfl rfl)
theorem mX8_244 : Cond.methodLink RX8 244 jX4_holds.1 ∈ k_ws := (k_m3 178 rfl rfl)
theorem acX8_247 : k_ac RX8 247 := ⟨(k_m3 190 rfl rfl), (k_m2 117 rfl rfl), (k_m2 116 rfl rfl), (k_m1 13 rfl rfl)⟩
theorem mX8_253 : Cond.methodLink RX8 253 jX4_holdsPairs.1 ∈ k_ws := (k_m3 199 rfl rfl)
theorem mX8_257 : Cond.methodLink RX8 257 jX3_listen.1 ∈ k_ws := (k_m3 204 rfl rfl)
theorem mX8_267 : Cond.methodLink RX8 267 jX3_bestToHear.1 ∈ k_ws := (k_m3 222 rfl rfl)
theorem mX8_270 : Cond.methodLink RX8 270 jX7_range.1 ∈ k_ws := (k_m3 231 rfl rfl)
theorem mX8_273 : Cond.methodLink RX8 273 jX8_agrees.1 ∈ k_ws := (k_m3 232 rfl rfl)
theorem mX8_280 : Cond.methodLink RX8 280 jX8_fieldsWithChord.1 ∈ k_ws := (k_m4 1 rfl rfl)
theorem mX8_284 : Cond.methodLink RX8 284 jX2_shapeOf.1 ∈ k_ws := (k_m2 156 rfl rfl)
theorem mX8_287 : Cond.methodLink RX8 287 jX2_rootOf.1 ∈ k_ws := (k_m2 164 rfl rfl)
theorem mX8_290 : Cond.methodLink RX8 290 jX2_missingOf.1 ∈ k_ws := (k_m2 168 rfl rfl)
theorem mX8_293 : Cond.methodLink RX8 293 jX2_learn.1 ∈ k_ws := (k_m2 118 rfl rfl)
theorem mX8_296 : Cond.methodLink RX8 296 jX0_forget.1 ∈ k_ws := (k_m2 132 rfl rfl)
theorem mX8_299 : Cond.methodLink RX8 299 jJ9_max_7cf53.1 ∈ k_ws := (k_m3 129 rfl rfl)
theorem mX8_304 : Cond.methodLink RX8 304 jX1_alone.1 ∈ k_ws := (k_m3 236 rfl rfl)
theorem mX0_28 : Cond.methodLink RX0 28 jJ9_min_7cf53.1 ∈ k_ws := (k_m2 212 rfl rfl)
theorem mX0_34 : Cond.methodLink RX0 34 jX7_unpackTired.1 ∈ k_ws := (k_m3 41 rfl rfl)
theorem mX0_46 : Cond.methodLink RX0 46 jX7_turnPitch.1 ∈ k_ws := (k_m3 45 rfl rfl)
theorem mX1_27 : Cond.methodLink RX1 27 jX7_rested.1 ∈ k_ws := (k_m2 229 rfl rfl)
theorem mX1_31 : Cond.methodLink RX1 31 jX2_missingOf.1 ∈ k_ws := (k_m2 233 rfl rfl)
theorem mX1_46 : Cond.methodLink RX1 46 jX2_rootOf.1 ∈ k_ws := (k_m2 235 rfl rfl)
theorem mX1_49 : Cond.methodLink RX1 49 jX7_range.1 ∈ k_ws := (k_m2 236 rfl rfl)
theorem mX1_52 : Cond.methodLink RX1 52 jX1_choose.1 ∈ k_ws := (k_m3 0 rfl rfl)
theorem mX1_56 : Cond.methodLink RX1 56 jX2_isThere.1 ∈ k_ws := (k_m3 15 rfl rfl)
theorem mX1_60 : Cond.methodLink RX1 60 jJ7_fill_53178.1 ∈ k_ws := (k_m2 223 rfl rfl)
theorem mX1_69 : Cond.methodLink RX1 69 jX7_standing.1 ∈ k_ws := (k_m2 224 rfl rfl)
theorem mX1_72 : Cond.methodLink RX1 72 jX1_sing.1 ∈ k_ws := (k_m2 225 rfl rfl)
theorem mX1_76 : Cond.methodLink RX1 76 jX1_singAll.1 ∈ k_ws := (k_m2 219 rfl rfl)
theorem mX1_86 : Cond.methodLink RX1 86 jJ9_max_7cf53.1 ∈ k_ws := (k_m3 18 rfl rfl)
theorem mX1_95 : Cond.methodLink RX1 95 jX1_greatest.1 ∈ k_ws := (k_m3 3 rfl rfl)
theorem mX1_98 : Cond.methodLink RX1 98 jX1_above.1 ∈ k_ws := (k_m3 6 rfl rfl)
theorem mX1_101 : Cond.methodLink RX1 101 jX1_least.1 ∈ k_ws := (k_m3 9 rfl rfl)
theorem mX1_104 : Cond.methodLink RX1 104 jX1_firstOf.1 ∈ k_ws := (k_m3 12 rfl rfl)
theorem mX2_18 : Cond.methodLink RX2 18 jJ7_fill_53178.1 ∈ k_ws := (k_m2 122 rfl rfl)
theorem mX2_33 : Cond.methodLink RX2 33 jJ6_bitCount_0f7a4.1 ∈ k_ws := (k_m2 123 rfl rfl)
theorem mX2_39 : Cond.methodLink RX2 39 jX2_learnShape.1 ∈ k_ws := (k_m2 124 rfl rfl)
theorem mX2_43 : Cond.methodLink RX2 43 jX2_claimParts.1 ∈ k_ws := (k_m2 128 rfl rfl)
theorem mX2_47 : Cond.methodLink RX2 47 jX2_isThere.1 ∈ k_ws := (k_m2 160 rfl rfl)
theorem mX3_34 : Cond.methodLink RX3 34 jJ7_fill_53178.1 ∈ k_ws := (k_m3 208 rfl rfl)
theorem mX3_40 : Cond.methodLink RX3 40 jX3_agrees.1 ∈ k_ws := (k_m3 209 rfl rfl)
theorem mX3_44 : Cond.methodLink RX3 44 jX3_sort.1 ∈ k_ws := (k_m3 218 rfl rfl)
theorem mX3_48 : Cond.methodLink RX3 48 jJ9_max_7cf53.1 ∈ k_ws := (k_m3 226 rfl rfl)
theorem mX3_59 : Cond.methodLink RX3 59 jX7_range.1 ∈ k_ws := (k_m3 213 rfl rfl)
theorem mX3_63 : Cond.methodLink RX3 63 jX1_alone.1 ∈ k_ws := (k_m3 214 rfl rfl)
theorem mX4_22 : Cond.methodLink RX4 22 jJ7_fill_d0a16.1 ∈ k_ws := (k_m3 155 rfl rfl)
theorem mX5_33 : Cond.methodLink RX5 33 jX5_weigh.1 ∈ k_ws := (k_m3 81 rfl rfl)
theorem mX5_37 : Cond.methodLink RX5 37 jJ7_fill_53178.1 ∈ k_ws := (k_m3 90 rfl rfl)
theorem mX5_53 : Cond.methodLink RX5 53 jX5_worthOfAll.1 ∈ k_ws := (k_m3 94 rfl rfl)
theorem acX5_57 : k_ac RX5 57 := ⟨(k_m3 98 rfl rfl), (k_m2 117 rfl rfl), (k_m2 116 rfl rfl), (k_m1 13 rfl rfl)⟩
theorem mX5_63 : Cond.methodLink RX5 63 jX5_turn.1 ∈ k_ws := (k_m3 99 rfl rfl)
theorem mX5_67 : Cond.methodLink RX5 67 jX1_sing.1 ∈ k_ws := (k_m3 85 rfl rfl)
theorem mX5_73 : Cond.methodLink RX5 73 jX1_effortOf.1 ∈ k_ws := (k_m3 86 rfl rfl)
theorem mX6_22 : Cond.methodLink RX6 22 jX7_clear.1 ∈ k_ws := (k_m2 49 rfl rfl)
theorem mX6_27 : Cond.methodLink RX6 27 jX6_take.1 ∈ k_ws := (k_m2 56 rfl rfl)
theorem mX6_31 : Cond.methodLink RX6 31 jX6_readShapes.1 ∈ k_ws := (k_m2 64 rfl rfl)
theorem mX6_35 : Cond.methodLink RX6 35 jX6_readFields.1 ∈ k_ws := (k_m2 86 rfl rfl)
theorem mX6_38 : Cond.methodLink RX6 38 jX6_readSingers.1 ∈ k_ws := (k_m2 90 rfl rfl)
theorem mX6_41 : Cond.methodLink RX6 41 jX6_peek.1 ∈ k_ws := (k_m2 60 rfl rfl)
theorem mX6_45 : Cond.methodLink RX6 45 jX6_peekPitch.1 ∈ k_ws := (k_m2 72 rfl rfl)
theorem mX6_48 : Cond.methodLink RX6 48 jX6_readShape.1 ∈ k_ws := (k_m2 68 rfl rfl)
theorem mX6_60 : Cond.methodLink RX6 60 jX6_takeRising.1 ∈ k_ws := (k_m2 76 rfl rfl)
theorem mX6_64 : Cond.methodLink RX6 64 jJ6_bitCount_0f7a4.1 ∈ k_ws := (k_m2 80 rfl rfl)
theorem mX6_75 : Cond.methodLink RX6 75 jX6_readKind.1 ∈ k_ws := (k_m2 94 rfl rfl)
theorem mX6_78 : Cond.methodLink RX6 78 jX6_readRange.1 ∈ k_ws := (k_m2 98 rfl rfl)
theorem mX6_81 : Cond.methodLink RX6 81 jX6_readPlace.1 ∈ k_ws := (k_m2 102 rfl rfl)
theorem mX7_46 : Cond.methodLink RX7 46 jJ7_fill_53178.1 ∈ k_ws := (k_m2 53 rfl rfl)
theorem acX7_52 : k_ac RX7 52 := ⟨(k_m2 115 rfl rfl), (k_m2 117 rfl rfl), (k_m2 116 rfl rfl), (k_m1 13 rfl rfl)⟩
theorem mX7_58 : Cond.methodLink RX7 58 jX7_isThere.1 ∈ k_ws := (k_m3 141 rfl rfl)
theorem mX7_66 : Cond.methodLink RX7 66 jX7_turnPitch.1 ∈ k_ws := (k_m3 144 rfl rfl)
theorem mX9_54 : Cond.methodLink RX9 54 jX9_in.1 ∈ k_ws := (k_m4 74 rfl rfl)
theorem mX9_65 : Cond.methodLink RX9 65 jX9_peek.1 ∈ k_ws := (k_m4 89 rfl rfl)
theorem mX9_69 : Cond.methodLink RX9 69 jX9_pitchThere.1 ∈ k_ws := (k_m4 97 rfl rfl)
theorem mX9_72 : Cond.methodLink RX9 72 jX9_pitches.1 ∈ k_ws := (k_m4 101 rfl rfl)
theorem mX9_76 : Cond.methodLink RX9 76 jX9_bits.1 ∈ k_ws := (k_m4 105 rfl rfl)
theorem mX9_79 : Cond.methodLink RX9 79 jX9_isSign.1 ∈ k_ws := (k_m4 85 rfl rfl)
theorem mX9_83 : Cond.methodLink RX9 83 jX9_kindBy.1 ∈ k_ws := (k_m4 116 rfl rfl)
theorem mX9_86 : Cond.methodLink RX9 86 jX9_isShape.1 ∈ k_ws := (k_m4 93 rfl rfl)
theorem mX9_90 : Cond.methodLink RX9 90 jX9_isFieldItem.1 ∈ k_ws := (k_m4 108 rfl rfl)
theorem mX9_93 : Cond.methodLink RX9 93 jX9_isSinger.1 ∈ k_ws := (k_m4 112 rfl rfl)
theorem mX9_96 : Cond.methodLink RX9 96 jX9_isRead.1 ∈ k_ws := (k_m4 81 rfl rfl)
theorem mX9_99 : Cond.methodLink RX9 99 jX9_bring.1 ∈ k_ws := (k_m4 119 rfl rfl)
theorem mX9_106 : Cond.methodLink RX9 106 jX9_chordOn.1 ∈ k_ws := (k_m4 137 rfl rfl)
theorem mX9_110 : Cond.methodLink RX9 110 jX9_isThere.1 ∈ k_ws := (k_m4 130 rfl rfl)
theorem mX9_113 : Cond.methodLink RX9 113 jX9_chordBy.1 ∈ k_ws := (k_m4 134 rfl rfl)
theorem mX9_117 : Cond.methodLink RX9 117 jX9_missingBy.1 ∈ k_ws := (k_m4 140 rfl rfl)
theorem mX9_121 : Cond.methodLink RX9 121 jX9_isField.1 ∈ k_ws := (k_m4 147 rfl rfl)
theorem mX9_124 : Cond.methodLink RX9 124 jX9_whoAt.1 ∈ k_ws := (k_m4 151 rfl rfl)
theorem mX9_127 : Cond.methodLink RX9 127 jX9_chord.1 ∈ k_ws := (k_m4 154 rfl rfl)
theorem mX9_130 : Cond.methodLink RX9 130 jX9_isOne.1 ∈ k_ws := (k_m4 159 rfl rfl)
theorem mX9_133 : Cond.methodLink RX9 133 jX9_has.1 ∈ k_ws := (k_m4 191 rfl rfl)
theorem mX9_137 : Cond.methodLink RX9 137 jX9_lowest.1 ∈ k_ws := (k_m4 200 rfl rfl)
theorem mX9_140 : Cond.methodLink RX9 140 jX9_highest.1 ∈ k_ws := (k_m4 203 rfl rfl)
theorem mX9_143 : Cond.methodLink RX9 143 jX9_rangeOf.1 ∈ k_ws := (k_m4 194 rfl rfl)
theorem mX9_146 : Cond.methodLink RX9 146 jX9_singsOf.1 ∈ k_ws := (k_m4 197 rfl rfl)
theorem mX9_150 : Cond.methodLink RX9 150 jX9_hush.1 ∈ k_ws := (k_m4 183 rfl rfl)
theorem mX9_153 : Cond.methodLink RX9 153 jX9_singIn.1 ∈ k_ws := (k_m4 187 rfl rfl)
theorem mX9_156 : Cond.methodLink RX9 156 jX9_singAll.1 ∈ k_ws := (k_m4 179 rfl rfl)
theorem mX9_160 : Cond.methodLink RX9 160 jX9_tires.1 ∈ k_ws := (k_m4 206 rfl rfl)
theorem mX9_163 : Cond.methodLink RX9 163 jX9_note.1 ∈ k_ws := (k_m4 171 rfl rfl)
theorem mX9_166 : Cond.methodLink RX9 166 jX9_hourIn.1 ∈ k_ws := (k_m4 175 rfl rfl)
theorem mX9_169 : Cond.methodLink RX9 169 jX9_turn.1 ∈ k_ws := (k_m4 217 rfl rfl)
theorem mX9_173 : Cond.methodLink RX9 173 jX9_begin.1 ∈ k_ws := (k_m5 0 rfl rfl)
theorem mX9_176 : Cond.methodLink RX9 176 jX9_tiredOf.1 ∈ k_ws := (k_m5 4 rfl rfl)
theorem mX9_185 : Cond.methodLink RX9 185 jX9_layStands.1 ∈ k_ws := (k_m5 15 rfl rfl)
theorem mX9_188 : Cond.methodLink RX9 188 jX9_part.1 ∈ k_ws := (k_m5 31 rfl rfl)
theorem mX9_204 : Cond.methodLink RX9 204 jX9_isPart.1 ∈ k_ws := (k_m5 65 rfl rfl)
theorem mX9_207 : Cond.methodLink RX9 207 jX9_isSheet.1 ∈ k_ws := (k_m5 49 rfl rfl)
theorem mX9_212 : Cond.methodLink RX9 212 jX9_badRow.1 ∈ k_ws := (k_m5 61 rfl rfl)
theorem mX9_216 : Cond.methodLink RX9 216 jX9_cutTo.1 ∈ k_ws := (k_m5 76 rfl rfl)
theorem mX9_220 : Cond.methodLink RX9 220 jX9_aloneSings.1 ∈ k_ws := (k_m5 91 rfl rfl)
theorem mX9_223 : Cond.methodLink RX9 223 jX9_areBelow.1 ∈ k_ws := (k_m5 83 rfl rfl)
theorem mX9_227 : Cond.methodLink RX9 227 jX9_layFits.1 ∈ k_ws := (k_m5 87 rfl rfl)
theorem mX9_230 : Cond.methodLink RX9 230 jX9_leastFit.1 ∈ k_ws := (k_m5 95 rfl rfl)
theorem mX9_233 : Cond.methodLink RX9 233 jX9_bestHeard.1 ∈ k_ws := (k_m5 99 rfl rfl)
theorem mX9_236 : Cond.methodLink RX9 236 jX9_fieldsWith.1 ∈ k_ws := (k_m5 111 rfl rfl)
theorem cX8_214 : Cond.constant RX8 214 (999999) ∈ k_ws := (k_m3 134 rfl rfl)
theorem cX9_191 : Cond.constant RX9 191 (999999) ∈ k_ws := (k_m5 38 rfl rfl)
theorem cJ6_265 : Cond.constant RJ6 265 (1431655765) ∈ k_ws := (k_m2 83 rfl rfl)
theorem cJ6_266 : Cond.constant RJ6 266 (858993459) ∈ k_ws := (k_m2 84 rfl rfl)
theorem cJ6_267 : Cond.constant RJ6 267 (252645135) ∈ k_ws := (k_m2 85 rfl rfl)
theorem clX8_215 : Cond.constantLong RX8 215 (16807) ∈ k_ws := (k_m3 135 rfl rfl)
theorem clX8_217 : Cond.constantLong RX8 217 (2147483647) ∈ k_ws := (k_m3 136 rfl rfl)
theorem clX4_28 : Cond.constantLong RX4 28 (12) ∈ k_ws := (k_m3 203 rfl rfl)
theorem clX7_62 : Cond.constantLong RX7 62 (16) ∈ k_ws := (k_m3 142 rfl rfl)
theorem clX7_64 : Cond.constantLong RX7 64 (12) ∈ k_ws := (k_m3 143 rfl rfl)
theorem clX7_70 : Cond.constantLong RX7 70 (256) ∈ k_ws := (k_m3 145 rfl rfl)
theorem clX7_72 : Cond.constantLong RX7 72 (4096) ∈ k_ws := (k_m3 146 rfl rfl)
theorem clX9_192 : Cond.constantLong RX9 192 (16807) ∈ k_ws := (k_m5 39 rfl rfl)
theorem clX9_194 : Cond.constantLong RX9 194 (2147483647) ∈ k_ws := (k_m5 40 rfl rfl)
theorem clX9_196 : Cond.constantLong RX9 196 (16) ∈ k_ws := (k_m5 41 rfl rfl)
theorem clX9_198 : Cond.constantLong RX9 198 (12) ∈ k_ws := (k_m5 42 rfl rfl)
theorem clX9_200 : Cond.constantLong RX9 200 (256) ∈ k_ws := (k_m5 43 rfl rfl)
theorem clX9_202 : Cond.constantLong RX9 202 (4096) ∈ k_ws := (k_m5 44 rfl rfl)
theorem clX9_210 : Cond.constantLong RX9 210 (-1) ∈ k_ws := (k_m5 60 rfl rfl)
theorem gX8_137 : Cond.fieldLink RX8 137 RX8 "IS" "[I" ∈ k_ws := (k_m2 187 rfl rfl)
