theorem wm_1_16 : Cond.fieldLink RX10 12 "OrderEcho" "plan" "LOrderEcho$Plan;" ∈ wsL_law := in_r1 _ (mm_at 16 rfl)
theorem wm_1_20 : Cond.fieldLink RX10 21 "OrderEcho" "rules" "LOrderEcho$Rules;" ∈ wsL_law := in_r1 _ (mm_at 20 rfl)
theorem wm_2_0 : Cond.fieldLink RX10 28 "OrderEcho" "tape" "LOrderEcho$Tape;" ∈ wsL_law := in_r2 _ (mm_at 0 rfl)
theorem wm_2_4 : Cond.fieldLink RX10 35 "OrderEcho" "share" "LOrderEcho$Share;" ∈ wsL_law := in_r2 _ (mm_at 4 rfl)
theorem wm_2_7 : Cond.initialized RX5 ∈ wsL_law := in_r2 _ (mm_at 7 rfl)
theorem wm_2_8 : Cond.fieldLink RX10 42 "OrderEcho" "past" "LOrderEcho$Past;" ∈ wsL_law := in_r2 _ (mm_at 8 rfl)
theorem wm_2_12 : Cond.fieldLink RX10 49 "OrderEcho" "line" "LOrderEcho$Line;" ∈ wsL_law := in_r2 _ (mm_at 12 rfl)
theorem wm_2_16 : Cond.fieldLink RX10 56 "OrderEcho" "quotient" "LOrderEcho$Fraction;" ∈ wsL_law := in_r2 _ (mm_at 16 rfl)
theorem wm_2_20 : Cond.fieldLink RX10 63 "OrderEcho" "levels" "LOrderEcho$Levels;" ∈ wsL_law := in_r2 _ (mm_at 20 rfl)
theorem wm_3_0 : Cond.fieldLink RX10 70 "OrderEcho" "claimants" "LOrderEcho$Claims;" ∈ wsL_law := in_r3 _ (mm_at 0 rfl)
theorem wm_3_2 : Cond.fieldLink RX10 74 "OrderEcho" "polynomial" "[J" ∈ wsL_law := in_r3 _ (mm_at 2 rfl)
theorem wm_3_4 : Cond.fieldLink RX10 80 "OrderEcho" "flows" "[LOrderEcho$Flow;" ∈ wsL_law := in_r3 _ (mm_at 4 rfl)
theorem wm_3_7 : Cond.fieldLink RX10 85 "OrderEcho" "flow" "LOrderEcho$Flow;" ∈ wsL_law := in_r3 _ (mm_at 7 rfl)
theorem wm_3_9 : Cond.fieldLink RX10 89 "OrderEcho" "told" "[I" ∈ wsL_law := in_r3 _ (mm_at 9 rfl)
theorem wm_3_10 : Cond.fieldLink RX10 93 "OrderEcho" "tried" "[I" ∈ wsL_law := in_r3 _ (mm_at 10 rfl)
theorem wm_3_11 : Cond.fieldLink RX10 96 "OrderEcho" "worstRow" "[I" ∈ wsL_law := in_r3 _ (mm_at 11 rfl)
theorem wm_9_9 : Cond.fieldLink RX10 99 "OrderEcho$Plan" "stages" "I" ∈ wsL_law := in_r9 _ (mm_at 9 rfl)
theorem wm_9_10 : Cond.fieldLink RX10 114 "OrderEcho$Flow" "weeks" "I" ∈ wsL_law := in_r9 _ (mm_at 10 rfl)
theorem wm_9_11 : Cond.fieldLink RX10 121 "OrderEcho$Flow" "stock" "[I" ∈ wsL_law := in_r9 _ (mm_at 11 rfl)
theorem wm_9_12 : Cond.methodLink RX10 103 yX6_has ∈ wsL_law := in_r9 _ (mm_at 12 rfl)
theorem wm_9_17 : Cond.methodLink RX10 107 yX10_within ∈ wsL_law := in_r9 _ (mm_at 17 rfl)
theorem wm_9_20 : Cond.methodLink RX10 111 yX6_isShop ∈ wsL_law := in_r9 _ (mm_at 20 rfl)
theorem wm_10_1 : Cond.methodLink RX10 117 yX6_enlarge ∈ wsL_law := in_r10 _ (mm_at 1 rfl)
theorem wm_10_2 : Cond.instanceMethod yX6_enlarge ∈ wsL_law := in_r10 _ (mm_at 2 rfl)
theorem wm_10_3 : Cond.selects RX6 yX6_enlarge yX6_enlarge ∈ wsL_law := in_r10 _ (mm_at 3 rfl)
theorem wm_10_4 : Cond.code yX6_enlarge cX6_enlarge 7 none ∈ wsL_law := in_r10 _ (mm_at 4 rfl)
theorem wm_11_4 : Cond.methodLink RX10 124 yX6_settings ∈ wsL_law := in_r11 _ (mm_at 4 rfl)
theorem wm_11_5 : Cond.instanceMethod yX6_settings ∈ wsL_law := in_r11 _ (mm_at 5 rfl)
theorem wm_11_6 : Cond.selects RX6 yX6_settings yX6_settings ∈ wsL_law := in_r11 _ (mm_at 6 rfl)
theorem wm_11_7 : Cond.code yX6_settings cX6_settings 2 (some (.array .int)) ∈ wsL_law := in_r11 _ (mm_at 7 rfl)
theorem wm_11_18 : Cond.fieldLink RX10 129 "OrderEcho$Plan" "rule" "[I" ∈ wsL_law := in_r11 _ (mm_at 18 rfl)
theorem wm_11_19 : Cond.methodLink RX10 128 yX7_has ∈ wsL_law := in_r11 _ (mm_at 19 rfl)
theorem wm_12_10 : Cond.fieldLink RX10 132 "OrderEcho$Plan" "allotment" "I" ∈ wsL_law := in_r12 _ (mm_at 10 rfl)
theorem wm_12_21 : Cond.fieldLink RX10 135 "OrderEcho$Plan" "kind" "[I" ∈ wsL_law := in_r12 _ (mm_at 21 rfl)
theorem wm_12_22 : Cond.fieldLink RX10 138 "OrderEcho$Plan" "supplier" "[I" ∈ wsL_law := in_r12 _ (mm_at 22 rfl)
theorem wm_12_23 : Cond.fieldLink RX10 141 "OrderEcho$Plan" "way" "[I" ∈ wsL_law := in_r12 _ (mm_at 23 rfl)
theorem wm_13_0 : Cond.fieldLink RX10 144 "OrderEcho$Plan" "delay" "[I" ∈ wsL_law := in_r13 _ (mm_at 0 rfl)
theorem wm_13_1 : Cond.fieldLink RX10 147 "OrderEcho$Plan" "lot" "[I" ∈ wsL_law := in_r13 _ (mm_at 1 rfl)
theorem wm_13_2 : Cond.fieldLink RX10 150 "OrderEcho$Plan" "cap" "[I" ∈ wsL_law := in_r13 _ (mm_at 2 rfl)
theorem wm_13_3 : Cond.fieldLink RX10 153 "OrderEcho$Flow" "owes" "[I" ∈ wsL_law := in_r13 _ (mm_at 3 rfl)
theorem wm_13_4 : Cond.fieldLink RX10 156 "OrderEcho$Flow" "coming" "[I" ∈ wsL_law := in_r13 _ (mm_at 4 rfl)
theorem wm_13_5 : Cond.fieldLink RX10 159 "OrderEcho$Flow" "seen" "[I" ∈ wsL_law := in_r13 _ (mm_at 5 rfl)
theorem wm_13_6 : Cond.fieldLink RX10 166 "OrderEcho$Flow" "ordered" "[I" ∈ wsL_law := in_r13 _ (mm_at 6 rfl)
theorem wm_13_7 : Cond.fieldLink RX10 169 "OrderEcho$Flow" "sent" "[I" ∈ wsL_law := in_r13 _ (mm_at 7 rfl)
theorem wm_13_8 : Cond.methodLink RX10 162 yX1_latest ∈ wsL_law := in_r13 _ (mm_at 8 rfl)
theorem wm_14_6 : Cond.constantLong RX10 176 (-9223372036854775808) ∈ wsL_law := in_r14 _ (mm_at 6 rfl)
theorem wm_14_7 : Cond.methodLink RX10 172 yX1_position ∈ wsL_law := in_r14 _ (mm_at 7 rfl)
theorem wm_15_0 : Cond.fieldLink RX10 178 "OrderEcho$Flow" "slots" "[I" ∈ wsL_law := in_r15 _ (mm_at 0 rfl)
theorem wm_15_9 : Cond.fieldLink RX10 181 "OrderEcho$Flow" "owedTo" "[I" ∈ wsL_law := in_r15 _ (mm_at 9 rfl)
theorem wm_15_18 : Cond.fieldLink RX10 184 "OrderEcho$Flow" "cost" "[J" ∈ wsL_law := in_r15 _ (mm_at 18 rfl)
theorem wm_16_3 : Cond.fieldLink RX10 187 "OrderEcho$Flow" "made" "J" ∈ wsL_law := in_r16 _ (mm_at 3 rfl)
theorem wm_16_4 : Cond.fieldLink RX10 191 "OrderEcho$Plan" "firstStock" "J" ∈ wsL_law := in_r16 _ (mm_at 4 rfl)
theorem wm_16_5 : Cond.fieldLink RX10 194 "OrderEcho$Flow" "sold" "J" ∈ wsL_law := in_r16 _ (mm_at 5 rfl)
theorem wm_16_6 : Cond.methodLink RX10 197 yX1_total ∈ wsL_law := in_r16 _ (mm_at 6 rfl)
theorem wm_16_7 : Cond.instanceMethod yX1_total ∈ wsL_law := in_r16 _ (mm_at 7 rfl)
theorem wm_16_8 : Cond.selects RX1 yX1_total yX1_total ∈ wsL_law := in_r16 _ (mm_at 8 rfl)
theorem wm_16_9 : Cond.code yX1_total cX1_total 8 (some .long) ∈ wsL_law := in_r16 _ (mm_at 9 rfl)
theorem wm_17_9 : Cond.methodLink RX10 201 yX10_goBy ∈ wsL_law := in_r17 _ (mm_at 9 rfl)
theorem wm_17_10 : Cond.instanceMethod yX10_goBy ∈ wsL_law := in_r17 _ (mm_at 10 rfl)
theorem wm_17_11 : Cond.selects RX10 yX10_goBy yX10_goBy ∈ wsL_law := in_r17 _ (mm_at 11 rfl)
theorem wm_17_12 : Cond.code yX10_goBy cX10_goBy 3 (some .int) ∈ wsL_law := in_r17 _ (mm_at 12 rfl)
theorem wm_17_13 : Cond.methodLink RX10 205 yX1_pass ∈ wsL_law := in_r17 _ (mm_at 13 rfl)
theorem wm_17_14 : Cond.instanceMethod yX1_pass ∈ wsL_law := in_r17 _ (mm_at 14 rfl)
theorem wm_17_15 : Cond.selects RX1 yX1_pass yX1_pass ∈ wsL_law := in_r17 _ (mm_at 15 rfl)
theorem wm_17_16 : Cond.code yX1_pass cX1_pass 8 (some .int) ∈ wsL_law := in_r17 _ (mm_at 16 rfl)
theorem wm_22_6 : Cond.methodLink RX10 209 yX5_note ∈ wsL_law := in_r22 _ (mm_at 6 rfl)
theorem wm_22_7 : Cond.instanceMethod yX5_note ∈ wsL_law := in_r22 _ (mm_at 7 rfl)
theorem wm_22_8 : Cond.selects RX5 yX5_note yX5_note ∈ wsL_law := in_r22 _ (mm_at 8 rfl)
theorem wm_22_9 : Cond.code yX5_note cX5_note 5 none ∈ wsL_law := in_r22 _ (mm_at 9 rfl)
theorem wm_25_0 : Cond.fieldLink RX10 213 "OrderEcho$Tape" "length" "I" ∈ wsL_law := in_r25 _ (mm_at 0 rfl)
theorem wm_25_1 : Cond.methodLink RX10 216 yX9_append ∈ wsL_law := in_r25 _ (mm_at 1 rfl)
theorem wm_25_2 : Cond.instanceMethod yX9_append ∈ wsL_law := in_r25 _ (mm_at 2 rfl)
theorem wm_25_3 : Cond.selects RX9 yX9_append yX9_append ∈ wsL_law := in_r25 _ (mm_at 3 rfl)
theorem wm_25_4 : Cond.code yX9_append cX9_append 2 none ∈ wsL_law := in_r25 _ (mm_at 4 rfl)
theorem wm_25_17 : Cond.fieldLink RX10 220 "OrderEcho$Rules" "count" "I" ∈ wsL_law := in_r25 _ (mm_at 17 rfl)
theorem wm_25_18 : Cond.fieldLink RX10 227 "OrderEcho$Tape" "code" "[I" ∈ wsL_law := in_r25 _ (mm_at 18 rfl)
theorem wm_25_19 : Cond.fieldLink RX10 230 "OrderEcho$Tape" "size" "I" ∈ wsL_law := in_r25 _ (mm_at 19 rfl)
theorem wm_25_20 : Cond.fieldLink RX10 236 "OrderEcho$Tape" "at" "I" ∈ wsL_law := in_r25 _ (mm_at 20 rfl)
theorem wm_25_21 : Cond.methodLink RX10 223 yX9_read ∈ wsL_law := in_r25 _ (mm_at 21 rfl)
theorem wm_25_22 : Cond.instanceMethod yX9_read ∈ wsL_law := in_r25 _ (mm_at 22 rfl)
theorem wm_25_23 : Cond.selects RX9 yX9_read yX9_read ∈ wsL_law := in_r25 _ (mm_at 23 rfl)
theorem wm_26_0 : Cond.code yX9_read cX9_read 1 (some .boolean) ∈ wsL_law := in_r26 _ (mm_at 0 rfl)
theorem wm_29_21 : Cond.methodLink RX10 233 yX7_keep ∈ wsL_law := in_r29 _ (mm_at 21 rfl)
theorem wm_29_22 : Cond.instanceMethod yX7_keep ∈ wsL_law := in_r29 _ (mm_at 22 rfl)
theorem wm_29_23 : Cond.selects RX7 yX7_keep yX7_keep ∈ wsL_law := in_r29 _ (mm_at 23 rfl)
theorem wm_30_0 : Cond.code yX7_keep cX7_keep 4 (some .int) ∈ wsL_law := in_r30 _ (mm_at 0 rfl)
theorem wm_32_3 : Cond.methodLink RX10 239 yX7_valueOf ∈ wsL_law := in_r32 _ (mm_at 3 rfl)
theorem wm_32_12 : Cond.methodLink RX10 243 yX10_swings ∈ wsL_law := in_r32 _ (mm_at 12 rfl)
theorem wm_32_13 : Cond.instanceMethod yX10_swings ∈ wsL_law := in_r32 _ (mm_at 13 rfl)
theorem wm_32_14 : Cond.selects RX10 yX10_swings yX10_swings ∈ wsL_law := in_r32 _ (mm_at 14 rfl)
theorem wm_32_15 : Cond.code yX10_swings cX10_swings 3 (some .boolean) ∈ wsL_law := in_r32 _ (mm_at 15 rfl)
theorem wm_32_16 : Cond.methodLink RX10 247 yX5_spread ∈ wsL_law := in_r32 _ (mm_at 16 rfl)
theorem wm_32_17 : Cond.instanceMethod yX5_spread ∈ wsL_law := in_r32 _ (mm_at 17 rfl)
theorem wm_32_18 : Cond.selects RX5 yX5_spread yX5_spread ∈ wsL_law := in_r32 _ (mm_at 18 rfl)
theorem wm_32_19 : Cond.code yX5_spread cX5_spread 13 (some .long) ∈ wsL_law := in_r32 _ (mm_at 19 rfl)
theorem wm_33_5 : Cond.methodLink RX10 251 yX2_become ∈ wsL_law := in_r33 _ (mm_at 5 rfl)
theorem wm_33_22 : Cond.methodLink RX10 255 yX2_tell ∈ wsL_law := in_r33 _ (mm_at 22 rfl)
theorem wm_33_23 : Cond.instanceMethod yX2_tell ∈ wsL_law := in_r33 _ (mm_at 23 rfl)
theorem wm_34_0 : Cond.selects RX2 yX2_tell yX2_tell ∈ wsL_law := in_r34 _ (mm_at 0 rfl)
theorem wm_34_1 : Cond.code yX2_tell cX2_tell 2 (some .long) ∈ wsL_law := in_r34 _ (mm_at 1 rfl)
theorem wm_34_16 : Cond.fieldLink RX10 261 "OrderEcho$Line" "t" "LOrderEcho$Fraction;" ∈ wsL_law := in_r34 _ (mm_at 16 rfl)
theorem wm_34_17 : Cond.fieldLink RX10 264 "OrderEcho$Line" "a" "LOrderEcho$Fraction;" ∈ wsL_law := in_r34 _ (mm_at 17 rfl)
theorem wm_34_18 : Cond.fieldLink RX10 267 "OrderEcho$Line" "m" "LOrderEcho$Fraction;" ∈ wsL_law := in_r34 _ (mm_at 18 rfl)
theorem wm_34_19 : Cond.methodLink RX10 258 yX10_isShare ∈ wsL_law := in_r34 _ (mm_at 19 rfl)
theorem wm_34_20 : Cond.static yX10_isShare ∈ wsL_law := in_r34 _ (mm_at 20 rfl)
theorem wm_34_21 : Cond.code yX10_isShare cX10_isShare 1 (some .boolean) ∈ wsL_law := in_r34 _ (mm_at 21 rfl)
theorem wm_35_9 : Cond.fieldLink RX10 275 "OrderEcho$Line" "o" "LOrderEcho$Fraction;" ∈ wsL_law := in_r35 _ (mm_at 9 rfl)
theorem wm_35_10 : Cond.methodLink RX10 270 yX4_begin ∈ wsL_law := in_r35 _ (mm_at 10 rfl)
theorem wm_35_15 : Cond.methodLink RX10 273 yX4_pass ∈ wsL_law := in_r35 _ (mm_at 15 rfl)
theorem wm_37_17 : Cond.fieldLink RX10 284 "OrderEcho$Line" "sum" "LOrderEcho$Fraction;" ∈ wsL_law := in_r37 _ (mm_at 17 rfl)
theorem wm_37_18 : Cond.fieldLink RX10 287 "OrderEcho$Line" "coefficient" "LOrderEcho$Fraction;" ∈ wsL_law := in_r37 _ (mm_at 18 rfl)
theorem wm_37_19 : Cond.methodLink RX10 278 yX4_above ∈ wsL_law := in_r37 _ (mm_at 19 rfl)
theorem wm_37_20 : Cond.instanceMethod yX4_above ∈ wsL_law := in_r37 _ (mm_at 20 rfl)
theorem wm_37_21 : Cond.selects RX4 yX4_above yX4_above ∈ wsL_law := in_r37 _ (mm_at 21 rfl)
theorem wm_37_22 : Cond.code yX4_above cX4_above 3 none ∈ wsL_law := in_r37 _ (mm_at 22 rfl)
theorem wm_38_5 : Cond.methodLink RX10 281 yX4_below ∈ wsL_law := in_r38 _ (mm_at 5 rfl)
theorem wm_38_18 : Cond.methodLink RX10 290 yX4_loudness ∈ wsL_law := in_r38 _ (mm_at 18 rfl)
theorem wm_38_19 : Cond.instanceMethod yX4_loudness ∈ wsL_law := in_r38 _ (mm_at 19 rfl)
theorem wm_38_20 : Cond.selects RX4 yX4_loudness yX4_loudness ∈ wsL_law := in_r38 _ (mm_at 20 rfl)
theorem wm_38_21 : Cond.code yX4_loudness cX4_loudness 3 none ∈ wsL_law := in_r38 _ (mm_at 21 rfl)
theorem wm_39_6 : Cond.methodLink RX10 297 Lib.MathLoose.abs_long.x ∈ wsL_law := in_r39 _ (mm_at 6 rfl)
theorem wm_39_7 : Cond.methodLink RX10 293 yX10_endsBelow ∈ wsL_law := in_r39 _ (mm_at 7 rfl)
theorem wm_39_10 : Cond.methodLink RX10 303 yX10_lower ∈ wsL_law := in_r39 _ (mm_at 10 rfl)
theorem wm_39_11 : Cond.instanceMethod yX10_lower ∈ wsL_law := in_r39 _ (mm_at 11 rfl)
theorem wm_39_12 : Cond.selects RX10 yX10_lower yX10_lower ∈ wsL_law := in_r39 _ (mm_at 12 rfl)
theorem wm_39_13 : Cond.code yX10_lower cX10_lower 12 none ∈ wsL_law := in_r39 _ (mm_at 13 rfl)
theorem wm_40_4 : Cond.constant RX10 306 (99999) ∈ wsL_law := in_r40 _ (mm_at 4 rfl)
theorem wm_40_5 : Cond.fieldLink RX10 307 "OrderEcho$Levels" "weights" "[I" ∈ wsL_law := in_r40 _ (mm_at 5 rfl)
theorem wm_40_15 : Cond.fieldLink RX10 310 "OrderEcho$Levels" "sums" "[J" ∈ wsL_law := in_r40 _ (mm_at 15 rfl)
theorem wm_40_16 : Cond.methodLink RX10 313 yX3_addUp ∈ wsL_law := in_r40 _ (mm_at 16 rfl)
theorem wm_41_8 : Cond.fieldLink RX10 323 "OrderEcho$Levels" "near" "I" ∈ wsL_law := in_r41 _ (mm_at 8 rfl)
theorem wm_41_9 : Cond.methodLink RX10 317 yX3_understand ∈ wsL_law := in_r41 _ (mm_at 9 rfl)
theorem wm_41_10 : Cond.instanceMethod yX3_understand ∈ wsL_law := in_r41 _ (mm_at 10 rfl)
theorem wm_41_11 : Cond.selects RX3 yX3_understand yX3_understand ∈ wsL_law := in_r41 _ (mm_at 11 rfl)
theorem wm_41_12 : Cond.code yX3_understand cX3_understand 3 (some .boolean) ∈ wsL_law := in_r41 _ (mm_at 12 rfl)
theorem wm_41_18 : Cond.methodLink RX10 320 yX3_work ∈ wsL_law := in_r41 _ (mm_at 18 rfl)
theorem wm_41_19 : Cond.instanceMethod yX3_work ∈ wsL_law := in_r41 _ (mm_at 19 rfl)
theorem wm_41_20 : Cond.selects RX3 yX3_work yX3_work ∈ wsL_law := in_r41 _ (mm_at 20 rfl)
theorem wm_41_21 : Cond.code yX3_work cX3_work 6 none ∈ wsL_law := in_r41 _ (mm_at 21 rfl)
theorem wm_42_9 : Cond.methodLink RX10 326 yX3_far ∈ wsL_law := in_r42 _ (mm_at 9 rfl)
theorem wm_42_10 : Cond.instanceMethod yX3_far ∈ wsL_law := in_r42 _ (mm_at 10 rfl)
theorem wm_42_11 : Cond.selects RX3 yX3_far yX3_far ∈ wsL_law := in_r42 _ (mm_at 11 rfl)
theorem wm_42_12 : Cond.code yX3_far cX3_far 7 (some .int) ∈ wsL_law := in_r42 _ (mm_at 12 rfl)
theorem wm_44_5 : Cond.methodLink RX10 329 yX3_nearCost ∈ wsL_law := in_r44 _ (mm_at 5 rfl)
theorem wm_44_6 : Cond.methodLink RX10 332 yX3_farCost ∈ wsL_law := in_r44 _ (mm_at 6 rfl)
theorem wm_44_15 : Cond.constantLong RX10 335 (-1) ∈ wsL_law := in_r44 _ (mm_at 15 rfl)
theorem wm_44_16 : Cond.constantLong RX10 337 (-2) ∈ wsL_law := in_r44 _ (mm_at 16 rfl)
theorem wm_44_17 : Cond.constantLong RX10 339 (-3) ∈ wsL_law := in_r44 _ (mm_at 17 rfl)
theorem wm_44_18 : Cond.fieldLink RX10 355 "OrderEcho" "worstWeeks" "I" ∈ wsL_law := in_r44 _ (mm_at 18 rfl)
theorem wm_44_19 : Cond.methodLink RX10 341 yX10_lookAhead ∈ wsL_law := in_r44 _ (mm_at 19 rfl)
theorem wm_44_20 : Cond.instanceMethod yX10_lookAhead ∈ wsL_law := in_r44 _ (mm_at 20 rfl)
theorem wm_44_21 : Cond.selects RX10 yX10_lookAhead yX10_lookAhead ∈ wsL_law := in_r44 _ (mm_at 21 rfl)
theorem wm_44_22 : Cond.code yX10_lookAhead cX10_lookAhead 8 none ∈ wsL_law := in_r44 _ (mm_at 22 rfl)
theorem wm_44_23 : Cond.methodLink RX10 363 Lib.Math.max.name ∈ wsL_law := in_r44 _ (mm_at 23 rfl)
theorem wm_45_0 : Cond.methodLink RX10 358 yJ6_bitCount_0f7a4 ∈ wsL_law := in_r45 _ (mm_at 0 rfl)
theorem wm_45_1 : Cond.static yJ6_bitCount_0f7a4 ∈ wsL_law := in_r45 _ (mm_at 1 rfl)
theorem wm_45_2 : Cond.initialized RJ6 ∈ wsL_law := in_r45 _ (mm_at 2 rfl)
theorem wm_45_3 : Cond.code yJ6_bitCount_0f7a4 cJ6_bitCount_0f7a4 1 (some .int) ∈ wsL_law := in_r45 _ (mm_at 3 rfl)
theorem wm_45_4 : Cond.constant RJ6 265 (1431655765) ∈ wsL_law := in_r45 _ (mm_at 4 rfl)
theorem wm_45_5 : Cond.constant RJ6 266 (858993459) ∈ wsL_law := in_r45 _ (mm_at 5 rfl)
theorem wm_45_6 : Cond.constant RJ6 267 (252645135) ∈ wsL_law := in_r45 _ (mm_at 6 rfl)
theorem wm_45_7 : Cond.methodLink RX10 367 yX1_copy ∈ wsL_law := in_r45 _ (mm_at 7 rfl)
theorem wm_45_8 : Cond.instanceMethod yX1_copy ∈ wsL_law := in_r45 _ (mm_at 8 rfl)
theorem wm_45_9 : Cond.selects RX1 yX1_copy yX1_copy ∈ wsL_law := in_r45 _ (mm_at 9 rfl)
theorem wm_45_10 : Cond.code yX1_copy cX1_copy 2 none ∈ wsL_law := in_r45 _ (mm_at 10 rfl)
theorem wm_45_11 : Cond.methodLink RX10 352 yX10_isHigh ∈ wsL_law := in_r45 _ (mm_at 11 rfl)
theorem wm_45_12 : Cond.static yX10_isHigh ∈ wsL_law := in_r45 _ (mm_at 12 rfl)
theorem wm_45_13 : Cond.code yX10_isHigh cX10_isHigh 3 (some .boolean) ∈ wsL_law := in_r45 _ (mm_at 13 rfl)
theorem wm_45_14 : Cond.methodLink RX10 344 yX1_costOfAll ∈ wsL_law := in_r45 _ (mm_at 14 rfl)
theorem wm_45_15 : Cond.instanceMethod yX1_costOfAll ∈ wsL_law := in_r45 _ (mm_at 15 rfl)
theorem wm_45_16 : Cond.selects RX1 yX1_costOfAll yX1_costOfAll ∈ wsL_law := in_r45 _ (mm_at 16 rfl)
theorem wm_45_17 : Cond.code yX1_costOfAll cX1_costOfAll 8 (some .long) ∈ wsL_law := in_r45 _ (mm_at 17 rfl)
theorem wm_45_18 : Cond.methodLink RX10 348 yX10_greatestOrder ∈ wsL_law := in_r45 _ (mm_at 18 rfl)
theorem wm_45_19 : Cond.instanceMethod yX10_greatestOrder ∈ wsL_law := in_r45 _ (mm_at 19 rfl)
theorem wm_45_20 : Cond.selects RX10 yX10_greatestOrder yX10_greatestOrder ∈ wsL_law := in_r45 _ (mm_at 20 rfl)
theorem wm_45_21 : Cond.code yX10_greatestOrder cX10_greatestOrder 4 (some .int) ∈ wsL_law := in_r45 _ (mm_at 21 rfl)
theorem wm_47_5 : Cond.methodLink RX10 371 yX10_areClaimsFine ∈ wsL_law := in_r47 _ (mm_at 5 rfl)
theorem wm_47_6 : Cond.static yX10_areClaimsFine ∈ wsL_law := in_r47 _ (mm_at 6 rfl)
theorem wm_47_7 : Cond.code yX10_areClaimsFine cX10_areClaimsFine 3 (some .boolean) ∈ wsL_law := in_r47 _ (mm_at 7 rfl)
theorem wm_47_8 : Cond.methodLink RX10 374 yX0_readClaims ∈ wsL_law := in_r47 _ (mm_at 8 rfl)
theorem wm_47_9 : Cond.instanceMethod yX0_readClaims ∈ wsL_law := in_r47 _ (mm_at 9 rfl)
theorem wm_47_10 : Cond.selects RX0 yX0_readClaims yX0_readClaims ∈ wsL_law := in_r47 _ (mm_at 10 rfl)
theorem wm_47_11 : Cond.code yX0_readClaims cX0_readClaims 7 (some .boolean) ∈ wsL_law := in_r47 _ (mm_at 11 rfl)
theorem wm_47_14 : Cond.methodLink RX10 377 yX0_gotBy ∈ wsL_law := in_r47 _ (mm_at 14 rfl)
theorem wm_47_15 : Cond.instanceMethod yX0_gotBy ∈ wsL_law := in_r47 _ (mm_at 15 rfl)
theorem wm_47_16 : Cond.selects RX0 yX0_gotBy yX0_gotBy ∈ wsL_law := in_r47 _ (mm_at 16 rfl)
theorem wm_47_17 : Cond.code yX0_gotBy cX0_gotBy 4 (some .int) ∈ wsL_law := in_r47 _ (mm_at 17 rfl)
theorem wm_48_15 : Cond.methodLink RX10 381 yX0_readWants ∈ wsL_law := in_r48 _ (mm_at 15 rfl)
theorem wm_48_16 : Cond.instanceMethod yX0_readWants ∈ wsL_law := in_r48 _ (mm_at 16 rfl)
theorem wm_48_17 : Cond.selects RX0 yX0_readWants yX0_readWants ∈ wsL_law := in_r48 _ (mm_at 17 rfl)
theorem wm_48_18 : Cond.code yX0_readWants cX0_readWants 6 (some .boolean) ∈ wsL_law := in_r48 _ (mm_at 18 rfl)
theorem wm_48_19 : Cond.methodLink RX10 384 yX0_isCalm ∈ wsL_law := in_r48 _ (mm_at 19 rfl)
theorem wm_49_20 : Cond.methodLink RX10 387 yX0_firstCalm ∈ wsL_law := in_r49 _ (mm_at 20 rfl)
theorem wm_49_21 : Cond.instanceMethod yX0_firstCalm ∈ wsL_law := in_r49 _ (mm_at 21 rfl)
theorem wm_49_22 : Cond.selects RX0 yX0_firstCalm yX0_firstCalm ∈ wsL_law := in_r49 _ (mm_at 22 rfl)
theorem wm_49_23 : Cond.code yX0_firstCalm cX0_firstCalm 7 (some .boolean) ∈ wsL_law := in_r49 _ (mm_at 23 rfl)
theorem wm_50_1 : Cond.methodLink RX10 390 yX0_tellClaims ∈ wsL_law := in_r50 _ (mm_at 1 rfl)
theorem wm_50_2 : Cond.instanceMethod yX0_tellClaims ∈ wsL_law := in_r50 _ (mm_at 2 rfl)
theorem wm_50_3 : Cond.selects RX0 yX0_tellClaims yX0_tellClaims ∈ wsL_law := in_r50 _ (mm_at 3 rfl)
theorem wm_50_4 : Cond.code yX0_tellClaims cX0_tellClaims 4 (some .long) ∈ wsL_law := in_r50 _ (mm_at 4 rfl)
theorem wm_50_14 : Cond.fieldLink RX10 393 "OrderEcho$Plan" "shops" "I" ∈ wsL_law := in_r50 _ (mm_at 14 rfl)
section
variable {p : Program} {l : Launch} {e : Env} {s : State} {m : MethodId} {args : Array Value} {below : List Frame} {meth : Method} {c : Code} {D : va_G} {G : G3} {ad : Nat → Nat}
def fX10_stage_s102 (n : Nat)    (st : St) : Option (Int32 × St) := some ((-2), st)
set_option maxHeartbeats 4000000 in
set_option maxRecDepth 100000 in
theorem wX10_stage_s102 (C : Cx p s m args meth c cX10_stage 8 wsL_law RX10 (some .int) D G ad) (n : Nat)      (st : St) (res : (Int32 × St))  (hf : fX10_stage_s102 n    st = some res) : At p l e (rmK 2) s m args below meth c D G ad (MQI D G ad below args s res) 8 st [] 102 [] := by
  obtain ⟨hx, hb, hml, hown, hts, hr, hlk, hK, had, hSt⟩ := id C
  intro H locs ls hl hP hS
  unfold fX10_stage_s102 at hf
  refine lv_bipush (v := (-2)) hx hb dX10_stage_102 (by decide) ?_
  exact g_iret hx hb hr hlk hP hS dX10_stage_104 hf
def fX10_stage_s182 (n : Nat)   (v6 : Int32) (st : St) : Option (Int32 × St) := some (v6, st)
set_option maxHeartbeats 4000000 in
set_option maxRecDepth 100000 in
theorem wX10_stage_s182 (C : Cx p s m args meth c cX10_stage 8 wsL_law RX10 (some .int) D G ad) (n : Nat)   (v6 : Int32)   (st : St) (res : (Int32 × St))  (hf : fX10_stage_s182 n   v6 st = some res) : At p l e (rmK 2) s m args below meth c D G ad (MQI D G ad below args s res) 8 st [(6, .int v6)] 182 [] := by
  obtain ⟨hx, hb, hml, hown, hts, hr, hlk, hK, had, hSt⟩ := id C
  intro H locs ls hl hP hS
  unfold fX10_stage_s182 at hf
  refine lv_iload hx hb dX10_stage_182 (lv_at hl 0 rfl) ?_
  exact g_iret hx hb hr hlk hP hS dX10_stage_184 hf
def fX10_stage_s170 (n : Nat)   (v5 : Int32) (v6 : Int32) (st : St) : Option (Int32 × St) := if inb v6 8 = true then (fX10_stage_s182 n v6 (setI st 54 v6.toNatClampNeg v5)) else none
set_option maxHeartbeats 4000000 in
set_option maxRecDepth 100000 in
theorem wX10_stage_s170 (C : Cx p s m args meth c cX10_stage 8 wsL_law RX10 (some .int) D G ad) (n : Nat)   (v5 : Int32) (v6 : Int32)   (st : St) (res : (Int32 × St))  (hf : fX10_stage_s170 n   v5 v6 st = some res) : At p l e (rmK 2) s m args below meth c D G ad (MQI D G ad below args s res) 8 st [(0, .ref (ad 0)), (5, .int v5), (6, .int v6)] 170 [] := by
  obtain ⟨hx, hb, hml, hown, hts, hr, hlk, hK, had, hSt⟩ := id C
  intro H locs ls hl hP hS
  unfold fX10_stage_s170 at hf
  refine lv_aload_n hx hb dX10_stage_170 rfl (lv_at hl 0 rfl) ?_
  refine g_getR hx hb hts inlX10 hown hK hP 0 ct_0 rfl 11 (by decide) (hts _ wm_3_7) rfl dX10_stage_171 ?_
  refine g_getR hx hb hts inlX1 hown hK hP 53 ct_53 rfl 0 (by decide) (hts _ wm_9_11) rfl dX10_stage_174 ?_
  refine lv_iload hx hb dX10_stage_177 (lv_at hl 2 rfl) ?_
  refine lv_iload hx hb dX10_stage_179 (lv_at hl 1 rfl) ?_
  obtain ⟨g1, hf⟩ := gd hf
  refine g_iast hx hb hK had hP hS 54 ct_54 g1 dX10_stage_181 (fun H locs hP hS => ?_)
  exact wX10_stage_s182 C n v6 (setI st 54 v6.toNatClampNeg v5) res hf H locs ls (lv_sub hl [2] rfl) hP hS
def fX10_stage_s162 (n : Nat)   (v3 : Int32) (v4 : Int32) (v5 : Int32) (v6 : Int32) (k1 : Int32) (k2 : Int32) (st : St) : Option (Int32 × St) := (fX6_enlarge n k1 k2 v3 v4 v5 st).bind (fun q => fX10_stage_s170 n v5 v6 q.2)
set_option maxHeartbeats 4000000 in
set_option maxRecDepth 100000 in
theorem wX10_stage_s162 (C : Cx p s m args meth c cX10_stage 8 wsL_law RX10 (some .int) D G ad) (n : Nat)   (v3 : Int32) (v4 : Int32) (v5 : Int32) (v6 : Int32) (k1 : Int32) (k2 : Int32)   (st : St) (res : (Int32 × St))  (hf : fX10_stage_s162 n   v3 v4 v5 v6 k1 k2 st = some res) : At p l e (rmK 2) s m args below meth c D G ad (MQI D G ad below args s res) 8 st [(0, .ref (ad 0)), (3, .int v3), (4, .int v4), (5, .int v5), (6, .int v6)] 162 [.int k2, .int k1, .ref (ad 1)] := by
  obtain ⟨hx, hb, hml, hown, hts, hr, hlk, hK, had, hSt⟩ := id C
  intro H locs ls hl hP hS
  unfold fX10_stage_s162 at hf
  refine lv_iload_n hx hb dX10_stage_162 rfl (lv_at hl 1 rfl) ?_
  refine lv_iload hx hb dX10_stage_163 (lv_at hl 2 rfl) ?_
  refine lv_iload hx hb dX10_stage_165 (lv_at hl 3 rfl) ?_
  obtain ⟨q, hq, hf⟩ := bd hf
  refine gcV_v (k := 0) (o := 1) (As := [.int k1, .int k2, .int v3, .int v4, .int v5]) (rest := []) hx hb hml hown hts hK hSt hP hS hl.1 (goodV wm_10_1 wm_10_2 wm_10_3 wm_1_15 wm_10_4) okX6_enlarge ct_1 rfl rfl (Nat.le_of_ble_eq_true rfl) (Nat.le_of_ble_eq_true rfl) rfl rfl (Nat.le_of_ble_eq_true rfl) dX10_stage_167 (kX6_enlarge l D G ad had n  k1 k2 v3 v4 v5 st q hq) (fun H locs hP hS => ?_)
  exact wX10_stage_s170 C n v5 v6 q.2 res hf H locs ls (lv_sub hl [0, 3, 4] rfl) hP hS
def fX10_stage_s161 (n : Nat)   (v2 : Int32) (v3 : Int32) (v4 : Int32) (v5 : Int32) (v6 : Int32) (k1 : Int32) (st : St) : Option (Int32 × St) := fX10_stage_s162 n v3 v4 v5 v6 k1 v2 st
set_option maxHeartbeats 4000000 in
set_option maxRecDepth 100000 in
theorem wX10_stage_s161 (C : Cx p s m args meth c cX10_stage 8 wsL_law RX10 (some .int) D G ad) (n : Nat)   (v2 : Int32) (v3 : Int32) (v4 : Int32) (v5 : Int32) (v6 : Int32) (k1 : Int32)   (st : St) (res : (Int32 × St))  (hf : fX10_stage_s161 n   v2 v3 v4 v5 v6 k1 st = some res) : At p l e (rmK 2) s m args below meth c D G ad (MQI D G ad below args s res) 8 st [(0, .ref (ad 0)), (2, .int v2), (3, .int v3), (4, .int v4), (5, .int v5), (6, .int v6)] 161 [.int k1, .ref (ad 1)] := by
  obtain ⟨hx, hb, hml, hown, hts, hr, hlk, hK, had, hSt⟩ := id C
  intro H locs ls hl hP hS
  unfold fX10_stage_s161 at hf
  refine lv_iload_n hx hb dX10_stage_161 rfl (lv_at hl 1 rfl) ?_
  exact wX10_stage_s162 C n v3 v4 v5 v6 k1 v2 st res hf H locs ls (lv_sub hl [0, 2, 3, 4, 5] rfl) hP hS
def fX10_stage_s157 (n : Nat)   (v3 : Int32) (v4 : Int32) (v5 : Int32) (v6 : Int32) (k1 : Int32) (st : St) : Option (Int32 × St) := fX10_stage_s162 n v3 v4 v5 v6 k1 (-1) st
set_option maxHeartbeats 4000000 in
set_option maxRecDepth 100000 in
theorem wX10_stage_s157 (C : Cx p s m args meth c cX10_stage 8 wsL_law RX10 (some .int) D G ad) (n : Nat)   (v3 : Int32) (v4 : Int32) (v5 : Int32) (v6 : Int32) (k1 : Int32)   (st : St) (res : (Int32 × St))  (hf : fX10_stage_s157 n   v3 v4 v5 v6 k1 st = some res) : At p l e (rmK 2) s m args below meth c D G ad (MQI D G ad below args s res) 8 st [(0, .ref (ad 0)), (3, .int v3), (4, .int v4), (5, .int v5), (6, .int v6)] 157 [.int k1, .ref (ad 1)] := by
  obtain ⟨hx, hb, hml, hown, hts, hr, hlk, hK, had, hSt⟩ := id C
  intro H locs ls hl hP hS
  unfold fX10_stage_s157 at hf
  refine lv_iconst (v := (-1)) hx hb dX10_stage_157 (by decide) ?_
  refine lv_goto (tgt := 162) hx hb dX10_stage_158 (by decide) ?_
  exact wX10_stage_s162 C n v3 v4 v5 v6 k1 (-1) st res hf H locs ls (lv_sub hl [0, 1, 2, 3, 4] rfl) hP hS
def fX10_stage_s147 (n : Nat)   (v1 : Int32) (v2 : Int32) (v3 : Int32) (v4 : Int32) (v5 : Int32) (v6 : Int32) (v7 : Int32) (st : St) : Option (Int32 × St) := if v7 = 0 then fX10_stage_s161 n v2 v3 v4 v5 v6 v1 st else fX10_stage_s157 n v3 v4 v5 v6 v1 st
set_option maxHeartbeats 4000000 in
set_option maxRecDepth 100000 in
theorem wX10_stage_s147 (C : Cx p s m args meth c cX10_stage 8 wsL_law RX10 (some .int) D G ad) (n : Nat)   (v1 : Int32) (v2 : Int32) (v3 : Int32) (v4 : Int32) (v5 : Int32) (v6 : Int32) (v7 : Int32)   (st : St) (res : (Int32 × St))  (hf : fX10_stage_s147 n   v1 v2 v3 v4 v5 v6 v7 st = some res) : At p l e (rmK 2) s m args below meth c D G ad (MQI D G ad below args s res) 8 st [(0, .ref (ad 0)), (1, .int v1), (2, .int v2), (3, .int v3), (4, .int v4), (5, .int v5), (6, .int v6), (7, .int v7)] 147 [] := by
  obtain ⟨hx, hb, hml, hown, hts, hr, hlk, hK, had, hSt⟩ := id C
  intro H locs ls hl hP hS
  unfold fX10_stage_s147 at hf
  refine lv_aload_n hx hb dX10_stage_147 rfl (lv_at hl 0 rfl) ?_
  refine g_getR hx hb hts inlX10 hown hK hP 0 ct_0 rfl 0 (by decide) (hts _ wm_1_16) rfl dX10_stage_148 ?_
  refine lv_iload_n hx hb dX10_stage_151 rfl (lv_at hl 1 rfl) ?_
  refine lv_iload hx hb dX10_stage_152 (lv_at hl 7 rfl) ?_
  refine lv_if_eq (tgt := 161) hx hb dX10_stage_154 (by decide) (fun q => ?_) (fun q => ?_)
  · exact wX10_stage_s161 C n v2 v3 v4 v5 v6 v1 st res (it hf q) H locs ls (lv_sub hl [0, 2, 3, 4, 5, 6] rfl) hP hS
  · exact wX10_stage_s157 C n v3 v4 v5 v6 v1 st res (ie hf q) H locs ls (lv_sub hl [0, 3, 4, 5, 6] rfl) hP hS
def fX10_stage_s144 (n : Nat)    (st : St) : Option (Int32 × St) := some ((-4), st)
set_option maxHeartbeats 4000000 in
set_option maxRecDepth 100000 in
theorem wX10_stage_s144 (C : Cx p s m args meth c cX10_stage 8 wsL_law RX10 (some .int) D G ad) (n : Nat)      (st : St) (res : (Int32 × St))  (hf : fX10_stage_s144 n    st = some res) : At p l e (rmK 2) s m args below meth c D G ad (MQI D G ad below args s res) 8 st [] 144 [] := by
  obtain ⟨hx, hb, hml, hown, hts, hr, hlk, hK, had, hSt⟩ := id C
  intro H locs ls hl hP hS
  unfold fX10_stage_s144 at hf
  refine lv_bipush (v := (-4)) hx hb dX10_stage_144 (by decide) ?_
  exact g_iret hx hb hr hlk hP hS dX10_stage_146 hf
def fX10_stage_s137 (n : Nat)   (v1 : Int32) (v2 : Int32) (v3 : Int32) (v4 : Int32) (v5 : Int32) (v6 : Int32) (v7 : Int32) (st : St) : Option (Int32 × St) := if v6 < 8 then fX10_stage_s147 n v1 v2 v3 v4 v5 v6 v7 st else fX10_stage_s144 n st
set_option maxHeartbeats 4000000 in
set_option maxRecDepth 100000 in
theorem wX10_stage_s137 (C : Cx p s m args meth c cX10_stage 8 wsL_law RX10 (some .int) D G ad) (n : Nat)   (v1 : Int32) (v2 : Int32) (v3 : Int32) (v4 : Int32) (v5 : Int32) (v6 : Int32) (v7 : Int32)   (st : St) (res : (Int32 × St))  (hf : fX10_stage_s137 n   v1 v2 v3 v4 v5 v6 v7 st = some res) : At p l e (rmK 2) s m args below meth c D G ad (MQI D G ad below args s res) 8 st [(0, .ref (ad 0)), (1, .int v1), (2, .int v2), (3, .int v3), (4, .int v4), (5, .int v5), (6, .int v6), (7, .int v7)] 137 [] := by
  obtain ⟨hx, hb, hml, hown, hts, hr, hlk, hK, had, hSt⟩ := id C
  intro H locs ls hl hP hS
  unfold fX10_stage_s137 at hf
  refine lv_iload hx hb dX10_stage_137 (lv_at hl 6 rfl) ?_
  refine lv_bipush (v := 8) hx hb dX10_stage_139 (by decide) ?_
  refine lv_icmp_lt (tgt := 147) hx hb dX10_stage_141 (by decide) (fun q => ?_) (fun q => ?_)
  · exact wX10_stage_s147 C n v1 v2 v3 v4 v5 v6 v7 st res (it hf q) H locs ls (lv_sub hl [0, 1, 2, 3, 4, 5, 6, 7] rfl) hP hS
  · exact wX10_stage_s144 C n st res (ie hf q) H locs ls (lv_sub hl [] rfl) hP hS
def fX10_stage_s134 (n : Nat)    (st : St) : Option (Int32 × St) := some ((-3), st)
set_option maxHeartbeats 4000000 in
set_option maxRecDepth 100000 in
theorem wX10_stage_s134 (C : Cx p s m args meth c cX10_stage 8 wsL_law RX10 (some .int) D G ad) (n : Nat)      (st : St) (res : (Int32 × St))  (hf : fX10_stage_s134 n    st = some res) : At p l e (rmK 2) s m args below meth c D G ad (MQI D G ad below args s res) 8 st [] 134 [] := by
  obtain ⟨hx, hb, hml, hown, hts, hr, hlk, hK, had, hSt⟩ := id C
  intro H locs ls hl hP hS
  unfold fX10_stage_s134 at hf
  refine lv_bipush (v := (-3)) hx hb dX10_stage_134 (by decide) ?_
  exact g_iret hx hb hr hlk hP hS dX10_stage_136 hf
def fX10_stage_s124 (n : Nat)   (v1 : Int32) (v2 : Int32) (v3 : Int32) (v4 : Int32) (v5 : Int32) (v6 : Int32) (v7 : Int32) (st : St) : Option (Int32 × St) := if (st.1 53 10) ≤ 0 then fX10_stage_s137 n v1 v2 v3 v4 v5 v6 v7 st else fX10_stage_s134 n st
set_option maxHeartbeats 4000000 in
set_option maxRecDepth 100000 in
theorem wX10_stage_s124 (C : Cx p s m args meth c cX10_stage 8 wsL_law RX10 (some .int) D G ad) (n : Nat)   (v1 : Int32) (v2 : Int32) (v3 : Int32) (v4 : Int32) (v5 : Int32) (v6 : Int32) (v7 : Int32)   (st : St) (res : (Int32 × St))  (hf : fX10_stage_s124 n   v1 v2 v3 v4 v5 v6 v7 st = some res) : At p l e (rmK 2) s m args below meth c D G ad (MQI D G ad below args s res) 8 st [(0, .ref (ad 0)), (1, .int v1), (2, .int v2), (3, .int v3), (4, .int v4), (5, .int v5), (6, .int v6), (7, .int v7)] 124 [] := by
  obtain ⟨hx, hb, hml, hown, hts, hr, hlk, hK, had, hSt⟩ := id C
  intro H locs ls hl hP hS
  unfold fX10_stage_s124 at hf
  refine lv_aload_n hx hb dX10_stage_124 rfl (lv_at hl 0 rfl) ?_
  refine g_getR hx hb hts inlX10 hown hK hP 0 ct_0 rfl 11 (by decide) (hts _ wm_3_7) rfl dX10_stage_125 ?_
  refine g_getI hx hb hts inlX1 hown hK hP 53 ct_53 rfl 10 (by decide) (hts _ wm_9_10) rfl dX10_stage_128 ?_
  refine lv_if_le (tgt := 137) hx hb dX10_stage_131 (by decide) (fun q => ?_) (fun q => ?_)
  · exact wX10_stage_s137 C n v1 v2 v3 v4 v5 v6 v7 st res (it hf q) H locs ls (lv_sub hl [0, 1, 2, 3, 4, 5, 6, 7] rfl) hP hS
  · exact wX10_stage_s134 C n st res (ie hf q) H locs ls (lv_sub hl [] rfl) hP hS
def fX10_stage_s121 (n : Nat)    (st : St) : Option (Int32 × St) := some ((-2), st)
set_option maxHeartbeats 4000000 in
set_option maxRecDepth 100000 in
theorem wX10_stage_s121 (C : Cx p s m args meth c cX10_stage 8 wsL_law RX10 (some .int) D G ad) (n : Nat)      (st : St) (res : (Int32 × St))  (hf : fX10_stage_s121 n    st = some res) : At p l e (rmK 2) s m args below meth c D G ad (MQI D G ad below args s res) 8 st [] 121 [] := by
  obtain ⟨hx, hb, hml, hown, hts, hr, hlk, hK, had, hSt⟩ := id C
  intro H locs ls hl hP hS
  unfold fX10_stage_s121 at hf
  refine lv_bipush (v := (-2)) hx hb dX10_stage_121 (by decide) ?_
  exact g_iret hx hb hr hlk hP hS dX10_stage_123 hf
def fX10_stage_s118 (n : Nat)   (v1 : Int32) (v2 : Int32) (v3 : Int32) (v4 : Int32) (v5 : Int32) (v6 : Int32) (v7 : Int32) (k0 : Int32) (st : St) : Option (Int32 × St) := if k0 = 0 then fX10_stage_s124 n v1 v2 v3 v4 v5 v6 v7 st else fX10_stage_s121 n st
set_option maxHeartbeats 4000000 in
set_option maxRecDepth 100000 in
theorem wX10_stage_s118 (C : Cx p s m args meth c cX10_stage 8 wsL_law RX10 (some .int) D G ad) (n : Nat)   (v1 : Int32) (v2 : Int32) (v3 : Int32) (v4 : Int32) (v5 : Int32) (v6 : Int32) (v7 : Int32) (k0 : Int32)   (st : St) (res : (Int32 × St))  (hf : fX10_stage_s118 n   v1 v2 v3 v4 v5 v6 v7 k0 st = some res) : At p l e (rmK 2) s m args below meth c D G ad (MQI D G ad below args s res) 8 st [(0, .ref (ad 0)), (1, .int v1), (2, .int v2), (3, .int v3), (4, .int v4), (5, .int v5), (6, .int v6), (7, .int v7)] 118 [.int k0] := by
  obtain ⟨hx, hb, hml, hown, hts, hr, hlk, hK, had, hSt⟩ := id C
  intro H locs ls hl hP hS
  unfold fX10_stage_s118 at hf
  refine lv_if_eq (tgt := 124) hx hb dX10_stage_118 (by decide) (fun q => ?_) (fun q => ?_)
  · exact wX10_stage_s124 C n v1 v2 v3 v4 v5 v6 v7 st res (it hf q) H locs ls (lv_sub hl [0, 1, 2, 3, 4, 5, 6, 7] rfl) hP hS
  · exact wX10_stage_s121 C n st res (ie hf q) H locs ls (lv_sub hl [] rfl) hP hS
def fX10_stage_s110 (n : Nat)   (v1 : Int32) (v2 : Int32) (v3 : Int32) (v4 : Int32) (v5 : Int32) (v6 : Int32) (v7 : Int32) (st : St) : Option (Int32 × St) := (fX6_isShop n v2 st).bind (fun q => fX10_stage_s118 n v1 v2 v3 v4 v5 v6 v7 q.1 q.2)
set_option maxHeartbeats 4000000 in
set_option maxRecDepth 100000 in
theorem wX10_stage_s110 (C : Cx p s m args meth c cX10_stage 8 wsL_law RX10 (some .int) D G ad) (n : Nat)   (v1 : Int32) (v2 : Int32) (v3 : Int32) (v4 : Int32) (v5 : Int32) (v6 : Int32) (v7 : Int32)   (st : St) (res : (Int32 × St))  (hf : fX10_stage_s110 n   v1 v2 v3 v4 v5 v6 v7 st = some res) : At p l e (rmK 2) s m args below meth c D G ad (MQI D G ad below args s res) 8 st [(0, .ref (ad 0)), (1, .int v1), (2, .int v2), (3, .int v3), (4, .int v4), (5, .int v5), (6, .int v6), (7, .int v7)] 110 [] := by
  obtain ⟨hx, hb, hml, hown, hts, hr, hlk, hK, had, hSt⟩ := id C
  intro H locs ls hl hP hS
  unfold fX10_stage_s110 at hf
  refine lv_aload_n hx hb dX10_stage_110 rfl (lv_at hl 0 rfl) ?_
  refine g_getR hx hb hts inlX10 hown hK hP 0 ct_0 rfl 0 (by decide) (hts _ wm_1_16) rfl dX10_stage_111 ?_
  refine lv_iload_n hx hb dX10_stage_114 rfl (lv_at hl 2 rfl) ?_
  obtain ⟨q, hq, hf⟩ := bd hf
  refine gcV_i (k := 1) (o := 1) (As := [.int v2]) (rest := []) hx hb hml hown hts hK hSt hP hS hl.1 (goodV wm_9_20 wm_9_21 wm_9_22 wm_1_15 wm_9_23) okX6_isShop ct_1 rfl rfl (Nat.le_of_ble_eq_true rfl) (Nat.le_of_ble_eq_true rfl) rfl rfl (Nat.le_of_ble_eq_true rfl) dX10_stage_115 (kX6_isShop l D G ad had n  v2 st q hq) (fun H locs hP hS => ?_)
  exact wX10_stage_s118 C n v1 v2 v3 v4 v5 v6 v7 q.1 q.2 res hf H locs ls (lv_sub hl [0, 1, 2, 3, 4, 5, 6, 7] rfl) hP hS
def fX10_stage_s105 (n : Nat)   (v1 : Int32) (v2 : Int32) (v3 : Int32) (v4 : Int32) (v5 : Int32) (v6 : Int32) (v7 : Int32) (st : St) : Option (Int32 × St) := if v7 = 0 then fX10_stage_s110 n v1 v2 v3 v4 v5 v6 v7 st else fX10_stage_s124 n v1 v2 v3 v4 v5 v6 v7 st
set_option maxHeartbeats 4000000 in
set_option maxRecDepth 100000 in
theorem wX10_stage_s105 (C : Cx p s m args meth c cX10_stage 8 wsL_law RX10 (some .int) D G ad) (n : Nat)   (v1 : Int32) (v2 : Int32) (v3 : Int32) (v4 : Int32) (v5 : Int32) (v6 : Int32) (v7 : Int32)   (st : St) (res : (Int32 × St))  (hf : fX10_stage_s105 n   v1 v2 v3 v4 v5 v6 v7 st = some res) : At p l e (rmK 2) s m args below meth c D G ad (MQI D G ad below args s res) 8 st [(0, .ref (ad 0)), (1, .int v1), (2, .int v2), (3, .int v3), (4, .int v4), (5, .int v5), (6, .int v6), (7, .int v7)] 105 [] := by
  obtain ⟨hx, hb, hml, hown, hts, hr, hlk, hK, had, hSt⟩ := id C
  intro H locs ls hl hP hS
  unfold fX10_stage_s105 at hf
  refine lv_iload hx hb dX10_stage_105 (lv_at hl 7 rfl) ?_
  refine lv_if_ne (tgt := 124) hx hb dX10_stage_107 (by decide) (fun q => ?_) (fun q => ?_)
  · exact wX10_stage_s124 C n v1 v2 v3 v4 v5 v6 v7 st res (ie hf q) H locs ls (lv_sub hl [0, 1, 2, 3, 4, 5, 6, 7] rfl) hP hS
  · exact wX10_stage_s110 C n v1 v2 v3 v4 v5 v6 v7 st res (it hf q) H locs ls (lv_sub hl [0, 1, 2, 3, 4, 5, 6, 7] rfl) hP hS
def fX10_stage_s99 (n : Nat)   (v1 : Int32) (v2 : Int32) (v3 : Int32) (v4 : Int32) (v5 : Int32) (v6 : Int32) (v7 : Int32) (k0 : Int32) (st : St) : Option (Int32 × St) := if k0 = 0 then fX10_stage_s102 n st else fX10_stage_s105 n v1 v2 v3 v4 v5 v6 v7 st
set_option maxHeartbeats 4000000 in
set_option maxRecDepth 100000 in
theorem wX10_stage_s99 (C : Cx p s m args meth c cX10_stage 8 wsL_law RX10 (some .int) D G ad) (n : Nat)   (v1 : Int32) (v2 : Int32) (v3 : Int32) (v4 : Int32) (v5 : Int32) (v6 : Int32) (v7 : Int32) (k0 : Int32)   (st : St) (res : (Int32 × St))  (hf : fX10_stage_s99 n   v1 v2 v3 v4 v5 v6 v7 k0 st = some res) : At p l e (rmK 2) s m args below meth c D G ad (MQI D G ad below args s res) 8 st [(0, .ref (ad 0)), (1, .int v1), (2, .int v2), (3, .int v3), (4, .int v4), (5, .int v5), (6, .int v6), (7, .int v7)] 99 [.int k0] := by
  obtain ⟨hx, hb, hml, hown, hts, hr, hlk, hK, had, hSt⟩ := id C
  intro H locs ls hl hP hS
  unfold fX10_stage_s99 at hf
  refine lv_if_ne (tgt := 105) hx hb dX10_stage_99 (by decide) (fun q => ?_) (fun q => ?_)
  · exact wX10_stage_s105 C n v1 v2 v3 v4 v5 v6 v7 st res (ie hf q) H locs ls (lv_sub hl [0, 1, 2, 3, 4, 5, 6, 7] rfl) hP hS
  · exact wX10_stage_s102 C n st res (it hf q) H locs ls (lv_sub hl [] rfl) hP hS
def fX10_stage_s90 (n : Nat)   (v1 : Int32) (v2 : Int32) (v3 : Int32) (v4 : Int32) (v5 : Int32) (v6 : Int32) (v7 : Int32) (st : St) : Option (Int32 × St) := (fX10_within n v5 0 9999 st).bind (fun q => fX10_stage_s99 n v1 v2 v3 v4 v5 v6 v7 q.1 q.2)
set_option maxHeartbeats 4000000 in
set_option maxRecDepth 100000 in
theorem wX10_stage_s90 (C : Cx p s m args meth c cX10_stage 8 wsL_law RX10 (some .int) D G ad) (n : Nat)   (v1 : Int32) (v2 : Int32) (v3 : Int32) (v4 : Int32) (v5 : Int32) (v6 : Int32) (v7 : Int32)   (st : St) (res : (Int32 × St))  (hf : fX10_stage_s90 n   v1 v2 v3 v4 v5 v6 v7 st = some res) : At p l e (rmK 2) s m args below meth c D G ad (MQI D G ad below args s res) 8 st [(0, .ref (ad 0)), (1, .int v1), (2, .int v2), (3, .int v3), (4, .int v4), (5, .int v5), (6, .int v6), (7, .int v7)] 90 [] := by
  obtain ⟨hx, hb, hml, hown, hts, hr, hlk, hK, had, hSt⟩ := id C
  intro H locs ls hl hP hS
  unfold fX10_stage_s90 at hf
  refine lv_iload hx hb dX10_stage_90 (lv_at hl 5 rfl) ?_
  refine lv_iconst (v := 0) hx hb dX10_stage_92 (by decide) ?_
  refine lv_sipush (v := 9999) hx hb dX10_stage_93 (by decide) ?_
  obtain ⟨q, hq, hf⟩ := bd hf
  refine gcS_i (k := 0) (As := [.int v5, .int 0, .int 9999]) (rest := []) hx hb hml hown hts hK hSt hP hS hl.1 (goodS wm_9_17 wm_9_18 wm_1_2 wm_9_19) okX10_within (Nat.le_of_ble_eq_true rfl) (Nat.le_of_ble_eq_true rfl) rfl rfl (Nat.le_of_ble_eq_true rfl) dX10_stage_96 (kX10_within l D G ad had n  v5 0 9999 st q hq) (fun H locs hP hS => ?_)
  exact wX10_stage_s99 C n v1 v2 v3 v4 v5 v6 v7 q.1 q.2 res hf H locs ls (lv_sub hl [0, 1, 2, 3, 4, 5, 6, 7] rfl) hP hS
def fX10_stage_s87 (n : Nat)   (v1 : Int32) (v2 : Int32) (v3 : Int32) (v4 : Int32) (v5 : Int32) (v6 : Int32) (v7 : Int32) (k0 : Int32) (st : St) : Option (Int32 × St) := if k0 = 0 then fX10_stage_s102 n st else fX10_stage_s90 n v1 v2 v3 v4 v5 v6 v7 st
set_option maxHeartbeats 4000000 in
set_option maxRecDepth 100000 in
theorem wX10_stage_s87 (C : Cx p s m args meth c cX10_stage 8 wsL_law RX10 (some .int) D G ad) (n : Nat)   (v1 : Int32) (v2 : Int32) (v3 : Int32) (v4 : Int32) (v5 : Int32) (v6 : Int32) (v7 : Int32) (k0 : Int32)   (st : St) (res : (Int32 × St))  (hf : fX10_stage_s87 n   v1 v2 v3 v4 v5 v6 v7 k0 st = some res) : At p l e (rmK 2) s m args below meth c D G ad (MQI D G ad below args s res) 8 st [(0, .ref (ad 0)), (1, .int v1), (2, .int v2), (3, .int v3), (4, .int v4), (5, .int v5), (6, .int v6), (7, .int v7)] 87 [.int k0] := by
  obtain ⟨hx, hb, hml, hown, hts, hr, hlk, hK, had, hSt⟩ := id C
  intro H locs ls hl hP hS
  unfold fX10_stage_s87 at hf
  refine lv_if_eq (tgt := 102) hx hb dX10_stage_87 (by decide) (fun q => ?_) (fun q => ?_)
  · exact wX10_stage_s102 C n st res (it hf q) H locs ls (lv_sub hl [] rfl) hP hS
  · exact wX10_stage_s90 C n v1 v2 v3 v4 v5 v6 v7 st res (ie hf q) H locs ls (lv_sub hl [0, 1, 2, 3, 4, 5, 6, 7] rfl) hP hS
def fX10_stage_s80 (n : Nat)   (v1 : Int32) (v2 : Int32) (v3 : Int32) (v4 : Int32) (v5 : Int32) (v6 : Int32) (v7 : Int32) (st : St) : Option (Int32 × St) := (fX10_within n v4 0 3 st).bind (fun q => fX10_stage_s87 n v1 v2 v3 v4 v5 v6 v7 q.1 q.2)
set_option maxHeartbeats 4000000 in
set_option maxRecDepth 100000 in
theorem wX10_stage_s80 (C : Cx p s m args meth c cX10_stage 8 wsL_law RX10 (some .int) D G ad) (n : Nat)   (v1 : Int32) (v2 : Int32) (v3 : Int32) (v4 : Int32) (v5 : Int32) (v6 : Int32) (v7 : Int32)   (st : St) (res : (Int32 × St))  (hf : fX10_stage_s80 n   v1 v2 v3 v4 v5 v6 v7 st = some res) : At p l e (rmK 2) s m args below meth c D G ad (MQI D G ad below args s res) 8 st [(0, .ref (ad 0)), (1, .int v1), (2, .int v2), (3, .int v3), (4, .int v4), (5, .int v5), (6, .int v6), (7, .int v7)] 80 [] := by
  obtain ⟨hx, hb, hml, hown, hts, hr, hlk, hK, had, hSt⟩ := id C
  intro H locs ls hl hP hS
  unfold fX10_stage_s80 at hf
  refine lv_iload hx hb dX10_stage_80 (lv_at hl 4 rfl) ?_
  refine lv_iconst (v := 0) hx hb dX10_stage_82 (by decide) ?_
  refine lv_iconst (v := 3) hx hb dX10_stage_83 (by decide) ?_
  obtain ⟨q, hq, hf⟩ := bd hf
  refine gcS_i (k := 0) (As := [.int v4, .int 0, .int 3]) (rest := []) hx hb hml hown hts hK hSt hP hS hl.1 (goodS wm_9_17 wm_9_18 wm_1_2 wm_9_19) okX10_within (Nat.le_of_ble_eq_true rfl) (Nat.le_of_ble_eq_true rfl) rfl rfl (Nat.le_of_ble_eq_true rfl) dX10_stage_84 (kX10_within l D G ad had n  v4 0 3 st q hq) (fun H locs hP hS => ?_)
  exact wX10_stage_s87 C n v1 v2 v3 v4 v5 v6 v7 q.1 q.2 res hf H locs ls (lv_sub hl [0, 1, 2, 3, 4, 5, 6, 7] rfl) hP hS
def fX10_stage_s77 (n : Nat)   (v1 : Int32) (v2 : Int32) (v3 : Int32) (v4 : Int32) (v5 : Int32) (v6 : Int32) (v7 : Int32) (k0 : Int32) (st : St) : Option (Int32 × St) := if k0 = 0 then fX10_stage_s102 n st else fX10_stage_s80 n v1 v2 v3 v4 v5 v6 v7 st
set_option maxHeartbeats 4000000 in
set_option maxRecDepth 100000 in
theorem wX10_stage_s77 (C : Cx p s m args meth c cX10_stage 8 wsL_law RX10 (some .int) D G ad) (n : Nat)   (v1 : Int32) (v2 : Int32) (v3 : Int32) (v4 : Int32) (v5 : Int32) (v6 : Int32) (v7 : Int32) (k0 : Int32)   (st : St) (res : (Int32 × St))  (hf : fX10_stage_s77 n   v1 v2 v3 v4 v5 v6 v7 k0 st = some res) : At p l e (rmK 2) s m args below meth c D G ad (MQI D G ad below args s res) 8 st [(0, .ref (ad 0)), (1, .int v1), (2, .int v2), (3, .int v3), (4, .int v4), (5, .int v5), (6, .int v6), (7, .int v7)] 77 [.int k0] := by
  obtain ⟨hx, hb, hml, hown, hts, hr, hlk, hK, had, hSt⟩ := id C
  intro H locs ls hl hP hS
  unfold fX10_stage_s77 at hf
  refine lv_if_eq (tgt := 102) hx hb dX10_stage_77 (by decide) (fun q => ?_) (fun q => ?_)
  · exact wX10_stage_s102 C n st res (it hf q) H locs ls (lv_sub hl [] rfl) hP hS
  · exact wX10_stage_s80 C n v1 v2 v3 v4 v5 v6 v7 st res (ie hf q) H locs ls (lv_sub hl [0, 1, 2, 3, 4, 5, 6, 7] rfl) hP hS
def fX10_stage_s70 (n : Nat)   (v1 : Int32) (v2 : Int32) (v3 : Int32) (v4 : Int32) (v5 : Int32) (v6 : Int32) (v7 : Int32) (st : St) : Option (Int32 × St) := (fX10_within n v3 1 6 st).bind (fun q => fX10_stage_s77 n v1 v2 v3 v4 v5 v6 v7 q.1 q.2)
set_option maxHeartbeats 4000000 in
set_option maxRecDepth 100000 in
theorem wX10_stage_s70 (C : Cx p s m args meth c cX10_stage 8 wsL_law RX10 (some .int) D G ad) (n : Nat)   (v1 : Int32) (v2 : Int32) (v3 : Int32) (v4 : Int32) (v5 : Int32) (v6 : Int32) (v7 : Int32)   (st : St) (res : (Int32 × St))  (hf : fX10_stage_s70 n   v1 v2 v3 v4 v5 v6 v7 st = some res) : At p l e (rmK 2) s m args below meth c D G ad (MQI D G ad below args s res) 8 st [(0, .ref (ad 0)), (1, .int v1), (2, .int v2), (3, .int v3), (4, .int v4), (5, .int v5), (6, .int v6), (7, .int v7)] 70 [] := by
  obtain ⟨hx, hb, hml, hown, hts, hr, hlk, hK, had, hSt⟩ := id C
  intro H locs ls hl hP hS
  unfold fX10_stage_s70 at hf
  refine lv_iload_n hx hb dX10_stage_70 rfl (lv_at hl 3 rfl) ?_
  refine lv_iconst (v := 1) hx hb dX10_stage_71 (by decide) ?_
  refine lv_bipush (v := 6) hx hb dX10_stage_72 (by decide) ?_
  obtain ⟨q, hq, hf⟩ := bd hf
  refine gcS_i (k := 0) (As := [.int v3, .int 1, .int 6]) (rest := []) hx hb hml hown hts hK hSt hP hS hl.1 (goodS wm_9_17 wm_9_18 wm_1_2 wm_9_19) okX10_within (Nat.le_of_ble_eq_true rfl) (Nat.le_of_ble_eq_true rfl) rfl rfl (Nat.le_of_ble_eq_true rfl) dX10_stage_74 (kX10_within l D G ad had n  v3 1 6 st q hq) (fun H locs hP hS => ?_)
  exact wX10_stage_s77 C n v1 v2 v3 v4 v5 v6 v7 q.1 q.2 res hf H locs ls (lv_sub hl [0, 1, 2, 3, 4, 5, 6, 7] rfl) hP hS
def fX10_stage_s67 (n : Nat)    (st : St) : Option (Int32 × St) := some ((-2), st)
set_option maxHeartbeats 4000000 in
set_option maxRecDepth 100000 in
theorem wX10_stage_s67 (C : Cx p s m args meth c cX10_stage 8 wsL_law RX10 (some .int) D G ad) (n : Nat)      (st : St) (res : (Int32 × St))  (hf : fX10_stage_s67 n    st = some res) : At p l e (rmK 2) s m args below meth c D G ad (MQI D G ad below args s res) 8 st [] 67 [] := by
  obtain ⟨hx, hb, hml, hown, hts, hr, hlk, hK, had, hSt⟩ := id C
  intro H locs ls hl hP hS
  unfold fX10_stage_s67 at hf
  refine lv_bipush (v := (-2)) hx hb dX10_stage_67 (by decide) ?_
  exact g_iret hx hb hr hlk hP hS dX10_stage_69 hf
def fX10_stage_s64 (n : Nat)   (v1 : Int32) (v2 : Int32) (v3 : Int32) (v4 : Int32) (v5 : Int32) (v6 : Int32) (v7 : Int32) (k0 : Int32) (st : St) : Option (Int32 × St) := if k0 = 0 then fX10_stage_s67 n st else fX10_stage_s70 n v1 v2 v3 v4 v5 v6 v7 st
set_option maxHeartbeats 4000000 in
set_option maxRecDepth 100000 in
theorem wX10_stage_s64 (C : Cx p s m args meth c cX10_stage 8 wsL_law RX10 (some .int) D G ad) (n : Nat)   (v1 : Int32) (v2 : Int32) (v3 : Int32) (v4 : Int32) (v5 : Int32) (v6 : Int32) (v7 : Int32) (k0 : Int32)   (st : St) (res : (Int32 × St))  (hf : fX10_stage_s64 n   v1 v2 v3 v4 v5 v6 v7 k0 st = some res) : At p l e (rmK 2) s m args below meth c D G ad (MQI D G ad below args s res) 8 st [(0, .ref (ad 0)), (1, .int v1), (2, .int v2), (3, .int v3), (4, .int v4), (5, .int v5), (6, .int v6), (7, .int v7)] 64 [.int k0] := by
  obtain ⟨hx, hb, hml, hown, hts, hr, hlk, hK, had, hSt⟩ := id C
  intro H locs ls hl hP hS
  unfold fX10_stage_s64 at hf
  refine lv_if_ne (tgt := 70) hx hb dX10_stage_64 (by decide) (fun q => ?_) (fun q => ?_)
  · exact wX10_stage_s70 C n v1 v2 v3 v4 v5 v6 v7 st res (ie hf q) H locs ls (lv_sub hl [0, 1, 2, 3, 4, 5, 6, 7] rfl) hP hS
  · exact wX10_stage_s67 C n st res (it hf q) H locs ls (lv_sub hl [] rfl) hP hS
def fX10_stage_s58 (n : Nat)   (v1 : Int32) (v2 : Int32) (v3 : Int32) (v4 : Int32) (v5 : Int32) (v6 : Int32) (v7 : Int32) (st : St) : Option (Int32 × St) := (fX10_within n v1 1 3 st).bind (fun q => fX10_stage_s64 n v1 v2 v3 v4 v5 v6 v7 q.1 q.2)
set_option maxHeartbeats 4000000 in
set_option maxRecDepth 100000 in
theorem wX10_stage_s58 (C : Cx p s m args meth c cX10_stage 8 wsL_law RX10 (some .int) D G ad) (n : Nat)   (v1 : Int32) (v2 : Int32) (v3 : Int32) (v4 : Int32) (v5 : Int32) (v6 : Int32) (v7 : Int32)   (st : St) (res : (Int32 × St))  (hf : fX10_stage_s58 n   v1 v2 v3 v4 v5 v6 v7 st = some res) : At p l e (rmK 2) s m args below meth c D G ad (MQI D G ad below args s res) 8 st [(0, .ref (ad 0)), (1, .int v1), (2, .int v2), (3, .int v3), (4, .int v4), (5, .int v5), (6, .int v6), (7, .int v7)] 58 [] := by
  obtain ⟨hx, hb, hml, hown, hts, hr, hlk, hK, had, hSt⟩ := id C
  intro H locs ls hl hP hS
  unfold fX10_stage_s58 at hf
  refine lv_iload_n hx hb dX10_stage_58 rfl (lv_at hl 1 rfl) ?_
  refine lv_iconst (v := 1) hx hb dX10_stage_59 (by decide) ?_
  refine lv_iconst (v := 3) hx hb dX10_stage_60 (by decide) ?_
  obtain ⟨q, hq, hf⟩ := bd hf
  refine gcS_i (k := 0) (As := [.int v1, .int 1, .int 3]) (rest := []) hx hb hml hown hts hK hSt hP hS hl.1 (goodS wm_9_17 wm_9_18 wm_1_2 wm_9_19) okX10_within (Nat.le_of_ble_eq_true rfl) (Nat.le_of_ble_eq_true rfl) rfl rfl (Nat.le_of_ble_eq_true rfl) dX10_stage_61 (kX10_within l D G ad had n  v1 1 3 st q hq) (fun H locs hP hS => ?_)
  exact wX10_stage_s64 C n v1 v2 v3 v4 v5 v6 v7 q.1 q.2 res hf H locs ls (lv_sub hl [0, 1, 2, 3, 4, 5, 6, 7] rfl) hP hS
def fX10_stage_s55 (n : Nat)    (st : St) : Option (Int32 × St) := fX10_stage_s67 n st
set_option maxHeartbeats 4000000 in
set_option maxRecDepth 100000 in
theorem wX10_stage_s55 (C : Cx p s m args meth c cX10_stage 8 wsL_law RX10 (some .int) D G ad) (n : Nat)      (st : St) (res : (Int32 × St))  (hf : fX10_stage_s55 n    st = some res) : At p l e (rmK 2) s m args below meth c D G ad (MQI D G ad below args s res) 8 st [] 55 [] := by
  obtain ⟨hx, hb, hml, hown, hts, hr, hlk, hK, had, hSt⟩ := id C
  intro H locs ls hl hP hS
  unfold fX10_stage_s55 at hf
  refine lv_goto (tgt := 67) hx hb dX10_stage_55 (by decide) ?_
  exact wX10_stage_s67 C n st res hf H locs ls (lv_sub hl [] rfl) hP hS
def fX10_stage_s51 (n : Nat)   (v1 : Int32) (v2 : Int32) (v3 : Int32) (v4 : Int32) (v5 : Int32) (v6 : Int32) (v7 : Int32) (st : St) : Option (Int32 × St) := if v1 = 0 then fX10_stage_s70 n v1 v2 v3 v4 v5 v6 v7 st else fX10_stage_s55 n st
set_option maxHeartbeats 4000000 in
set_option maxRecDepth 100000 in
theorem wX10_stage_s51 (C : Cx p s m args meth c cX10_stage 8 wsL_law RX10 (some .int) D G ad) (n : Nat)   (v1 : Int32) (v2 : Int32) (v3 : Int32) (v4 : Int32) (v5 : Int32) (v6 : Int32) (v7 : Int32)   (st : St) (res : (Int32 × St))  (hf : fX10_stage_s51 n   v1 v2 v3 v4 v5 v6 v7 st = some res) : At p l e (rmK 2) s m args below meth c D G ad (MQI D G ad below args s res) 8 st [(0, .ref (ad 0)), (1, .int v1), (2, .int v2), (3, .int v3), (4, .int v4), (5, .int v5), (6, .int v6), (7, .int v7)] 51 [] := by
  obtain ⟨hx, hb, hml, hown, hts, hr, hlk, hK, had, hSt⟩ := id C
  intro H locs ls hl hP hS
  unfold fX10_stage_s51 at hf
  refine lv_iload_n hx hb dX10_stage_51 rfl (lv_at hl 1 rfl) ?_
  refine lv_if_eq (tgt := 70) hx hb dX10_stage_52 (by decide) (fun q => ?_) (fun q => ?_)
  · exact wX10_stage_s70 C n v1 v2 v3 v4 v5 v6 v7 st res (it hf q) H locs ls (lv_sub hl [0, 1, 2, 3, 4, 5, 6, 7] rfl) hP hS
  · exact wX10_stage_s55 C n st res (ie hf q) H locs ls (lv_sub hl [] rfl) hP hS
def fX10_stage_s46 (n : Nat)   (v1 : Int32) (v2 : Int32) (v3 : Int32) (v4 : Int32) (v5 : Int32) (v6 : Int32) (v7 : Int32) (st : St) : Option (Int32 × St) := if v7 = 0 then fX10_stage_s58 n v1 v2 v3 v4 v5 v6 v7 st else fX10_stage_s51 n v1 v2 v3 v4 v5 v6 v7 st
set_option maxHeartbeats 4000000 in
set_option maxRecDepth 100000 in
theorem wX10_stage_s46 (C : Cx p s m args meth c cX10_stage 8 wsL_law RX10 (some .int) D G ad) (n : Nat)   (v1 : Int32) (v2 : Int32) (v3 : Int32) (v4 : Int32) (v5 : Int32) (v6 : Int32) (v7 : Int32)   (st : St) (res : (Int32 × St))  (hf : fX10_stage_s46 n   v1 v2 v3 v4 v5 v6 v7 st = some res) : At p l e (rmK 2) s m args below meth c D G ad (MQI D G ad below args s res) 8 st [(0, .ref (ad 0)), (1, .int v1), (2, .int v2), (3, .int v3), (4, .int v4), (5, .int v5), (6, .int v6), (7, .int v7)] 46 [] := by
  obtain ⟨hx, hb, hml, hown, hts, hr, hlk, hK, had, hSt⟩ := id C
  intro H locs ls hl hP hS
  unfold fX10_stage_s46 at hf
  refine lv_iload hx hb dX10_stage_46 (lv_at hl 7 rfl) ?_
  refine lv_if_eq (tgt := 58) hx hb dX10_stage_48 (by decide) (fun q => ?_) (fun q => ?_)
  · exact wX10_stage_s58 C n v1 v2 v3 v4 v5 v6 v7 st res (it hf q) H locs ls (lv_sub hl [0, 1, 2, 3, 4, 5, 6, 7] rfl) hP hS
  · exact wX10_stage_s51 C n v1 v2 v3 v4 v5 v6 v7 st res (ie hf q) H locs ls (lv_sub hl [0, 1, 2, 3, 4, 5, 6, 7] rfl) hP hS
def fX10_stage_s44 (n : Nat)    (st : St) : Option (Int32 × St) := some ((-1), st)
set_option maxHeartbeats 4000000 in
set_option maxRecDepth 100000 in
theorem wX10_stage_s44 (C : Cx p s m args meth c cX10_stage 8 wsL_law RX10 (some .int) D G ad) (n : Nat)      (st : St) (res : (Int32 × St))  (hf : fX10_stage_s44 n    st = some res) : At p l e (rmK 2) s m args below meth c D G ad (MQI D G ad below args s res) 8 st [] 44 [] := by
  obtain ⟨hx, hb, hml, hown, hts, hr, hlk, hK, had, hSt⟩ := id C
  intro H locs ls hl hP hS
  unfold fX10_stage_s44 at hf
  refine lv_iconst (v := (-1)) hx hb dX10_stage_44 (by decide) ?_
  exact g_iret hx hb hr hlk hP hS dX10_stage_45 hf
def fX10_stage_s41 (n : Nat)   (v1 : Int32) (v2 : Int32) (v3 : Int32) (v4 : Int32) (v5 : Int32) (v6 : Int32) (v7 : Int32) (k0 : Int32) (st : St) : Option (Int32 × St) := if k0 = 0 then fX10_stage_s44 n st else fX10_stage_s46 n v1 v2 v3 v4 v5 v6 v7 st
set_option maxHeartbeats 4000000 in
set_option maxRecDepth 100000 in
theorem wX10_stage_s41 (C : Cx p s m args meth c cX10_stage 8 wsL_law RX10 (some .int) D G ad) (n : Nat)   (v1 : Int32) (v2 : Int32) (v3 : Int32) (v4 : Int32) (v5 : Int32) (v6 : Int32) (v7 : Int32) (k0 : Int32)   (st : St) (res : (Int32 × St))  (hf : fX10_stage_s41 n   v1 v2 v3 v4 v5 v6 v7 k0 st = some res) : At p l e (rmK 2) s m args below meth c D G ad (MQI D G ad below args s res) 8 st [(0, .ref (ad 0)), (1, .int v1), (2, .int v2), (3, .int v3), (4, .int v4), (5, .int v5), (6, .int v6), (7, .int v7)] 41 [.int k0] := by
  obtain ⟨hx, hb, hml, hown, hts, hr, hlk, hK, had, hSt⟩ := id C
  intro H locs ls hl hP hS
  unfold fX10_stage_s41 at hf
  refine lv_if_ne (tgt := 46) hx hb dX10_stage_41 (by decide) (fun q => ?_) (fun q => ?_)
  · exact wX10_stage_s46 C n v1 v2 v3 v4 v5 v6 v7 st res (ie hf q) H locs ls (lv_sub hl [0, 1, 2, 3, 4, 5, 6, 7] rfl) hP hS
  · exact wX10_stage_s44 C n st res (it hf q) H locs ls (lv_sub hl [] rfl) hP hS
def fX10_stage_s33 (n : Nat)   (v1 : Int32) (v2 : Int32) (v3 : Int32) (v4 : Int32) (v5 : Int32) (v6 : Int32) (v7 : Int32) (st : St) : Option (Int32 × St) := (fX6_has n v2 st).bind (fun q => fX10_stage_s41 n v1 v2 v3 v4 v5 v6 v7 q.1 q.2)
set_option maxHeartbeats 4000000 in
set_option maxRecDepth 100000 in
theorem wX10_stage_s33 (C : Cx p s m args meth c cX10_stage 8 wsL_law RX10 (some .int) D G ad) (n : Nat)   (v1 : Int32) (v2 : Int32) (v3 : Int32) (v4 : Int32) (v5 : Int32) (v6 : Int32) (v7 : Int32)   (st : St) (res : (Int32 × St))  (hf : fX10_stage_s33 n   v1 v2 v3 v4 v5 v6 v7 st = some res) : At p l e (rmK 2) s m args below meth c D G ad (MQI D G ad below args s res) 8 st [(0, .ref (ad 0)), (1, .int v1), (2, .int v2), (3, .int v3), (4, .int v4), (5, .int v5), (6, .int v6), (7, .int v7)] 33 [] := by
  obtain ⟨hx, hb, hml, hown, hts, hr, hlk, hK, had, hSt⟩ := id C
  intro H locs ls hl hP hS
  unfold fX10_stage_s33 at hf
  refine lv_aload_n hx hb dX10_stage_33 rfl (lv_at hl 0 rfl) ?_
  refine g_getR hx hb hts inlX10 hown hK hP 0 ct_0 rfl 0 (by decide) (hts _ wm_1_16) rfl dX10_stage_34 ?_
  refine lv_iload_n hx hb dX10_stage_37 rfl (lv_at hl 2 rfl) ?_
  obtain ⟨q, hq, hf⟩ := bd hf
  refine gcV_i (k := 0) (o := 1) (As := [.int v2]) (rest := []) hx hb hml hown hts hK hSt hP hS hl.1 (goodV wm_9_12 wm_9_13 wm_9_14 wm_1_15 wm_9_15) okX6_has ct_1 rfl rfl (Nat.le_of_ble_eq_true rfl) (Nat.le_of_ble_eq_true rfl) rfl rfl (Nat.le_of_ble_eq_true rfl) dX10_stage_38 (kX6_has l D G ad had n  v2 st q hq) (fun H locs hP hS => ?_)
  exact wX10_stage_s41 C n v1 v2 v3 v4 v5 v6 v7 q.1 q.2 res hf H locs ls (lv_sub hl [0, 1, 2, 3, 4, 5, 6, 7] rfl) hP hS
def fX10_stage_s30 (n : Nat)    (st : St) : Option (Int32 × St) := fX10_stage_s44 n st
set_option maxHeartbeats 4000000 in
set_option maxRecDepth 100000 in
theorem wX10_stage_s30 (C : Cx p s m args meth c cX10_stage 8 wsL_law RX10 (some .int) D G ad) (n : Nat)      (st : St) (res : (Int32 × St))  (hf : fX10_stage_s30 n    st = some res) : At p l e (rmK 2) s m args below meth c D G ad (MQI D G ad below args s res) 8 st [] 30 [] := by
  obtain ⟨hx, hb, hml, hown, hts, hr, hlk, hK, had, hSt⟩ := id C
  intro H locs ls hl hP hS
  unfold fX10_stage_s30 at hf
  refine lv_goto (tgt := 44) hx hb dX10_stage_30 (by decide) ?_
  exact wX10_stage_s44 C n st res hf H locs ls (lv_sub hl [] rfl) hP hS
def fX10_stage_s26 (n : Nat)   (v1 : Int32) (v2 : Int32) (v3 : Int32) (v4 : Int32) (v5 : Int32) (v6 : Int32) (v7 : Int32) (st : St) : Option (Int32 × St) := if v2 = 0 then fX10_stage_s46 n v1 v2 v3 v4 v5 v6 v7 st else fX10_stage_s30 n st
set_option maxHeartbeats 4000000 in
set_option maxRecDepth 100000 in
theorem wX10_stage_s26 (C : Cx p s m args meth c cX10_stage 8 wsL_law RX10 (some .int) D G ad) (n : Nat)   (v1 : Int32) (v2 : Int32) (v3 : Int32) (v4 : Int32) (v5 : Int32) (v6 : Int32) (v7 : Int32)   (st : St) (res : (Int32 × St))  (hf : fX10_stage_s26 n   v1 v2 v3 v4 v5 v6 v7 st = some res) : At p l e (rmK 2) s m args below meth c D G ad (MQI D G ad below args s res) 8 st [(0, .ref (ad 0)), (1, .int v1), (2, .int v2), (3, .int v3), (4, .int v4), (5, .int v5), (6, .int v6), (7, .int v7)] 26 [] := by
  obtain ⟨hx, hb, hml, hown, hts, hr, hlk, hK, had, hSt⟩ := id C
  intro H locs ls hl hP hS
  unfold fX10_stage_s26 at hf
  refine lv_iload_n hx hb dX10_stage_26 rfl (lv_at hl 2 rfl) ?_
  refine lv_if_eq (tgt := 46) hx hb dX10_stage_27 (by decide) (fun q => ?_) (fun q => ?_)
  · exact wX10_stage_s46 C n v1 v2 v3 v4 v5 v6 v7 st res (it hf q) H locs ls (lv_sub hl [0, 1, 2, 3, 4, 5, 6, 7] rfl) hP hS
  · exact wX10_stage_s30 C n st res (ie hf q) H locs ls (lv_sub hl [] rfl) hP hS
def fX10_stage_s19 (n : Nat)   (v1 : Int32) (v2 : Int32) (v3 : Int32) (v4 : Int32) (v5 : Int32) (v6 : Int32) (k0 : Int32) (st : St) : Option (Int32 × St) := if k0 = 0 then fX10_stage_s33 n v1 v2 v3 v4 v5 v6 k0 st else fX10_stage_s26 n v1 v2 v3 v4 v5 v6 k0 st
set_option maxHeartbeats 4000000 in
set_option maxRecDepth 100000 in
theorem wX10_stage_s19 (C : Cx p s m args meth c cX10_stage 8 wsL_law RX10 (some .int) D G ad) (n : Nat)   (v1 : Int32) (v2 : Int32) (v3 : Int32) (v4 : Int32) (v5 : Int32) (v6 : Int32) (k0 : Int32)   (st : St) (res : (Int32 × St))  (hf : fX10_stage_s19 n   v1 v2 v3 v4 v5 v6 k0 st = some res) : At p l e (rmK 2) s m args below meth c D G ad (MQI D G ad below args s res) 8 st [(0, .ref (ad 0)), (1, .int v1), (2, .int v2), (3, .int v3), (4, .int v4), (5, .int v5), (6, .int v6)] 19 [.int k0] := by
  obtain ⟨hx, hb, hml, hown, hts, hr, hlk, hK, had, hSt⟩ := id C
  intro H locs ls hl hP hS
  unfold fX10_stage_s19 at hf
  refine lv_istore (lv' := [(7, .int k0), (0, .ref (ad 0)), (1, .int v1), (2, .int v2), (3, .int v3), (4, .int v4), (5, .int v5), (6, .int v6)]) hx hb dX10_stage_19 hl (by decide) rfl (fun ls hl => ?_)
  refine lv_iload hx hb dX10_stage_21 (lv_at hl 0 rfl) ?_
  refine lv_if_eq (tgt := 33) hx hb dX10_stage_23 (by decide) (fun q => ?_) (fun q => ?_)
  · exact wX10_stage_s33 C n v1 v2 v3 v4 v5 v6 k0 st res (it hf q) H locs ls (lv_sub hl [1, 2, 3, 4, 5, 6, 7, 0] rfl) hP hS
  · exact wX10_stage_s26 C n v1 v2 v3 v4 v5 v6 k0 st res (ie hf q) H locs ls (lv_sub hl [1, 2, 3, 4, 5, 6, 7, 0] rfl) hP hS
def fX10_stage_s18 (n : Nat)   (v1 : Int32) (v2 : Int32) (v3 : Int32) (v4 : Int32) (v5 : Int32) (v6 : Int32) (st : St) : Option (Int32 × St) := fX10_stage_s19 n v1 v2 v3 v4 v5 v6 0 st
set_option maxHeartbeats 4000000 in
set_option maxRecDepth 100000 in
theorem wX10_stage_s18 (C : Cx p s m args meth c cX10_stage 8 wsL_law RX10 (some .int) D G ad) (n : Nat)   (v1 : Int32) (v2 : Int32) (v3 : Int32) (v4 : Int32) (v5 : Int32) (v6 : Int32)   (st : St) (res : (Int32 × St))  (hf : fX10_stage_s18 n   v1 v2 v3 v4 v5 v6 st = some res) : At p l e (rmK 2) s m args below meth c D G ad (MQI D G ad below args s res) 8 st [(0, .ref (ad 0)), (1, .int v1), (2, .int v2), (3, .int v3), (4, .int v4), (5, .int v5), (6, .int v6)] 18 [] := by
  obtain ⟨hx, hb, hml, hown, hts, hr, hlk, hK, had, hSt⟩ := id C
  intro H locs ls hl hP hS
  unfold fX10_stage_s18 at hf
  refine lv_iconst (v := 0) hx hb dX10_stage_18 (by decide) ?_
  exact wX10_stage_s19 C n v1 v2 v3 v4 v5 v6 0 st res hf H locs ls (lv_sub hl [0, 1, 2, 3, 4, 5, 6] rfl) hP hS
def fX10_stage_s14 (n : Nat)   (v1 : Int32) (v2 : Int32) (v3 : Int32) (v4 : Int32) (v5 : Int32) (v6 : Int32) (st : St) : Option (Int32 × St) := fX10_stage_s19 n v1 v2 v3 v4 v5 v6 1 st
set_option maxHeartbeats 4000000 in
set_option maxRecDepth 100000 in
theorem wX10_stage_s14 (C : Cx p s m args meth c cX10_stage 8 wsL_law RX10 (some .int) D G ad) (n : Nat)   (v1 : Int32) (v2 : Int32) (v3 : Int32) (v4 : Int32) (v5 : Int32) (v6 : Int32)   (st : St) (res : (Int32 × St))  (hf : fX10_stage_s14 n   v1 v2 v3 v4 v5 v6 st = some res) : At p l e (rmK 2) s m args below meth c D G ad (MQI D G ad below args s res) 8 st [(0, .ref (ad 0)), (1, .int v1), (2, .int v2), (3, .int v3), (4, .int v4), (5, .int v5), (6, .int v6)] 14 [] := by
  obtain ⟨hx, hb, hml, hown, hts, hr, hlk, hK, had, hSt⟩ := id C
  intro H locs ls hl hP hS
  unfold fX10_stage_s14 at hf
  refine lv_iconst (v := 1) hx hb dX10_stage_14 (by decide) ?_
  refine lv_goto (tgt := 19) hx hb dX10_stage_15 (by decide) ?_
  exact wX10_stage_s19 C n v1 v2 v3 v4 v5 v6 1 st res hf H locs ls (lv_sub hl [0, 1, 2, 3, 4, 5, 6] rfl) hP hS
def fX10_stage_s0 (n : Nat)   (v1 : Int32) (v2 : Int32) (v3 : Int32) (v4 : Int32) (v5 : Int32) (st : St) : Option (Int32 × St) := if (st.1 1 9) = 0 then fX10_stage_s14 n v1 v2 v3 v4 v5 (st.1 1 9) st else fX10_stage_s18 n v1 v2 v3 v4 v5 (st.1 1 9) st
set_option maxHeartbeats 4000000 in
set_option maxRecDepth 100000 in
theorem wX10_stage_s0 (C : Cx p s m args meth c cX10_stage 8 wsL_law RX10 (some .int) D G ad) (n : Nat)   (v1 : Int32) (v2 : Int32) (v3 : Int32) (v4 : Int32) (v5 : Int32)   (st : St) (res : (Int32 × St))  (hf : fX10_stage_s0 n   v1 v2 v3 v4 v5 st = some res) : At p l e (rmK 2) s m args below meth c D G ad (MQI D G ad below args s res) 8 st [(0, .ref (ad 0)), (1, .int v1), (2, .int v2), (3, .int v3), (4, .int v4), (5, .int v5)] 0 [] := by
  obtain ⟨hx, hb, hml, hown, hts, hr, hlk, hK, had, hSt⟩ := id C
  intro H locs ls hl hP hS
  unfold fX10_stage_s0 at hf
  refine lv_aload_n hx hb dX10_stage_0 rfl (lv_at hl 0 rfl) ?_
  refine g_getR hx hb hts inlX10 hown hK hP 0 ct_0 rfl 0 (by decide) (hts _ wm_1_16) rfl dX10_stage_1 ?_
  refine g_getI hx hb hts inlX6 hown hK hP 1 ct_1 rfl 9 (by decide) (hts _ wm_9_9) rfl dX10_stage_4 ?_
  refine lv_istore (lv' := [(6, .int (st.1 1 9)), (0, .ref (ad 0)), (1, .int v1), (2, .int v2), (3, .int v3), (4, .int v4), (5, .int v5)]) hx hb dX10_stage_7 hl (by decide) rfl (fun ls hl => ?_)
  refine lv_iload hx hb dX10_stage_9 (lv_at hl 0 rfl) ?_
  refine lv_if_ne (tgt := 18) hx hb dX10_stage_11 (by decide) (fun q => ?_) (fun q => ?_)
  · exact wX10_stage_s18 C n v1 v2 v3 v4 v5 (st.1 1 9) st res (ie hf q) H locs ls (lv_sub hl [1, 2, 3, 4, 5, 6, 0] rfl) hP hS
  · exact wX10_stage_s14 C n v1 v2 v3 v4 v5 (st.1 1 9) st res (it hf q) H locs ls (lv_sub hl [1, 2, 3, 4, 5, 6, 0] rfl) hP hS
def fX10_stage (n : Nat)  (a1 : Int32) (a2 : Int32) (a3 : Int32) (a4 : Int32) (a5 : Int32) (st : St) : Option (Int32 × St) := fX10_stage_s0 n a1 a2 a3 a4 a5 st
theorem okX10_stage : okY yX10_stage RX10 5 := by unfold okY; decide +kernel
end
set_option maxRecDepth 100000 in
theorem kX10_stage (l : Launch) (D : va_G) (G : G3) (ad : Nat → Nat) (had : Adr ad) (n : Nat)   (a1 : Int32) (a2 : Int32) (a3 : Int32) (a4 : Int32) (a5 : Int32) (st : St) (res : (Int32 × St)) (hf : fX10_stage n  a1 a2 a3 a4 a5 st = some res) {sz : Nat} : CtI l yX10_stage (wsU yX10_stage cX10_stage 8 (some .int)) (rmK 2) D G ad sz [.ref (ad 0), .int a1, .int a2, .int a3, .int a4, .int a5] st res := by
  refine Met.ofW (cc := cX10_stage) (maxL := 8) (ret := (some .int)) (by decide) rfl ?_
  intro p e s m args below meth c s₁ B hml hv
  obtain ⟨rfl, hsz, hP, hK, hSt⟩ := hv
  have hts := atoms_spec (ws := wsU yX10_stage cX10_stage 8 (some .int)) B.pre
  have C : Cx p s m _ meth c cX10_stage 8 wsL_law RX10 (some .int) D G ad := ⟨B.exec, B.bytes, hml, findClass_of_methodNamed B.named, fun w h => hts w (List.mem_cons_of_mem _ h), B.returns, B.notSynchronized, hK, had, hSt⟩
  subst hsz
  have hl := lv_entry ([.ref (ad 0), .int a1, .int a2, .int a3, .int a4, .int a5]) (n := 8) (Nat.le_of_ble_eq_true rfl)
  rw [lg_entry_eq]
  generalize (lg_sl ([.ref (ad 0), .int a1, .int a2, .int a3, .int a4, .int a5]) ++ List.replicate (8 - (lg_sl ([.ref (ad 0), .int a1, .int a2, .int a3, .int a4, .int a5])).length) Slot.unset).toArray = ls at hl ⊢
  exact wX10_stage_s0 C n  a1 a2 a3 a4 a5   st res hf s.heap [] ls (lv_sub hl [0, 1, 2, 3, 4, 5] rfl) hP va_S.rf
section
variable {p : Program} {l : Launch} {e : Env} {s : State} {m : MethodId} {args : Array Value} {below : List Frame} {meth : Method} {c : Code} {D : va_G} {G : G3} {ad : Nat → Nat}
def fX10_set_s20 (n : Nat)    (st : St) : Option (Int32 × St) := some ((-1), st)
set_option maxHeartbeats 4000000 in
set_option maxRecDepth 100000 in
theorem wX10_set_s20 (C : Cx p s m args meth c cX10_set 8 wsL_law RX10 (some .int) D G ad) (n : Nat)      (st : St) (res : (Int32 × St))  (hf : fX10_set_s20 n    st = some res) : At p l e (rmK 1) s m args below meth c D G ad (MQI D G ad below args s res) 8 st [] 20 [] := by
  obtain ⟨hx, hb, hml, hown, hts, hr, hlk, hK, had, hSt⟩ := id C
  intro H locs ls hl hP hS
  unfold fX10_set_s20 at hf
  refine lv_iconst (v := (-1)) hx hb dX10_set_20 (by decide) ?_
  exact g_iret hx hb hr hlk hP hS dX10_set_21 hf
def fX10_set_s93 (n : Nat)   (v7 : Int32) (st : St) : Option (Int32 × St) := some (v7, st)
set_option maxHeartbeats 4000000 in
set_option maxRecDepth 100000 in
theorem wX10_set_s93 (C : Cx p s m args meth c cX10_set 8 wsL_law RX10 (some .int) D G ad) (n : Nat)   (v7 : Int32)   (st : St) (res : (Int32 × St))  (hf : fX10_set_s93 n   v7 st = some res) : At p l e (rmK 1) s m args below meth c D G ad (MQI D G ad below args s res) 8 st [(7, .int v7)] 93 [] := by
  obtain ⟨hx, hb, hml, hown, hts, hr, hlk, hK, had, hSt⟩ := id C
  intro H locs ls hl hP hS
  unfold fX10_set_s93 at hf
  refine lv_iload hx hb dX10_set_93 (lv_at hl 0 rfl) ?_
  exact g_iret hx hb hr hlk hP hS dX10_set_95 hf
def fX10_set_s82 (n : Nat)   (v1 : Int32) (v3 : Int32) (rq : Nat) (st : St) : Option (Int32 × St) := if inb v1 8 = true then (if inb v1 8 = true then (fX10_set_s93 n (st.1 rq v1.toNatClampNeg) (setI st rq v1.toNatClampNeg v3)) else none) else none
set_option maxHeartbeats 4000000 in
set_option maxRecDepth 100000 in
theorem wX10_set_s82 (C : Cx p s m args meth c cX10_set 8 wsL_law RX10 (some .int) D G ad) (n : Nat)   (v1 : Int32) (v3 : Int32) (rq : Nat)  (hrq : ctab[rq]? = some (.inr (8, 0))) (st : St) (res : (Int32 × St))  (hf : fX10_set_s82 n   v1 v3 rq st = some res) : At p l e (rmK 1) s m args below meth c D G ad (MQI D G ad below args s res) 8 st [(1, .int v1), (3, .int v3), (4, .ref (ad rq))] 82 [] := by
  obtain ⟨hx, hb, hml, hown, hts, hr, hlk, hK, had, hSt⟩ := id C
  intro H locs ls hl hP hS
  unfold fX10_set_s82 at hf
  refine lv_aload hx hb dX10_set_82 (lv_at hl 2 rfl) ?_
  refine lv_iload_n hx hb dX10_set_84 rfl (lv_at hl 0 rfl) ?_
  obtain ⟨g1, hf⟩ := gd hf
  refine g_iald hx hb hK hP rq hrq g1 dX10_set_85 ?_
  refine lv_istore (lv' := [(7, .int (st.1 rq v1.toNatClampNeg)), (1, .int v1), (3, .int v3), (4, .ref (ad rq))]) hx hb dX10_set_86 hl (by decide) rfl (fun ls hl => ?_)
  refine lv_aload hx hb dX10_set_88 (lv_at hl 3 rfl) ?_
  refine lv_iload_n hx hb dX10_set_90 rfl (lv_at hl 1 rfl) ?_
  refine lv_iload_n hx hb dX10_set_91 rfl (lv_at hl 2 rfl) ?_
  obtain ⟨g2, hf⟩ := gd hf
  refine g_iast hx hb hK had hP hS rq hrq g2 dX10_set_92 (fun H locs hP hS => ?_)
  exact wX10_set_s93 C n (st.1 rq v1.toNatClampNeg) (setI st rq v1.toNatClampNeg v3) res hf H locs ls (lv_sub hl [0] rfl) hP hS
def fX10_set_s79 (n : Nat)    (st : St) : Option (Int32 × St) := some ((-2), st)
set_option maxHeartbeats 4000000 in
set_option maxRecDepth 100000 in
theorem wX10_set_s79 (C : Cx p s m args meth c cX10_set 8 wsL_law RX10 (some .int) D G ad) (n : Nat)      (st : St) (res : (Int32 × St))  (hf : fX10_set_s79 n    st = some res) : At p l e (rmK 1) s m args below meth c D G ad (MQI D G ad below args s res) 8 st [] 79 [] := by
  obtain ⟨hx, hb, hml, hown, hts, hr, hlk, hK, had, hSt⟩ := id C
  intro H locs ls hl hP hS
  unfold fX10_set_s79 at hf
  refine lv_bipush (v := (-2)) hx hb dX10_set_79 (by decide) ?_
  exact g_iret hx hb hr hlk hP hS dX10_set_81 hf
def fX10_set_s76 (n : Nat)   (v1 : Int32) (v3 : Int32) (rq : Nat) (k0 : Int32) (st : St) : Option (Int32 × St) := if k0 = 0 then fX10_set_s79 n st else fX10_set_s82 n v1 v3 rq st
set_option maxHeartbeats 4000000 in
set_option maxRecDepth 100000 in
theorem wX10_set_s76 (C : Cx p s m args meth c cX10_set 8 wsL_law RX10 (some .int) D G ad) (n : Nat)   (v1 : Int32) (v3 : Int32) (rq : Nat) (k0 : Int32)  (hrq : ctab[rq]? = some (.inr (8, 0))) (st : St) (res : (Int32 × St))  (hf : fX10_set_s76 n   v1 v3 rq k0 st = some res) : At p l e (rmK 1) s m args below meth c D G ad (MQI D G ad below args s res) 8 st [(1, .int v1), (3, .int v3), (4, .ref (ad rq))] 76 [.int k0] := by
  obtain ⟨hx, hb, hml, hown, hts, hr, hlk, hK, had, hSt⟩ := id C
  intro H locs ls hl hP hS
  unfold fX10_set_s76 at hf
  refine lv_if_ne (tgt := 82) hx hb dX10_set_76 (by decide) (fun q => ?_) (fun q => ?_)
  · exact wX10_set_s82 C n v1 v3 rq hrq st res (ie hf q) H locs ls (lv_sub hl [0, 1, 2] rfl) hP hS
  · exact wX10_set_s79 C n st res (it hf q) H locs ls (lv_sub hl [] rfl) hP hS
def fX10_set_s66 (n : Nat)   (v1 : Int32) (v3 : Int32) (rq : Nat) (v5 : Int32) (k0 : Int32) (st : St) : Option (Int32 × St) := (fX10_within n v3 v5 k0 st).bind (fun q => fX10_set_s76 n v1 v3 rq q.1 q.2)
set_option maxHeartbeats 4000000 in
set_option maxRecDepth 100000 in
theorem wX10_set_s66 (C : Cx p s m args meth c cX10_set 8 wsL_law RX10 (some .int) D G ad) (n : Nat)   (v1 : Int32) (v3 : Int32) (rq : Nat) (v5 : Int32) (k0 : Int32)  (hrq : ctab[rq]? = some (.inr (8, 0))) (st : St) (res : (Int32 × St))  (hf : fX10_set_s66 n   v1 v3 rq v5 k0 st = some res) : At p l e (rmK 1) s m args below meth c D G ad (MQI D G ad below args s res) 8 st [(1, .int v1), (3, .int v3), (4, .ref (ad rq)), (5, .int v5)] 66 [.int k0] := by
  obtain ⟨hx, hb, hml, hown, hts, hr, hlk, hK, had, hSt⟩ := id C
  intro H locs ls hl hP hS
  unfold fX10_set_s66 at hf
  refine lv_istore (lv' := [(6, .int k0), (1, .int v1), (3, .int v3), (4, .ref (ad rq)), (5, .int v5)]) hx hb dX10_set_66 hl (by decide) rfl (fun ls hl => ?_)
  refine lv_iload_n hx hb dX10_set_68 rfl (lv_at hl 2 rfl) ?_
  refine lv_iload hx hb dX10_set_69 (lv_at hl 4 rfl) ?_
  refine lv_iload hx hb dX10_set_71 (lv_at hl 0 rfl) ?_
  obtain ⟨q, hq, hf⟩ := bd hf
  refine gcS_i (k := 0) (As := [.int v3, .int v5, .int k0]) (rest := []) hx hb hml hown hts hK hSt hP hS hl.1 (goodS wm_9_17 wm_9_18 wm_1_2 wm_9_19) okX10_within (Nat.le_of_ble_eq_true rfl) (Nat.le_of_ble_eq_true rfl) rfl rfl (Nat.le_of_ble_eq_true rfl) dX10_set_73 (kX10_within l D G ad had n  v3 v5 k0 st q hq) (fun H locs hP hS => ?_)
  exact wX10_set_s76 C n v1 v3 rq q.1 hrq q.2 res hf H locs ls (lv_sub hl [1, 2, 3] rfl) hP hS
def fX10_set_s64 (n : Nat)   (v1 : Int32) (v3 : Int32) (rq : Nat) (v5 : Int32) (st : St) : Option (Int32 × St) := fX10_set_s66 n v1 v3 rq v5 99 st
set_option maxHeartbeats 4000000 in
set_option maxRecDepth 100000 in
theorem wX10_set_s64 (C : Cx p s m args meth c cX10_set 8 wsL_law RX10 (some .int) D G ad) (n : Nat)   (v1 : Int32) (v3 : Int32) (rq : Nat) (v5 : Int32)  (hrq : ctab[rq]? = some (.inr (8, 0))) (st : St) (res : (Int32 × St))  (hf : fX10_set_s64 n   v1 v3 rq v5 st = some res) : At p l e (rmK 1) s m args below meth c D G ad (MQI D G ad below args s res) 8 st [(1, .int v1), (3, .int v3), (4, .ref (ad rq)), (5, .int v5)] 64 [] := by
  obtain ⟨hx, hb, hml, hown, hts, hr, hlk, hK, had, hSt⟩ := id C
  intro H locs ls hl hP hS
  unfold fX10_set_s64 at hf
  refine lv_bipush (v := 99) hx hb dX10_set_64 (by decide) ?_
  exact wX10_set_s66 C n v1 v3 rq v5 99 hrq st res hf H locs ls (lv_sub hl [0, 1, 2, 3] rfl) hP hS
def fX10_set_s58 (n : Nat)   (v1 : Int32) (v3 : Int32) (rq : Nat) (v5 : Int32) (st : St) : Option (Int32 × St) := fX10_set_s66 n v1 v3 rq v5 9999 st
set_option maxHeartbeats 4000000 in
set_option maxRecDepth 100000 in
theorem wX10_set_s58 (C : Cx p s m args meth c cX10_set 8 wsL_law RX10 (some .int) D G ad) (n : Nat)   (v1 : Int32) (v3 : Int32) (rq : Nat) (v5 : Int32)  (hrq : ctab[rq]? = some (.inr (8, 0))) (st : St) (res : (Int32 × St))  (hf : fX10_set_s58 n   v1 v3 rq v5 st = some res) : At p l e (rmK 1) s m args below meth c D G ad (MQI D G ad below args s res) 8 st [(1, .int v1), (3, .int v3), (4, .ref (ad rq)), (5, .int v5)] 58 [] := by
  obtain ⟨hx, hb, hml, hown, hts, hr, hlk, hK, had, hSt⟩ := id C
  intro H locs ls hl hP hS
  unfold fX10_set_s58 at hf
  refine lv_sipush (v := 9999) hx hb dX10_set_58 (by decide) ?_
  refine lv_goto (tgt := 66) hx hb dX10_set_61 (by decide) ?_
  exact wX10_set_s66 C n v1 v3 rq v5 9999 hrq st res hf H locs ls (lv_sub hl [0, 1, 2, 3] rfl) hP hS
def fX10_set_s53 (n : Nat)   (v1 : Int32) (v2 : Int32) (v3 : Int32) (rq : Nat) (v5 : Int32) (st : St) : Option (Int32 × St) := if v2 = 1 then fX10_set_s58 n v1 v3 rq v5 st else fX10_set_s64 n v1 v3 rq v5 st
set_option maxHeartbeats 4000000 in
set_option maxRecDepth 100000 in
theorem wX10_set_s53 (C : Cx p s m args meth c cX10_set 8 wsL_law RX10 (some .int) D G ad) (n : Nat)   (v1 : Int32) (v2 : Int32) (v3 : Int32) (rq : Nat) (v5 : Int32)  (hrq : ctab[rq]? = some (.inr (8, 0))) (st : St) (res : (Int32 × St))  (hf : fX10_set_s53 n   v1 v2 v3 rq v5 st = some res) : At p l e (rmK 1) s m args below meth c D G ad (MQI D G ad below args s res) 8 st [(1, .int v1), (2, .int v2), (3, .int v3), (4, .ref (ad rq)), (5, .int v5)] 53 [] := by
  obtain ⟨hx, hb, hml, hown, hts, hr, hlk, hK, had, hSt⟩ := id C
  intro H locs ls hl hP hS
  unfold fX10_set_s53 at hf
  refine lv_iload_n hx hb dX10_set_53 rfl (lv_at hl 1 rfl) ?_
  refine lv_iconst (v := 1) hx hb dX10_set_54 (by decide) ?_
  refine lv_icmp_ne (tgt := 64) hx hb dX10_set_55 (by decide) (fun q => ?_) (fun q => ?_)
  · exact wX10_set_s64 C n v1 v3 rq v5 hrq st res (ie hf q) H locs ls (lv_sub hl [0, 2, 3, 4] rfl) hP hS
  · exact wX10_set_s58 C n v1 v3 rq v5 hrq st res (it hf q) H locs ls (lv_sub hl [0, 2, 3, 4] rfl) hP hS
def fX10_set_s48 (n : Nat)   (v1 : Int32) (v3 : Int32) (rq : Nat) (v5 : Int32) (st : St) : Option (Int32 × St) := fX10_set_s66 n v1 v3 rq v5 50 st
set_option maxHeartbeats 4000000 in
set_option maxRecDepth 100000 in
theorem wX10_set_s48 (C : Cx p s m args meth c cX10_set 8 wsL_law RX10 (some .int) D G ad) (n : Nat)   (v1 : Int32) (v3 : Int32) (rq : Nat) (v5 : Int32)  (hrq : ctab[rq]? = some (.inr (8, 0))) (st : St) (res : (Int32 × St))  (hf : fX10_set_s48 n   v1 v3 rq v5 st = some res) : At p l e (rmK 1) s m args below meth c D G ad (MQI D G ad below args s res) 8 st [(1, .int v1), (3, .int v3), (4, .ref (ad rq)), (5, .int v5)] 48 [] := by
  obtain ⟨hx, hb, hml, hown, hts, hr, hlk, hK, had, hSt⟩ := id C
  intro H locs ls hl hP hS
  unfold fX10_set_s48 at hf
  refine lv_bipush (v := 50) hx hb dX10_set_48 (by decide) ?_
  refine lv_goto (tgt := 66) hx hb dX10_set_50 (by decide) ?_
  exact wX10_set_s66 C n v1 v3 rq v5 50 hrq st res hf H locs ls (lv_sub hl [0, 1, 2, 3] rfl) hP hS
def fX10_set_s42 (n : Nat)   (v1 : Int32) (v2 : Int32) (v3 : Int32) (rq : Nat) (k0 : Int32) (st : St) : Option (Int32 × St) := if v2 = 0 then fX10_set_s48 n v1 v3 rq k0 st else fX10_set_s53 n v1 v2 v3 rq k0 st
set_option maxHeartbeats 4000000 in
set_option maxRecDepth 100000 in
theorem wX10_set_s42 (C : Cx p s m args meth c cX10_set 8 wsL_law RX10 (some .int) D G ad) (n : Nat)   (v1 : Int32) (v2 : Int32) (v3 : Int32) (rq : Nat) (k0 : Int32)  (hrq : ctab[rq]? = some (.inr (8, 0))) (st : St) (res : (Int32 × St))  (hf : fX10_set_s42 n   v1 v2 v3 rq k0 st = some res) : At p l e (rmK 1) s m args below meth c D G ad (MQI D G ad below args s res) 8 st [(1, .int v1), (2, .int v2), (3, .int v3), (4, .ref (ad rq))] 42 [.int k0] := by
  obtain ⟨hx, hb, hml, hown, hts, hr, hlk, hK, had, hSt⟩ := id C
  intro H locs ls hl hP hS
  unfold fX10_set_s42 at hf
  refine lv_istore (lv' := [(5, .int k0), (1, .int v1), (2, .int v2), (3, .int v3), (4, .ref (ad rq))]) hx hb dX10_set_42 hl (by decide) rfl (fun ls hl => ?_)
  refine lv_iload_n hx hb dX10_set_44 rfl (lv_at hl 2 rfl) ?_
  refine lv_if_ne (tgt := 53) hx hb dX10_set_45 (by decide) (fun q => ?_) (fun q => ?_)
  · exact wX10_set_s53 C n v1 v2 v3 rq k0 hrq st res (ie hf q) H locs ls (lv_sub hl [1, 2, 3, 4, 0] rfl) hP hS
  · exact wX10_set_s48 C n v1 v3 rq k0 hrq st res (it hf q) H locs ls (lv_sub hl [1, 3, 4, 0] rfl) hP hS
def fX10_set_s41 (n : Nat)   (v1 : Int32) (v2 : Int32) (v3 : Int32) (rq : Nat) (st : St) : Option (Int32 × St) := fX10_set_s42 n v1 v2 v3 rq 0 st
set_option maxHeartbeats 4000000 in
set_option maxRecDepth 100000 in
theorem wX10_set_s41 (C : Cx p s m args meth c cX10_set 8 wsL_law RX10 (some .int) D G ad) (n : Nat)   (v1 : Int32) (v2 : Int32) (v3 : Int32) (rq : Nat)  (hrq : ctab[rq]? = some (.inr (8, 0))) (st : St) (res : (Int32 × St))  (hf : fX10_set_s41 n   v1 v2 v3 rq st = some res) : At p l e (rmK 1) s m args below meth c D G ad (MQI D G ad below args s res) 8 st [(1, .int v1), (2, .int v2), (3, .int v3), (4, .ref (ad rq))] 41 [] := by
  obtain ⟨hx, hb, hml, hown, hts, hr, hlk, hK, had, hSt⟩ := id C
  intro H locs ls hl hP hS
  unfold fX10_set_s41 at hf
  refine lv_iconst (v := 0) hx hb dX10_set_41 (by decide) ?_
  exact wX10_set_s42 C n v1 v2 v3 rq 0 hrq st res hf H locs ls (lv_sub hl [0, 1, 2, 3] rfl) hP hS
def fX10_set_s37 (n : Nat)   (v1 : Int32) (v2 : Int32) (v3 : Int32) (rq : Nat) (st : St) : Option (Int32 × St) := fX10_set_s42 n v1 v2 v3 rq 1 st
set_option maxHeartbeats 4000000 in
set_option maxRecDepth 100000 in
theorem wX10_set_s37 (C : Cx p s m args meth c cX10_set 8 wsL_law RX10 (some .int) D G ad) (n : Nat)   (v1 : Int32) (v2 : Int32) (v3 : Int32) (rq : Nat)  (hrq : ctab[rq]? = some (.inr (8, 0))) (st : St) (res : (Int32 × St))  (hf : fX10_set_s37 n   v1 v2 v3 rq st = some res) : At p l e (rmK 1) s m args below meth c D G ad (MQI D G ad below args s res) 8 st [(1, .int v1), (2, .int v2), (3, .int v3), (4, .ref (ad rq))] 37 [] := by
  obtain ⟨hx, hb, hml, hown, hts, hr, hlk, hK, had, hSt⟩ := id C
  intro H locs ls hl hP hS
  unfold fX10_set_s37 at hf
  refine lv_iconst (v := 1) hx hb dX10_set_37 (by decide) ?_
  refine lv_goto (tgt := 42) hx hb dX10_set_38 (by decide) ?_
  exact wX10_set_s42 C n v1 v2 v3 rq 1 hrq st res hf H locs ls (lv_sub hl [0, 1, 2, 3] rfl) hP hS
def fX10_set_s30 (n : Nat)   (v1 : Int32) (v2 : Int32) (v3 : Int32) (rq : Nat) (st : St) : Option (Int32 × St) := if 2 ≤ v2 then fX10_set_s41 n v1 v2 v3 rq st else fX10_set_s37 n v1 v2 v3 rq st
set_option maxHeartbeats 4000000 in
set_option maxRecDepth 100000 in
theorem wX10_set_s30 (C : Cx p s m args meth c cX10_set 8 wsL_law RX10 (some .int) D G ad) (n : Nat)   (v1 : Int32) (v2 : Int32) (v3 : Int32) (rq : Nat)  (hrq : ctab[rq]? = some (.inr (8, 0))) (st : St) (res : (Int32 × St))  (hf : fX10_set_s30 n   v1 v2 v3 rq st = some res) : At p l e (rmK 1) s m args below meth c D G ad (MQI D G ad below args s res) 8 st [(1, .int v1), (2, .int v2), (3, .int v3)] 30 [.ref (ad rq)] := by
  obtain ⟨hx, hb, hml, hown, hts, hr, hlk, hK, had, hSt⟩ := id C
  intro H locs ls hl hP hS
  unfold fX10_set_s30 at hf
  refine lv_astore (lv' := [(4, .ref (ad rq)), (1, .int v1), (2, .int v2), (3, .int v3)]) hx hb dX10_set_30 hl (by decide) rfl (fun ls hl => ?_)
  refine lv_iload_n hx hb dX10_set_32 rfl (lv_at hl 2 rfl) ?_
  refine lv_iconst (v := 2) hx hb dX10_set_33 (by decide) ?_
  refine lv_icmp_ge (tgt := 41) hx hb dX10_set_34 (by decide) (fun q => ?_) (fun q => ?_)
  · exact wX10_set_s41 C n v1 v2 v3 rq hrq st res (it hf q) H locs ls (lv_sub hl [1, 2, 3, 0] rfl) hP hS
  · exact wX10_set_s37 C n v1 v2 v3 rq hrq st res (ie hf q) H locs ls (lv_sub hl [1, 2, 3, 0] rfl) hP hS
def fX10_set_s22 (n : Nat)   (v1 : Int32) (v2 : Int32) (v3 : Int32) (st : St) : Option (Int32 × St) := (fX6_settings n v2 st).bind (fun q => fX10_set_s30 n v1 v2 v3 q.1 q.2)
set_option maxHeartbeats 4000000 in
set_option maxRecDepth 100000 in
theorem wX10_set_s22 (C : Cx p s m args meth c cX10_set 8 wsL_law RX10 (some .int) D G ad) (n : Nat)   (v1 : Int32) (v2 : Int32) (v3 : Int32)   (st : St) (res : (Int32 × St))  (hf : fX10_set_s22 n   v1 v2 v3 st = some res) : At p l e (rmK 1) s m args below meth c D G ad (MQI D G ad below args s res) 8 st [(0, .ref (ad 0)), (1, .int v1), (2, .int v2), (3, .int v3)] 22 [] := by
  obtain ⟨hx, hb, hml, hown, hts, hr, hlk, hK, had, hSt⟩ := id C
  intro H locs ls hl hP hS
  unfold fX10_set_s22 at hf
  refine lv_aload_n hx hb dX10_set_22 rfl (lv_at hl 0 rfl) ?_
  refine g_getR hx hb hts inlX10 hown hK hP 0 ct_0 rfl 0 (by decide) (hts _ wm_1_16) rfl dX10_set_23 ?_
  refine lv_iload_n hx hb dX10_set_26 rfl (lv_at hl 2 rfl) ?_
  obtain ⟨q, hq, hf⟩ := bd hf
  refine gcV_r (k := 0) (o := 1) (As := [.int v2]) (rest := []) hx hb hml hown hts hK hSt hP hS hl.1 (goodV wm_11_4 wm_11_5 wm_11_6 wm_1_15 wm_11_7) okX6_settings ct_1 rfl rfl (Nat.le_of_ble_eq_true rfl) (Nat.le_of_ble_eq_true rfl) rfl rfl (Nat.le_of_ble_eq_true rfl) dX10_set_27 (kX6_settings l D G ad had n  v2 st q hq) (fun H locs hP hS => ?_)
  exact wX10_set_s30 C n v1 v2 v3 q.1 (fX6_settings_ok hq) q.2 res hf H locs ls (lv_sub hl [1, 2, 3] rfl) hP hS
def fX10_set_s17 (n : Nat)   (v1 : Int32) (v2 : Int32) (v3 : Int32) (k0 : Int32) (st : St) : Option (Int32 × St) := if k0 = 0 then fX10_set_s20 n st else fX10_set_s22 n v1 v2 v3 st
set_option maxHeartbeats 4000000 in
set_option maxRecDepth 100000 in
theorem wX10_set_s17 (C : Cx p s m args meth c cX10_set 8 wsL_law RX10 (some .int) D G ad) (n : Nat)   (v1 : Int32) (v2 : Int32) (v3 : Int32) (k0 : Int32)   (st : St) (res : (Int32 × St))  (hf : fX10_set_s17 n   v1 v2 v3 k0 st = some res) : At p l e (rmK 1) s m args below meth c D G ad (MQI D G ad below args s res) 8 st [(0, .ref (ad 0)), (1, .int v1), (2, .int v2), (3, .int v3)] 17 [.int k0] := by
  obtain ⟨hx, hb, hml, hown, hts, hr, hlk, hK, had, hSt⟩ := id C
  intro H locs ls hl hP hS
  unfold fX10_set_s17 at hf
  refine lv_if_ne (tgt := 22) hx hb dX10_set_17 (by decide) (fun q => ?_) (fun q => ?_)
  · exact wX10_set_s22 C n v1 v2 v3 st res (ie hf q) H locs ls (lv_sub hl [0, 1, 2, 3] rfl) hP hS
  · exact wX10_set_s20 C n st res (it hf q) H locs ls (lv_sub hl [] rfl) hP hS
def fX10_set_s11 (n : Nat)   (v1 : Int32) (v2 : Int32) (v3 : Int32) (st : St) : Option (Int32 × St) := (fX10_within n v2 0 3 st).bind (fun q => fX10_set_s17 n v1 v2 v3 q.1 q.2)
set_option maxHeartbeats 4000000 in
set_option maxRecDepth 100000 in
theorem wX10_set_s11 (C : Cx p s m args meth c cX10_set 8 wsL_law RX10 (some .int) D G ad) (n : Nat)   (v1 : Int32) (v2 : Int32) (v3 : Int32)   (st : St) (res : (Int32 × St))  (hf : fX10_set_s11 n   v1 v2 v3 st = some res) : At p l e (rmK 1) s m args below meth c D G ad (MQI D G ad below args s res) 8 st [(0, .ref (ad 0)), (1, .int v1), (2, .int v2), (3, .int v3)] 11 [] := by
  obtain ⟨hx, hb, hml, hown, hts, hr, hlk, hK, had, hSt⟩ := id C
  intro H locs ls hl hP hS
  unfold fX10_set_s11 at hf
  refine lv_iload_n hx hb dX10_set_11 rfl (lv_at hl 2 rfl) ?_
  refine lv_iconst (v := 0) hx hb dX10_set_12 (by decide) ?_
  refine lv_iconst (v := 3) hx hb dX10_set_13 (by decide) ?_
  obtain ⟨q, hq, hf⟩ := bd hf
  refine gcS_i (k := 0) (As := [.int v2, .int 0, .int 3]) (rest := []) hx hb hml hown hts hK hSt hP hS hl.1 (goodS wm_9_17 wm_9_18 wm_1_2 wm_9_19) okX10_within (Nat.le_of_ble_eq_true rfl) (Nat.le_of_ble_eq_true rfl) rfl rfl (Nat.le_of_ble_eq_true rfl) dX10_set_14 (kX10_within l D G ad had n  v2 0 3 st q hq) (fun H locs hP hS => ?_)
  exact wX10_set_s17 C n v1 v2 v3 q.1 q.2 res hf H locs ls (lv_sub hl [0, 1, 2, 3] rfl) hP hS
def fX10_set_s8 (n : Nat)   (v1 : Int32) (v2 : Int32) (v3 : Int32) (k0 : Int32) (st : St) : Option (Int32 × St) := if k0 = 0 then fX10_set_s20 n st else fX10_set_s11 n v1 v2 v3 st
set_option maxHeartbeats 4000000 in
set_option maxRecDepth 100000 in
theorem wX10_set_s8 (C : Cx p s m args meth c cX10_set 8 wsL_law RX10 (some .int) D G ad) (n : Nat)   (v1 : Int32) (v2 : Int32) (v3 : Int32) (k0 : Int32)   (st : St) (res : (Int32 × St))  (hf : fX10_set_s8 n   v1 v2 v3 k0 st = some res) : At p l e (rmK 1) s m args below meth c D G ad (MQI D G ad below args s res) 8 st [(0, .ref (ad 0)), (1, .int v1), (2, .int v2), (3, .int v3)] 8 [.int k0] := by
  obtain ⟨hx, hb, hml, hown, hts, hr, hlk, hK, had, hSt⟩ := id C
  intro H locs ls hl hP hS
  unfold fX10_set_s8 at hf
  refine lv_if_eq (tgt := 20) hx hb dX10_set_8 (by decide) (fun q => ?_) (fun q => ?_)
  · exact wX10_set_s20 C n st res (it hf q) H locs ls (lv_sub hl [] rfl) hP hS
  · exact wX10_set_s11 C n v1 v2 v3 st res (ie hf q) H locs ls (lv_sub hl [0, 1, 2, 3] rfl) hP hS
def fX10_set_s0 (n : Nat)   (v1 : Int32) (v2 : Int32) (v3 : Int32) (st : St) : Option (Int32 × St) := (fX6_has n v1 st).bind (fun q => fX10_set_s8 n v1 v2 v3 q.1 q.2)
set_option maxHeartbeats 4000000 in
set_option maxRecDepth 100000 in
theorem wX10_set_s0 (C : Cx p s m args meth c cX10_set 8 wsL_law RX10 (some .int) D G ad) (n : Nat)   (v1 : Int32) (v2 : Int32) (v3 : Int32)   (st : St) (res : (Int32 × St))  (hf : fX10_set_s0 n   v1 v2 v3 st = some res) : At p l e (rmK 1) s m args below meth c D G ad (MQI D G ad below args s res) 8 st [(0, .ref (ad 0)), (1, .int v1), (2, .int v2), (3, .int v3)] 0 [] := by
  obtain ⟨hx, hb, hml, hown, hts, hr, hlk, hK, had, hSt⟩ := id C
  intro H locs ls hl hP hS
  unfold fX10_set_s0 at hf
  refine lv_aload_n hx hb dX10_set_0 rfl (lv_at hl 0 rfl) ?_
  refine g_getR hx hb hts inlX10 hown hK hP 0 ct_0 rfl 0 (by decide) (hts _ wm_1_16) rfl dX10_set_1 ?_
  refine lv_iload_n hx hb dX10_set_4 rfl (lv_at hl 1 rfl) ?_
  obtain ⟨q, hq, hf⟩ := bd hf
  refine gcV_i (k := 0) (o := 1) (As := [.int v1]) (rest := []) hx hb hml hown hts hK hSt hP hS hl.1 (goodV wm_9_12 wm_9_13 wm_9_14 wm_1_15 wm_9_15) okX6_has ct_1 rfl rfl (Nat.le_of_ble_eq_true rfl) (Nat.le_of_ble_eq_true rfl) rfl rfl (Nat.le_of_ble_eq_true rfl) dX10_set_5 (kX6_has l D G ad had n  v1 st q hq) (fun H locs hP hS => ?_)
  exact wX10_set_s8 C n v1 v2 v3 q.1 q.2 res hf H locs ls (lv_sub hl [0, 1, 2, 3] rfl) hP hS
def fX10_set (n : Nat)  (a1 : Int32) (a2 : Int32) (a3 : Int32) (st : St) : Option (Int32 × St) := fX10_set_s0 n a1 a2 a3 st
theorem okX10_set : okY yX10_set RX10 3 := by unfold okY; decide +kernel
end
set_option maxRecDepth 100000 in
theorem kX10_set (l : Launch) (D : va_G) (G : G3) (ad : Nat → Nat) (had : Adr ad) (n : Nat)   (a1 : Int32) (a2 : Int32) (a3 : Int32) (st : St) (res : (Int32 × St)) (hf : fX10_set n  a1 a2 a3 st = some res) {sz : Nat} : CtI l yX10_set (wsU yX10_set cX10_set 8 (some .int)) (rmK 1) D G ad sz [.ref (ad 0), .int a1, .int a2, .int a3] st res := by
  refine Met.ofW (cc := cX10_set) (maxL := 8) (ret := (some .int)) (by decide) rfl ?_
  intro p e s m args below meth c s₁ B hml hv
  obtain ⟨rfl, hsz, hP, hK, hSt⟩ := hv
  have hts := atoms_spec (ws := wsU yX10_set cX10_set 8 (some .int)) B.pre
  have C : Cx p s m _ meth c cX10_set 8 wsL_law RX10 (some .int) D G ad := ⟨B.exec, B.bytes, hml, findClass_of_methodNamed B.named, fun w h => hts w (List.mem_cons_of_mem _ h), B.returns, B.notSynchronized, hK, had, hSt⟩
  subst hsz
  have hl := lv_entry ([.ref (ad 0), .int a1, .int a2, .int a3]) (n := 8) (Nat.le_of_ble_eq_true rfl)
  rw [lg_entry_eq]
  generalize (lg_sl ([.ref (ad 0), .int a1, .int a2, .int a3]) ++ List.replicate (8 - (lg_sl ([.ref (ad 0), .int a1, .int a2, .int a3])).length) Slot.unset).toArray = ls at hl ⊢
  exact wX10_set_s0 C n  a1 a2 a3   st res hf s.heap [] ls (lv_sub hl [0, 1, 2, 3] rfl) hP va_S.rf
section
variable {p : Program} {l : Launch} {e : Env} {s : State} {m : MethodId} {args : Array Value} {below : List Frame} {meth : Method} {c : Code} {D : va_G} {G : G3} {ad : Nat → Nat}
def fX10_use_s27 (n : Nat)    (st : St) : Option (Int32 × St) := some ((-5), st)
set_option maxHeartbeats 4000000 in
set_option maxRecDepth 100000 in
theorem wX10_use_s27 (C : Cx p s m args meth c cX10_use 4 wsL_law RX10 (some .int) D G ad) (n : Nat)      (st : St) (res : (Int32 × St))  (hf : fX10_use_s27 n    st = some res) : At p l e (rmK 1) s m args below meth c D G ad (MQI D G ad below args s res) 4 st [] 27 [] := by
  obtain ⟨hx, hb, hml, hown, hts, hr, hlk, hK, had, hSt⟩ := id C
  intro H locs ls hl hP hS
  unfold fX10_use_s27 at hf
  refine lv_bipush (v := (-5)) hx hb dX10_use_27 (by decide) ?_
  exact g_iret hx hb hr hlk hP hS dX10_use_29 hf
def fX10_use_s50 (n : Nat)   (v3 : Int32) (st : St) : Option (Int32 × St) := some (v3, st)
set_option maxHeartbeats 4000000 in
set_option maxRecDepth 100000 in
theorem wX10_use_s50 (C : Cx p s m args meth c cX10_use 4 wsL_law RX10 (some .int) D G ad) (n : Nat)   (v3 : Int32)   (st : St) (res : (Int32 × St))  (hf : fX10_use_s50 n   v3 st = some res) : At p l e (rmK 1) s m args below meth c D G ad (MQI D G ad below args s res) 4 st [(3, .int v3)] 50 [] := by
  obtain ⟨hx, hb, hml, hown, hts, hr, hlk, hK, had, hSt⟩ := id C
  intro H locs ls hl hP hS
  unfold fX10_use_s50 at hf
  refine lv_iload_n hx hb dX10_use_50 rfl (lv_at hl 0 rfl) ?_
  exact g_iret hx hb hr hlk hP hS dX10_use_51 hf
def fX10_use_s30 (n : Nat)   (v1 : Int32) (v2 : Int32) (st : St) : Option (Int32 × St) := if inb v1 8 = true then (if inb v1 8 = true then (fX10_use_s50 n (st.1 10 v1.toNatClampNeg) (setI st 10 v1.toNatClampNeg v2)) else none) else none
set_option maxHeartbeats 4000000 in
set_option maxRecDepth 100000 in
theorem wX10_use_s30 (C : Cx p s m args meth c cX10_use 4 wsL_law RX10 (some .int) D G ad) (n : Nat)   (v1 : Int32) (v2 : Int32)   (st : St) (res : (Int32 × St))  (hf : fX10_use_s30 n   v1 v2 st = some res) : At p l e (rmK 1) s m args below meth c D G ad (MQI D G ad below args s res) 4 st [(0, .ref (ad 0)), (1, .int v1), (2, .int v2)] 30 [] := by
  obtain ⟨hx, hb, hml, hown, hts, hr, hlk, hK, had, hSt⟩ := id C
  intro H locs ls hl hP hS
  unfold fX10_use_s30 at hf
  refine lv_aload_n hx hb dX10_use_30 rfl (lv_at hl 0 rfl) ?_
  refine g_getR hx hb hts inlX10 hown hK hP 0 ct_0 rfl 0 (by decide) (hts _ wm_1_16) rfl dX10_use_31 ?_
  refine g_getR hx hb hts inlX6 hown hK hP 1 ct_1 rfl 8 (by decide) (hts _ wm_11_18) rfl dX10_use_34 ?_
  refine lv_iload_n hx hb dX10_use_37 rfl (lv_at hl 1 rfl) ?_
  obtain ⟨g1, hf⟩ := gd hf
  refine g_iald hx hb hK hP 10 ct_10 g1 dX10_use_38 ?_
  refine lv_istore_n (lv' := [(3, .int (st.1 10 v1.toNatClampNeg)), (0, .ref (ad 0)), (1, .int v1), (2, .int v2)]) hx hb dX10_use_39 rfl hl (by decide) rfl (fun ls hl => ?_)
  refine lv_aload_n hx hb dX10_use_40 rfl (lv_at hl 1 rfl) ?_
  refine g_getR hx hb hts inlX10 hown hK hP 0 ct_0 rfl 0 (by decide) (hts _ wm_1_16) rfl dX10_use_41 ?_
  refine g_getR hx hb hts inlX6 hown hK hP 1 ct_1 rfl 8 (by decide) (hts _ wm_11_18) rfl dX10_use_44 ?_
  refine lv_iload_n hx hb dX10_use_47 rfl (lv_at hl 2 rfl) ?_
  refine lv_iload_n hx hb dX10_use_48 rfl (lv_at hl 3 rfl) ?_
  obtain ⟨g2, hf⟩ := gd hf
  refine g_iast hx hb hK had hP hS 10 ct_10 g2 dX10_use_49 (fun H locs hP hS => ?_)
  exact wX10_use_s50 C n (st.1 10 v1.toNatClampNeg) (setI st 10 v1.toNatClampNeg v2) res hf H locs ls (lv_sub hl [0] rfl) hP hS
def fX10_use_s24 (n : Nat)   (v1 : Int32) (v2 : Int32) (k0 : Int32) (st : St) : Option (Int32 × St) := if k0 = 0 then fX10_use_s27 n st else fX10_use_s30 n v1 v2 st
set_option maxHeartbeats 4000000 in
set_option maxRecDepth 100000 in
theorem wX10_use_s24 (C : Cx p s m args meth c cX10_use 4 wsL_law RX10 (some .int) D G ad) (n : Nat)   (v1 : Int32) (v2 : Int32) (k0 : Int32)   (st : St) (res : (Int32 × St))  (hf : fX10_use_s24 n   v1 v2 k0 st = some res) : At p l e (rmK 1) s m args below meth c D G ad (MQI D G ad below args s res) 4 st [(0, .ref (ad 0)), (1, .int v1), (2, .int v2)] 24 [.int k0] := by
  obtain ⟨hx, hb, hml, hown, hts, hr, hlk, hK, had, hSt⟩ := id C
  intro H locs ls hl hP hS
  unfold fX10_use_s24 at hf
  refine lv_if_ne (tgt := 30) hx hb dX10_use_24 (by decide) (fun q => ?_) (fun q => ?_)
  · exact wX10_use_s30 C n v1 v2 st res (ie hf q) H locs ls (lv_sub hl [0, 1, 2] rfl) hP hS
  · exact wX10_use_s27 C n st res (it hf q) H locs ls (lv_sub hl [] rfl) hP hS
def fX10_use_s16 (n : Nat)   (v1 : Int32) (v2 : Int32) (st : St) : Option (Int32 × St) := (fX7_has n v2 st).bind (fun q => fX10_use_s24 n v1 v2 q.1 q.2)
set_option maxHeartbeats 4000000 in
set_option maxRecDepth 100000 in
theorem wX10_use_s16 (C : Cx p s m args meth c cX10_use 4 wsL_law RX10 (some .int) D G ad) (n : Nat)   (v1 : Int32) (v2 : Int32)   (st : St) (res : (Int32 × St))  (hf : fX10_use_s16 n   v1 v2 st = some res) : At p l e (rmK 1) s m args below meth c D G ad (MQI D G ad below args s res) 4 st [(0, .ref (ad 0)), (1, .int v1), (2, .int v2)] 16 [] := by
  obtain ⟨hx, hb, hml, hown, hts, hr, hlk, hK, had, hSt⟩ := id C
  intro H locs ls hl hP hS
  unfold fX10_use_s16 at hf
  refine lv_aload_n hx hb dX10_use_16 rfl (lv_at hl 0 rfl) ?_
  refine g_getR hx hb hts inlX10 hown hK hP 0 ct_0 rfl 1 (by decide) (hts _ wm_1_20) rfl dX10_use_17 ?_
  refine lv_iload_n hx hb dX10_use_20 rfl (lv_at hl 2 rfl) ?_
  obtain ⟨q, hq, hf⟩ := bd hf
  refine gcV_i (k := 0) (o := 11) (As := [.int v2]) (rest := []) hx hb hml hown hts hK hSt hP hS hl.1 (goodV wm_11_19 wm_11_20 wm_11_21 wm_1_19 wm_11_22) okX7_has ct_11 rfl rfl (Nat.le_of_ble_eq_true rfl) (Nat.le_of_ble_eq_true rfl) rfl rfl (Nat.le_of_ble_eq_true rfl) dX10_use_21 (kX7_has l D G ad had n  v2 st q hq) (fun H locs hP hS => ?_)
  exact wX10_use_s24 C n v1 v2 q.1 q.2 res hf H locs ls (lv_sub hl [0, 1, 2] rfl) hP hS
def fX10_use_s11 (n : Nat)   (v1 : Int32) (v2 : Int32) (st : St) : Option (Int32 × St) := if v2 = (-1) then fX10_use_s30 n v1 v2 st else fX10_use_s16 n v1 v2 st
set_option maxHeartbeats 4000000 in
set_option maxRecDepth 100000 in
theorem wX10_use_s11 (C : Cx p s m args meth c cX10_use 4 wsL_law RX10 (some .int) D G ad) (n : Nat)   (v1 : Int32) (v2 : Int32)   (st : St) (res : (Int32 × St))  (hf : fX10_use_s11 n   v1 v2 st = some res) : At p l e (rmK 1) s m args below meth c D G ad (MQI D G ad below args s res) 4 st [(0, .ref (ad 0)), (1, .int v1), (2, .int v2)] 11 [] := by
  obtain ⟨hx, hb, hml, hown, hts, hr, hlk, hK, had, hSt⟩ := id C
  intro H locs ls hl hP hS
  unfold fX10_use_s11 at hf
  refine lv_iload_n hx hb dX10_use_11 rfl (lv_at hl 2 rfl) ?_
  refine lv_iconst (v := (-1)) hx hb dX10_use_12 (by decide) ?_
  refine lv_icmp_eq (tgt := 30) hx hb dX10_use_13 (by decide) (fun q => ?_) (fun q => ?_)
  · exact wX10_use_s30 C n v1 v2 st res (it hf q) H locs ls (lv_sub hl [0, 1, 2] rfl) hP hS
  · exact wX10_use_s16 C n v1 v2 st res (ie hf q) H locs ls (lv_sub hl [0, 1, 2] rfl) hP hS
def fX10_use_s8 (n : Nat)   (v1 : Int32) (v2 : Int32) (k0 : Int32) (st : St) : Option (Int32 × St) := if k0 = 0 then fX10_use_s27 n st else fX10_use_s11 n v1 v2 st
set_option maxHeartbeats 4000000 in
set_option maxRecDepth 100000 in
theorem wX10_use_s8 (C : Cx p s m args meth c cX10_use 4 wsL_law RX10 (some .int) D G ad) (n : Nat)   (v1 : Int32) (v2 : Int32) (k0 : Int32)   (st : St) (res : (Int32 × St))  (hf : fX10_use_s8 n   v1 v2 k0 st = some res) : At p l e (rmK 1) s m args below meth c D G ad (MQI D G ad below args s res) 4 st [(0, .ref (ad 0)), (1, .int v1), (2, .int v2)] 8 [.int k0] := by
  obtain ⟨hx, hb, hml, hown, hts, hr, hlk, hK, had, hSt⟩ := id C
  intro H locs ls hl hP hS
  unfold fX10_use_s8 at hf
  refine lv_if_eq (tgt := 27) hx hb dX10_use_8 (by decide) (fun q => ?_) (fun q => ?_)
  · exact wX10_use_s27 C n st res (it hf q) H locs ls (lv_sub hl [] rfl) hP hS
  · exact wX10_use_s11 C n v1 v2 st res (ie hf q) H locs ls (lv_sub hl [0, 1, 2] rfl) hP hS
def fX10_use_s0 (n : Nat)   (v1 : Int32) (v2 : Int32) (st : St) : Option (Int32 × St) := (fX6_has n v1 st).bind (fun q => fX10_use_s8 n v1 v2 q.1 q.2)
set_option maxHeartbeats 4000000 in
set_option maxRecDepth 100000 in
theorem wX10_use_s0 (C : Cx p s m args meth c cX10_use 4 wsL_law RX10 (some .int) D G ad) (n : Nat)   (v1 : Int32) (v2 : Int32)   (st : St) (res : (Int32 × St))  (hf : fX10_use_s0 n   v1 v2 st = some res) : At p l e (rmK 1) s m args below meth c D G ad (MQI D G ad below args s res) 4 st [(0, .ref (ad 0)), (1, .int v1), (2, .int v2)] 0 [] := by
  obtain ⟨hx, hb, hml, hown, hts, hr, hlk, hK, had, hSt⟩ := id C
  intro H locs ls hl hP hS
  unfold fX10_use_s0 at hf
  refine lv_aload_n hx hb dX10_use_0 rfl (lv_at hl 0 rfl) ?_
  refine g_getR hx hb hts inlX10 hown hK hP 0 ct_0 rfl 0 (by decide) (hts _ wm_1_16) rfl dX10_use_1 ?_
  refine lv_iload_n hx hb dX10_use_4 rfl (lv_at hl 1 rfl) ?_
  obtain ⟨q, hq, hf⟩ := bd hf
  refine gcV_i (k := 0) (o := 1) (As := [.int v1]) (rest := []) hx hb hml hown hts hK hSt hP hS hl.1 (goodV wm_9_12 wm_9_13 wm_9_14 wm_1_15 wm_9_15) okX6_has ct_1 rfl rfl (Nat.le_of_ble_eq_true rfl) (Nat.le_of_ble_eq_true rfl) rfl rfl (Nat.le_of_ble_eq_true rfl) dX10_use_5 (kX6_has l D G ad had n  v1 st q hq) (fun H locs hP hS => ?_)
  exact wX10_use_s8 C n v1 v2 q.1 q.2 res hf H locs ls (lv_sub hl [0, 1, 2] rfl) hP hS
def fX10_use (n : Nat)  (a1 : Int32) (a2 : Int32) (st : St) : Option (Int32 × St) := fX10_use_s0 n a1 a2 st
theorem okX10_use : okY yX10_use RX10 2 := by unfold okY; decide +kernel
end
set_option maxRecDepth 100000 in
theorem kX10_use (l : Launch) (D : va_G) (G : G3) (ad : Nat → Nat) (had : Adr ad) (n : Nat)   (a1 : Int32) (a2 : Int32) (st : St) (res : (Int32 × St)) (hf : fX10_use n  a1 a2 st = some res) {sz : Nat} : CtI l yX10_use (wsU yX10_use cX10_use 4 (some .int)) (rmK 1) D G ad sz [.ref (ad 0), .int a1, .int a2] st res := by
  refine Met.ofW (cc := cX10_use) (maxL := 4) (ret := (some .int)) (by decide) rfl ?_
  intro p e s m args below meth c s₁ B hml hv
  obtain ⟨rfl, hsz, hP, hK, hSt⟩ := hv
  have hts := atoms_spec (ws := wsU yX10_use cX10_use 4 (some .int)) B.pre
  have C : Cx p s m _ meth c cX10_use 4 wsL_law RX10 (some .int) D G ad := ⟨B.exec, B.bytes, hml, findClass_of_methodNamed B.named, fun w h => hts w (List.mem_cons_of_mem _ h), B.returns, B.notSynchronized, hK, had, hSt⟩
  subst hsz
  have hl := lv_entry ([.ref (ad 0), .int a1, .int a2]) (n := 4) (Nat.le_of_ble_eq_true rfl)
  rw [lg_entry_eq]
  generalize (lg_sl ([.ref (ad 0), .int a1, .int a2]) ++ List.replicate (4 - (lg_sl ([.ref (ad 0), .int a1, .int a2])).length) Slot.unset).toArray = ls at hl ⊢
  exact wX10_use_s0 C n  a1 a2   st res hf s.heap [] ls (lv_sub hl [0, 1, 2] rfl) hP va_S.rf
section
variable {p : Program} {l : Launch} {e : Env} {s : State} {m : MethodId} {args : Array Value} {below : List Frame} {meth : Method} {c : Code} {D : va_G} {G : G3} {ad : Nat → Nat}
def fX10_allot_s28 (n : Nat)   (v2 : Int32) (st : St) : Option (Int32 × St) := some (v2, st)
set_option maxHeartbeats 4000000 in
set_option maxRecDepth 100000 in
theorem wX10_allot_s28 (C : Cx p s m args meth c cX10_allot 3 wsL_law RX10 (some .int) D G ad) (n : Nat)   (v2 : Int32)   (st : St) (res : (Int32 × St))  (hf : fX10_allot_s28 n   v2 st = some res) : At p l e (rmK 1) s m args below meth c D G ad (MQI D G ad below args s res) 3 st [(2, .int v2)] 28 [] := by
  obtain ⟨hx, hb, hml, hown, hts, hr, hlk, hK, had, hSt⟩ := id C
  intro H locs ls hl hP hS
  unfold fX10_allot_s28 at hf
  refine lv_iload_n hx hb dX10_allot_28 rfl (lv_at hl 0 rfl) ?_
  exact g_iret hx hb hr hlk hP hS dX10_allot_29 hf
def fX10_allot_s12 (n : Nat)   (v1 : Int32) (st : St) : Option (Int32 × St) := fX10_allot_s28 n (st.1 1 11) (setI st 1 11 v1)
set_option maxHeartbeats 4000000 in
set_option maxRecDepth 100000 in
theorem wX10_allot_s12 (C : Cx p s m args meth c cX10_allot 3 wsL_law RX10 (some .int) D G ad) (n : Nat)   (v1 : Int32)   (st : St) (res : (Int32 × St))  (hf : fX10_allot_s12 n   v1 st = some res) : At p l e (rmK 1) s m args below meth c D G ad (MQI D G ad below args s res) 3 st [(0, .ref (ad 0)), (1, .int v1)] 12 [] := by
  obtain ⟨hx, hb, hml, hown, hts, hr, hlk, hK, had, hSt⟩ := id C
  intro H locs ls hl hP hS
  unfold fX10_allot_s12 at hf
  refine lv_aload_n hx hb dX10_allot_12 rfl (lv_at hl 0 rfl) ?_
  refine g_getR hx hb hts inlX10 hown hK hP 0 ct_0 rfl 0 (by decide) (hts _ wm_1_16) rfl dX10_allot_13 ?_
  refine g_getI hx hb hts inlX6 hown hK hP 1 ct_1 rfl 11 (by decide) (hts _ wm_12_10) rfl dX10_allot_16 ?_
  refine lv_istore_n (lv' := [(2, .int (st.1 1 11)), (0, .ref (ad 0)), (1, .int v1)]) hx hb dX10_allot_19 rfl hl (by decide) rfl (fun ls hl => ?_)
  refine lv_aload_n hx hb dX10_allot_20 rfl (lv_at hl 1 rfl) ?_
  refine g_getR hx hb hts inlX10 hown hK hP 0 ct_0 rfl 0 (by decide) (hts _ wm_1_16) rfl dX10_allot_21 ?_
  refine lv_iload_n hx hb dX10_allot_24 rfl (lv_at hl 2 rfl) ?_
  refine g_putI hx hb hts inlX6 tyX6_ok nmX6 hown hK had hP hS 1 ct_1 rfl 11 (by decide) (hts _ wm_12_10) rfl rfl rfl rfl rfl dX10_allot_25 (fun H locs hP hS => ?_)
  exact wX10_allot_s28 C n (st.1 1 11) (setI st 1 11 v1) res hf H locs ls (lv_sub hl [0] rfl) hP hS
def fX10_allot_s9 (n : Nat)    (st : St) : Option (Int32 × St) := some ((-2), st)
set_option maxHeartbeats 4000000 in
set_option maxRecDepth 100000 in
theorem wX10_allot_s9 (C : Cx p s m args meth c cX10_allot 3 wsL_law RX10 (some .int) D G ad) (n : Nat)      (st : St) (res : (Int32 × St))  (hf : fX10_allot_s9 n    st = some res) : At p l e (rmK 1) s m args below meth c D G ad (MQI D G ad below args s res) 3 st [] 9 [] := by
  obtain ⟨hx, hb, hml, hown, hts, hr, hlk, hK, had, hSt⟩ := id C
  intro H locs ls hl hP hS
  unfold fX10_allot_s9 at hf
  refine lv_bipush (v := (-2)) hx hb dX10_allot_9 (by decide) ?_
  exact g_iret hx hb hr hlk hP hS dX10_allot_11 hf
def fX10_allot_s6 (n : Nat)   (v1 : Int32) (k0 : Int32) (st : St) : Option (Int32 × St) := if k0 = 0 then fX10_allot_s9 n st else fX10_allot_s12 n v1 st
set_option maxHeartbeats 4000000 in
set_option maxRecDepth 100000 in
theorem wX10_allot_s6 (C : Cx p s m args meth c cX10_allot 3 wsL_law RX10 (some .int) D G ad) (n : Nat)   (v1 : Int32) (k0 : Int32)   (st : St) (res : (Int32 × St))  (hf : fX10_allot_s6 n   v1 k0 st = some res) : At p l e (rmK 1) s m args below meth c D G ad (MQI D G ad below args s res) 3 st [(0, .ref (ad 0)), (1, .int v1)] 6 [.int k0] := by
  obtain ⟨hx, hb, hml, hown, hts, hr, hlk, hK, had, hSt⟩ := id C
  intro H locs ls hl hP hS
  unfold fX10_allot_s6 at hf
  refine lv_if_ne (tgt := 12) hx hb dX10_allot_6 (by decide) (fun q => ?_) (fun q => ?_)
  · exact wX10_allot_s12 C n v1 st res (ie hf q) H locs ls (lv_sub hl [0, 1] rfl) hP hS
  · exact wX10_allot_s9 C n st res (it hf q) H locs ls (lv_sub hl [] rfl) hP hS
def fX10_allot_s0 (n : Nat)   (v1 : Int32) (st : St) : Option (Int32 × St) := (fX10_within n v1 0 2 st).bind (fun q => fX10_allot_s6 n v1 q.1 q.2)
set_option maxHeartbeats 4000000 in
set_option maxRecDepth 100000 in
theorem wX10_allot_s0 (C : Cx p s m args meth c cX10_allot 3 wsL_law RX10 (some .int) D G ad) (n : Nat)   (v1 : Int32)   (st : St) (res : (Int32 × St))  (hf : fX10_allot_s0 n   v1 st = some res) : At p l e (rmK 1) s m args below meth c D G ad (MQI D G ad below args s res) 3 st [(0, .ref (ad 0)), (1, .int v1)] 0 [] := by
  obtain ⟨hx, hb, hml, hown, hts, hr, hlk, hK, had, hSt⟩ := id C
  intro H locs ls hl hP hS
  unfold fX10_allot_s0 at hf
  refine lv_iload_n hx hb dX10_allot_0 rfl (lv_at hl 1 rfl) ?_
  refine lv_iconst (v := 0) hx hb dX10_allot_1 (by decide) ?_
  refine lv_iconst (v := 2) hx hb dX10_allot_2 (by decide) ?_
  obtain ⟨q, hq, hf⟩ := bd hf
  refine gcS_i (k := 0) (As := [.int v1, .int 0, .int 2]) (rest := []) hx hb hml hown hts hK hSt hP hS hl.1 (goodS wm_9_17 wm_9_18 wm_1_2 wm_9_19) okX10_within (Nat.le_of_ble_eq_true rfl) (Nat.le_of_ble_eq_true rfl) rfl rfl (Nat.le_of_ble_eq_true rfl) dX10_allot_3 (kX10_within l D G ad had n  v1 0 2 st q hq) (fun H locs hP hS => ?_)
  exact wX10_allot_s6 C n v1 q.1 q.2 res hf H locs ls (lv_sub hl [0, 1] rfl) hP hS
def fX10_allot (n : Nat)  (a1 : Int32) (st : St) : Option (Int32 × St) := fX10_allot_s0 n a1 st
theorem okX10_allot : okY yX10_allot RX10 1 := by unfold okY; decide +kernel
end
set_option maxRecDepth 100000 in
theorem kX10_allot (l : Launch) (D : va_G) (G : G3) (ad : Nat → Nat) (had : Adr ad) (n : Nat)   (a1 : Int32) (st : St) (res : (Int32 × St)) (hf : fX10_allot n  a1 st = some res) {sz : Nat} : CtI l yX10_allot (wsU yX10_allot cX10_allot 3 (some .int)) (rmK 1) D G ad sz [.ref (ad 0), .int a1] st res := by
  refine Met.ofW (cc := cX10_allot) (maxL := 3) (ret := (some .int)) (by decide) rfl ?_
  intro p e s m args below meth c s₁ B hml hv
  obtain ⟨rfl, hsz, hP, hK, hSt⟩ := hv
  have hts := atoms_spec (ws := wsU yX10_allot cX10_allot 3 (some .int)) B.pre
  have C : Cx p s m _ meth c cX10_allot 3 wsL_law RX10 (some .int) D G ad := ⟨B.exec, B.bytes, hml, findClass_of_methodNamed B.named, fun w h => hts w (List.mem_cons_of_mem _ h), B.returns, B.notSynchronized, hK, had, hSt⟩
  subst hsz
  have hl := lv_entry ([.ref (ad 0), .int a1]) (n := 3) (Nat.le_of_ble_eq_true rfl)
  rw [lg_entry_eq]
  generalize (lg_sl ([.ref (ad 0), .int a1]) ++ List.replicate (3 - (lg_sl ([.ref (ad 0), .int a1])).length) Slot.unset).toArray = ls at hl ⊢
  exact wX10_allot_s0 C n  a1   st res hf s.heap [] ls (lv_sub hl [0, 1] rfl) hP va_S.rf
section
variable {p : Program} {l : Launch} {e : Env} {s : State} {m : MethodId} {args : Array Value} {below : List Frame} {meth : Method} {c : Code} {D : va_G} {G : G3} {ad : Nat → Nat}
def fX10_about_s80 (n : Nat)   (v1 : Int32) (st : St) : Option (Int32 × St) := if inb v1 8 = true then (some (st.1 2 v1.toNatClampNeg, st)) else none
set_option maxHeartbeats 4000000 in
set_option maxRecDepth 100000 in
theorem wX10_about_s80 (C : Cx p s m args meth c cX10_about 3 wsL_law RX10 (some .int) D G ad) (n : Nat)   (v1 : Int32)   (st : St) (res : (Int32 × St))  (hf : fX10_about_s80 n   v1 st = some res) : At p l e (rmK 1) s m args below meth c D G ad (MQI D G ad below args s res) 3 st [(0, .ref (ad 0)), (1, .int v1)] 80 [] := by
  obtain ⟨hx, hb, hml, hown, hts, hr, hlk, hK, had, hSt⟩ := id C
  intro H locs ls hl hP hS
  unfold fX10_about_s80 at hf
  refine lv_aload_n hx hb dX10_about_80 rfl (lv_at hl 0 rfl) ?_
  refine g_getR hx hb hts inlX10 hown hK hP 0 ct_0 rfl 0 (by decide) (hts _ wm_1_16) rfl dX10_about_81 ?_
  refine g_getR hx hb hts inlX6 hown hK hP 1 ct_1 rfl 0 (by decide) (hts _ wm_12_21) rfl dX10_about_84 ?_
  refine lv_iload_n hx hb dX10_about_87 rfl (lv_at hl 1 rfl) ?_
  obtain ⟨g1, hf⟩ := gd hf
  refine g_iald hx hb hK hP 2 ct_2 g1 dX10_about_88 ?_
  exact g_iret hx hb hr hlk hP hS dX10_about_89 hf
def fX10_about_s90 (n : Nat)   (v1 : Int32) (st : St) : Option (Int32 × St) := if inb v1 8 = true then (some (st.1 3 v1.toNatClampNeg, st)) else none
set_option maxHeartbeats 4000000 in
set_option maxRecDepth 100000 in
theorem wX10_about_s90 (C : Cx p s m args meth c cX10_about 3 wsL_law RX10 (some .int) D G ad) (n : Nat)   (v1 : Int32)   (st : St) (res : (Int32 × St))  (hf : fX10_about_s90 n   v1 st = some res) : At p l e (rmK 1) s m args below meth c D G ad (MQI D G ad below args s res) 3 st [(0, .ref (ad 0)), (1, .int v1)] 90 [] := by
  obtain ⟨hx, hb, hml, hown, hts, hr, hlk, hK, had, hSt⟩ := id C
  intro H locs ls hl hP hS
  unfold fX10_about_s90 at hf
  refine lv_aload_n hx hb dX10_about_90 rfl (lv_at hl 0 rfl) ?_
  refine g_getR hx hb hts inlX10 hown hK hP 0 ct_0 rfl 0 (by decide) (hts _ wm_1_16) rfl dX10_about_91 ?_
  refine g_getR hx hb hts inlX6 hown hK hP 1 ct_1 rfl 1 (by decide) (hts _ wm_12_22) rfl dX10_about_94 ?_
  refine lv_iload_n hx hb dX10_about_97 rfl (lv_at hl 1 rfl) ?_
  obtain ⟨g1, hf⟩ := gd hf
  refine g_iald hx hb hK hP 3 ct_3 g1 dX10_about_98 ?_
  exact g_iret hx hb hr hlk hP hS dX10_about_99 hf
def fX10_about_s100 (n : Nat)   (v1 : Int32) (st : St) : Option (Int32 × St) := if inb v1 8 = true then (some (st.1 4 v1.toNatClampNeg, st)) else none
set_option maxHeartbeats 4000000 in
set_option maxRecDepth 100000 in
theorem wX10_about_s100 (C : Cx p s m args meth c cX10_about 3 wsL_law RX10 (some .int) D G ad) (n : Nat)   (v1 : Int32)   (st : St) (res : (Int32 × St))  (hf : fX10_about_s100 n   v1 st = some res) : At p l e (rmK 1) s m args below meth c D G ad (MQI D G ad below args s res) 3 st [(0, .ref (ad 0)), (1, .int v1)] 100 [] := by
  obtain ⟨hx, hb, hml, hown, hts, hr, hlk, hK, had, hSt⟩ := id C
  intro H locs ls hl hP hS
  unfold fX10_about_s100 at hf
  refine lv_aload_n hx hb dX10_about_100 rfl (lv_at hl 0 rfl) ?_
  refine g_getR hx hb hts inlX10 hown hK hP 0 ct_0 rfl 0 (by decide) (hts _ wm_1_16) rfl dX10_about_101 ?_
  refine g_getR hx hb hts inlX6 hown hK hP 1 ct_1 rfl 2 (by decide) (hts _ wm_12_23) rfl dX10_about_104 ?_
  refine lv_iload_n hx hb dX10_about_107 rfl (lv_at hl 1 rfl) ?_
  obtain ⟨g1, hf⟩ := gd hf
  refine g_iald hx hb hK hP 4 ct_4 g1 dX10_about_108 ?_
  exact g_iret hx hb hr hlk hP hS dX10_about_109 hf
def fX10_about_s110 (n : Nat)   (v1 : Int32) (st : St) : Option (Int32 × St) := if inb v1 8 = true then (some (st.1 5 v1.toNatClampNeg, st)) else none
set_option maxHeartbeats 4000000 in
set_option maxRecDepth 100000 in
theorem wX10_about_s110 (C : Cx p s m args meth c cX10_about 3 wsL_law RX10 (some .int) D G ad) (n : Nat)   (v1 : Int32)   (st : St) (res : (Int32 × St))  (hf : fX10_about_s110 n   v1 st = some res) : At p l e (rmK 1) s m args below meth c D G ad (MQI D G ad below args s res) 3 st [(0, .ref (ad 0)), (1, .int v1)] 110 [] := by
  obtain ⟨hx, hb, hml, hown, hts, hr, hlk, hK, had, hSt⟩ := id C
  intro H locs ls hl hP hS
  unfold fX10_about_s110 at hf
  refine lv_aload_n hx hb dX10_about_110 rfl (lv_at hl 0 rfl) ?_
  refine g_getR hx hb hts inlX10 hown hK hP 0 ct_0 rfl 0 (by decide) (hts _ wm_1_16) rfl dX10_about_111 ?_
  refine g_getR hx hb hts inlX6 hown hK hP 1 ct_1 rfl 3 (by decide) (hts _ wm_13_0) rfl dX10_about_114 ?_
  refine lv_iload_n hx hb dX10_about_117 rfl (lv_at hl 1 rfl) ?_
  obtain ⟨g1, hf⟩ := gd hf
  refine g_iald hx hb hK hP 5 ct_5 g1 dX10_about_118 ?_
  exact g_iret hx hb hr hlk hP hS dX10_about_119 hf
def fX10_about_s120 (n : Nat)   (v1 : Int32) (st : St) : Option (Int32 × St) := if inb v1 8 = true then (some (st.1 6 v1.toNatClampNeg, st)) else none
set_option maxHeartbeats 4000000 in
set_option maxRecDepth 100000 in
theorem wX10_about_s120 (C : Cx p s m args meth c cX10_about 3 wsL_law RX10 (some .int) D G ad) (n : Nat)   (v1 : Int32)   (st : St) (res : (Int32 × St))  (hf : fX10_about_s120 n   v1 st = some res) : At p l e (rmK 1) s m args below meth c D G ad (MQI D G ad below args s res) 3 st [(0, .ref (ad 0)), (1, .int v1)] 120 [] := by
  obtain ⟨hx, hb, hml, hown, hts, hr, hlk, hK, had, hSt⟩ := id C
  intro H locs ls hl hP hS
  unfold fX10_about_s120 at hf
  refine lv_aload_n hx hb dX10_about_120 rfl (lv_at hl 0 rfl) ?_
  refine g_getR hx hb hts inlX10 hown hK hP 0 ct_0 rfl 0 (by decide) (hts _ wm_1_16) rfl dX10_about_121 ?_
  refine g_getR hx hb hts inlX6 hown hK hP 1 ct_1 rfl 4 (by decide) (hts _ wm_13_1) rfl dX10_about_124 ?_
  refine lv_iload_n hx hb dX10_about_127 rfl (lv_at hl 1 rfl) ?_
  obtain ⟨g1, hf⟩ := gd hf
  refine g_iald hx hb hK hP 6 ct_6 g1 dX10_about_128 ?_
  exact g_iret hx hb hr hlk hP hS dX10_about_129 hf
def fX10_about_s130 (n : Nat)   (v1 : Int32) (st : St) : Option (Int32 × St) := if inb v1 8 = true then (some (st.1 7 v1.toNatClampNeg, st)) else none
set_option maxHeartbeats 4000000 in
set_option maxRecDepth 100000 in
theorem wX10_about_s130 (C : Cx p s m args meth c cX10_about 3 wsL_law RX10 (some .int) D G ad) (n : Nat)   (v1 : Int32)   (st : St) (res : (Int32 × St))  (hf : fX10_about_s130 n   v1 st = some res) : At p l e (rmK 1) s m args below meth c D G ad (MQI D G ad below args s res) 3 st [(0, .ref (ad 0)), (1, .int v1)] 130 [] := by
  obtain ⟨hx, hb, hml, hown, hts, hr, hlk, hK, had, hSt⟩ := id C
  intro H locs ls hl hP hS
  unfold fX10_about_s130 at hf
  refine lv_aload_n hx hb dX10_about_130 rfl (lv_at hl 0 rfl) ?_
  refine g_getR hx hb hts inlX10 hown hK hP 0 ct_0 rfl 0 (by decide) (hts _ wm_1_16) rfl dX10_about_131 ?_
  refine g_getR hx hb hts inlX6 hown hK hP 1 ct_1 rfl 5 (by decide) (hts _ wm_13_2) rfl dX10_about_134 ?_
  refine lv_iload_n hx hb dX10_about_137 rfl (lv_at hl 1 rfl) ?_
  obtain ⟨g1, hf⟩ := gd hf
  refine g_iald hx hb hK hP 7 ct_7 g1 dX10_about_138 ?_
  exact g_iret hx hb hr hlk hP hS dX10_about_139 hf
def fX10_about_s140 (n : Nat)   (v1 : Int32) (st : St) : Option (Int32 × St) := if inb v1 8 = true then (some (st.1 54 v1.toNatClampNeg, st)) else none
set_option maxHeartbeats 4000000 in
set_option maxRecDepth 100000 in
theorem wX10_about_s140 (C : Cx p s m args meth c cX10_about 3 wsL_law RX10 (some .int) D G ad) (n : Nat)   (v1 : Int32)   (st : St) (res : (Int32 × St))  (hf : fX10_about_s140 n   v1 st = some res) : At p l e (rmK 1) s m args below meth c D G ad (MQI D G ad below args s res) 3 st [(0, .ref (ad 0)), (1, .int v1)] 140 [] := by
  obtain ⟨hx, hb, hml, hown, hts, hr, hlk, hK, had, hSt⟩ := id C
  intro H locs ls hl hP hS
  unfold fX10_about_s140 at hf
  refine lv_aload_n hx hb dX10_about_140 rfl (lv_at hl 0 rfl) ?_
  refine g_getR hx hb hts inlX10 hown hK hP 0 ct_0 rfl 11 (by decide) (hts _ wm_3_7) rfl dX10_about_141 ?_
  refine g_getR hx hb hts inlX1 hown hK hP 53 ct_53 rfl 0 (by decide) (hts _ wm_9_11) rfl dX10_about_144 ?_
  refine lv_iload_n hx hb dX10_about_147 rfl (lv_at hl 1 rfl) ?_
  obtain ⟨g1, hf⟩ := gd hf
  refine g_iald hx hb hK hP 54 ct_54 g1 dX10_about_148 ?_
  exact g_iret hx hb hr hlk hP hS dX10_about_149 hf
def fX10_about_s150 (n : Nat)   (v1 : Int32) (st : St) : Option (Int32 × St) := if inb v1 8 = true then (some (st.1 57 v1.toNatClampNeg, st)) else none
set_option maxHeartbeats 4000000 in
set_option maxRecDepth 100000 in
theorem wX10_about_s150 (C : Cx p s m args meth c cX10_about 3 wsL_law RX10 (some .int) D G ad) (n : Nat)   (v1 : Int32)   (st : St) (res : (Int32 × St))  (hf : fX10_about_s150 n   v1 st = some res) : At p l e (rmK 1) s m args below meth c D G ad (MQI D G ad below args s res) 3 st [(0, .ref (ad 0)), (1, .int v1)] 150 [] := by
  obtain ⟨hx, hb, hml, hown, hts, hr, hlk, hK, had, hSt⟩ := id C
  intro H locs ls hl hP hS
  unfold fX10_about_s150 at hf
  refine lv_aload_n hx hb dX10_about_150 rfl (lv_at hl 0 rfl) ?_
  refine g_getR hx hb hts inlX10 hown hK hP 0 ct_0 rfl 11 (by decide) (hts _ wm_3_7) rfl dX10_about_151 ?_
  refine g_getR hx hb hts inlX1 hown hK hP 53 ct_53 rfl 3 (by decide) (hts _ wm_13_3) rfl dX10_about_154 ?_
  refine lv_iload_n hx hb dX10_about_157 rfl (lv_at hl 1 rfl) ?_
  obtain ⟨g1, hf⟩ := gd hf
  refine g_iald hx hb hK hP 57 ct_57 g1 dX10_about_158 ?_
  exact g_iret hx hb hr hlk hP hS dX10_about_159 hf
def fX10_about_s160 (n : Nat)   (v1 : Int32) (st : St) : Option (Int32 × St) := if inb v1 8 = true then (some (st.1 56 v1.toNatClampNeg, st)) else none
set_option maxHeartbeats 4000000 in
set_option maxRecDepth 100000 in
theorem wX10_about_s160 (C : Cx p s m args meth c cX10_about 3 wsL_law RX10 (some .int) D G ad) (n : Nat)   (v1 : Int32)   (st : St) (res : (Int32 × St))  (hf : fX10_about_s160 n   v1 st = some res) : At p l e (rmK 1) s m args below meth c D G ad (MQI D G ad below args s res) 3 st [(0, .ref (ad 0)), (1, .int v1)] 160 [] := by
  obtain ⟨hx, hb, hml, hown, hts, hr, hlk, hK, had, hSt⟩ := id C
  intro H locs ls hl hP hS
  unfold fX10_about_s160 at hf
  refine lv_aload_n hx hb dX10_about_160 rfl (lv_at hl 0 rfl) ?_
  refine g_getR hx hb hts inlX10 hown hK hP 0 ct_0 rfl 11 (by decide) (hts _ wm_3_7) rfl dX10_about_161 ?_
  refine g_getR hx hb hts inlX1 hown hK hP 53 ct_53 rfl 2 (by decide) (hts _ wm_13_4) rfl dX10_about_164 ?_
  refine lv_iload_n hx hb dX10_about_167 rfl (lv_at hl 1 rfl) ?_
  obtain ⟨g1, hf⟩ := gd hf
  refine g_iald hx hb hK hP 56 ct_56 g1 dX10_about_168 ?_
  exact g_iret hx hb hr hlk hP hS dX10_about_169 hf
def fX10_about_s185 (n : Nat)   (k0 : Int32) (st : St) : Option (Int32 × St) := some (k0, st)
set_option maxHeartbeats 4000000 in
set_option maxRecDepth 100000 in
theorem wX10_about_s185 (C : Cx p s m args meth c cX10_about 3 wsL_law RX10 (some .int) D G ad) (n : Nat)   (k0 : Int32)   (st : St) (res : (Int32 × St))  (hf : fX10_about_s185 n   k0 st = some res) : At p l e (rmK 1) s m args below meth c D G ad (MQI D G ad below args s res) 3 st [] 185 [.int k0] := by
  obtain ⟨hx, hb, hml, hown, hts, hr, hlk, hK, had, hSt⟩ := id C
  intro H locs ls hl hP hS
  unfold fX10_about_s185 at hf
  exact g_iret hx hb hr hlk hP hS dX10_about_185 hf
def fX10_about_s170 (n : Nat)   (v1 : Int32) (st : St) : Option (Int32 × St) := (fX1_latest n 53 61 v1 st).bind (fun q => fX10_about_s185 n q.1 q.2)
set_option maxHeartbeats 4000000 in
set_option maxRecDepth 100000 in
theorem wX10_about_s170 (C : Cx p s m args meth c cX10_about 3 wsL_law RX10 (some .int) D G ad) (n : Nat)   (v1 : Int32)   (st : St) (res : (Int32 × St))  (hf : fX10_about_s170 n   v1 st = some res) : At p l e (rmK 1) s m args below meth c D G ad (MQI D G ad below args s res) 3 st [(0, .ref (ad 0)), (1, .int v1)] 170 [] := by
  obtain ⟨hx, hb, hml, hown, hts, hr, hlk, hK, had, hSt⟩ := id C
  intro H locs ls hl hP hS
  unfold fX10_about_s170 at hf
  refine lv_aload_n hx hb dX10_about_170 rfl (lv_at hl 0 rfl) ?_
  refine g_getR hx hb hts inlX10 hown hK hP 0 ct_0 rfl 11 (by decide) (hts _ wm_3_7) rfl dX10_about_171 ?_
  refine lv_aload_n hx hb dX10_about_174 rfl (lv_at hl 0 rfl) ?_
  refine g_getR hx hb hts inlX10 hown hK hP 0 ct_0 rfl 11 (by decide) (hts _ wm_3_7) rfl dX10_about_175 ?_
  refine g_getR hx hb hts inlX1 hown hK hP 53 ct_53 rfl 7 (by decide) (hts _ wm_13_5) rfl dX10_about_178 ?_
  refine lv_iload_n hx hb dX10_about_181 rfl (lv_at hl 1 rfl) ?_
  obtain ⟨q, hq, hf⟩ := bd hf
  refine gcV_i (k := 0) (o := 53) (As := [.ref (ad 61), .int v1]) (rest := []) hx hb hml hown hts hK hSt hP hS hl.1 (goodV wm_13_8 wm_13_9 wm_13_10 wm_3_6 wm_13_11) okX1_latest ct_53 rfl rfl (Nat.le_of_ble_eq_true rfl) (Nat.le_of_ble_eq_true rfl) rfl rfl (Nat.le_of_ble_eq_true rfl) dX10_about_182 (kX1_latest l D G ad had n 53 61 isFl_lit_53 ct_61 v1 st q hq) (fun H locs hP hS => ?_)
  exact wX10_about_s185 C n q.1 q.2 res hf H locs ls (lv_sub hl [] rfl) hP hS
def fX10_about_s201 (n : Nat)   (k0 : Int32) (st : St) : Option (Int32 × St) := some (k0, st)
set_option maxHeartbeats 4000000 in
set_option maxRecDepth 100000 in
theorem wX10_about_s201 (C : Cx p s m args meth c cX10_about 3 wsL_law RX10 (some .int) D G ad) (n : Nat)   (k0 : Int32)   (st : St) (res : (Int32 × St))  (hf : fX10_about_s201 n   k0 st = some res) : At p l e (rmK 1) s m args below meth c D G ad (MQI D G ad below args s res) 3 st [] 201 [.int k0] := by
  obtain ⟨hx, hb, hml, hown, hts, hr, hlk, hK, had, hSt⟩ := id C
  intro H locs ls hl hP hS
  unfold fX10_about_s201 at hf
  exact g_iret hx hb hr hlk hP hS dX10_about_201 hf
def fX10_about_s186 (n : Nat)   (v1 : Int32) (st : St) : Option (Int32 × St) := (fX1_latest n 53 62 v1 st).bind (fun q => fX10_about_s201 n q.1 q.2)
set_option maxHeartbeats 4000000 in
set_option maxRecDepth 100000 in
theorem wX10_about_s186 (C : Cx p s m args meth c cX10_about 3 wsL_law RX10 (some .int) D G ad) (n : Nat)   (v1 : Int32)   (st : St) (res : (Int32 × St))  (hf : fX10_about_s186 n   v1 st = some res) : At p l e (rmK 1) s m args below meth c D G ad (MQI D G ad below args s res) 3 st [(0, .ref (ad 0)), (1, .int v1)] 186 [] := by
  obtain ⟨hx, hb, hml, hown, hts, hr, hlk, hK, had, hSt⟩ := id C
  intro H locs ls hl hP hS
  unfold fX10_about_s186 at hf
  refine lv_aload_n hx hb dX10_about_186 rfl (lv_at hl 0 rfl) ?_
  refine g_getR hx hb hts inlX10 hown hK hP 0 ct_0 rfl 11 (by decide) (hts _ wm_3_7) rfl dX10_about_187 ?_
  refine lv_aload_n hx hb dX10_about_190 rfl (lv_at hl 0 rfl) ?_
  refine g_getR hx hb hts inlX10 hown hK hP 0 ct_0 rfl 11 (by decide) (hts _ wm_3_7) rfl dX10_about_191 ?_
  refine g_getR hx hb hts inlX1 hown hK hP 53 ct_53 rfl 8 (by decide) (hts _ wm_13_6) rfl dX10_about_194 ?_
  refine lv_iload_n hx hb dX10_about_197 rfl (lv_at hl 1 rfl) ?_
  obtain ⟨q, hq, hf⟩ := bd hf
  refine gcV_i (k := 0) (o := 53) (As := [.ref (ad 62), .int v1]) (rest := []) hx hb hml hown hts hK hSt hP hS hl.1 (goodV wm_13_8 wm_13_9 wm_13_10 wm_3_6 wm_13_11) okX1_latest ct_53 rfl rfl (Nat.le_of_ble_eq_true rfl) (Nat.le_of_ble_eq_true rfl) rfl rfl (Nat.le_of_ble_eq_true rfl) dX10_about_198 (kX1_latest l D G ad had n 53 62 isFl_lit_53 ct_62 v1 st q hq) (fun H locs hP hS => ?_)
  exact wX10_about_s201 C n q.1 q.2 res hf H locs ls (lv_sub hl [] rfl) hP hS
def fX10_about_s202 (n : Nat)   (v1 : Int32) (st : St) : Option (Int32 × St) := if inb v1 8 = true then (some (st.1 10 v1.toNatClampNeg, st)) else none
set_option maxHeartbeats 4000000 in
set_option maxRecDepth 100000 in
theorem wX10_about_s202 (C : Cx p s m args meth c cX10_about 3 wsL_law RX10 (some .int) D G ad) (n : Nat)   (v1 : Int32)   (st : St) (res : (Int32 × St))  (hf : fX10_about_s202 n   v1 st = some res) : At p l e (rmK 1) s m args below meth c D G ad (MQI D G ad below args s res) 3 st [(0, .ref (ad 0)), (1, .int v1)] 202 [] := by
  obtain ⟨hx, hb, hml, hown, hts, hr, hlk, hK, had, hSt⟩ := id C
  intro H locs ls hl hP hS
  unfold fX10_about_s202 at hf
  refine lv_aload_n hx hb dX10_about_202 rfl (lv_at hl 0 rfl) ?_
  refine g_getR hx hb hts inlX10 hown hK hP 0 ct_0 rfl 0 (by decide) (hts _ wm_1_16) rfl dX10_about_203 ?_
  refine g_getR hx hb hts inlX6 hown hK hP 1 ct_1 rfl 8 (by decide) (hts _ wm_11_18) rfl dX10_about_206 ?_
  refine lv_iload_n hx hb dX10_about_209 rfl (lv_at hl 1 rfl) ?_
  obtain ⟨g1, hf⟩ := gd hf
  refine g_iald hx hb hK hP 10 ct_10 g1 dX10_about_210 ?_
  exact g_iret hx hb hr hlk hP hS dX10_about_211 hf
def fX10_about_s212 (n : Nat)   (v1 : Int32) (st : St) : Option (Int32 × St) := if inb v1 8 = true then (some (st.1 60 v1.toNatClampNeg, st)) else none
set_option maxHeartbeats 4000000 in
set_option maxRecDepth 100000 in
theorem wX10_about_s212 (C : Cx p s m args meth c cX10_about 3 wsL_law RX10 (some .int) D G ad) (n : Nat)   (v1 : Int32)   (st : St) (res : (Int32 × St))  (hf : fX10_about_s212 n   v1 st = some res) : At p l e (rmK 1) s m args below meth c D G ad (MQI D G ad below args s res) 3 st [(0, .ref (ad 0)), (1, .int v1)] 212 [] := by
  obtain ⟨hx, hb, hml, hown, hts, hr, hlk, hK, had, hSt⟩ := id C
  intro H locs ls hl hP hS
  unfold fX10_about_s212 at hf
  refine lv_aload_n hx hb dX10_about_212 rfl (lv_at hl 0 rfl) ?_
  refine g_getR hx hb hts inlX10 hown hK hP 0 ct_0 rfl 11 (by decide) (hts _ wm_3_7) rfl dX10_about_213 ?_
  refine g_getR hx hb hts inlX1 hown hK hP 53 ct_53 rfl 6 (by decide) (hts _ wm_13_7) rfl dX10_about_216 ?_
  refine lv_iload_n hx hb dX10_about_219 rfl (lv_at hl 1 rfl) ?_
  obtain ⟨g1, hf⟩ := gd hf
  refine g_iald hx hb hK hP 60 ct_60 g1 dX10_about_220 ?_
  exact g_iret hx hb hr hlk hP hS dX10_about_221 hf
def fX10_about_s222 (n : Nat)    (st : St) : Option (Int32 × St) := some ((-1), st)
set_option maxHeartbeats 4000000 in
set_option maxRecDepth 100000 in
theorem wX10_about_s222 (C : Cx p s m args meth c cX10_about 3 wsL_law RX10 (some .int) D G ad) (n : Nat)      (st : St) (res : (Int32 × St))  (hf : fX10_about_s222 n    st = some res) : At p l e (rmK 1) s m args below meth c D G ad (MQI D G ad below args s res) 3 st [] 222 [] := by
  obtain ⟨hx, hb, hml, hown, hts, hr, hlk, hK, had, hSt⟩ := id C
  intro H locs ls hl hP hS
  unfold fX10_about_s222 at hf
  refine lv_iconst (v := (-1)) hx hb dX10_about_222 (by decide) ?_
  exact g_iret hx hb hr hlk hP hS dX10_about_223 hf
def fX10_about_s13 (n : Nat)   (v1 : Int32) (v2 : Int32) (st : St) : Option (Int32 × St) := if v2 = 0 then fX10_about_s80 n v1 st else if v2 = 1 then fX10_about_s90 n v1 st else if v2 = 2 then fX10_about_s100 n v1 st else if v2 = 3 then fX10_about_s110 n v1 st else if v2 = 4 then fX10_about_s120 n v1 st else if v2 = 5 then fX10_about_s130 n v1 st else if v2 = 6 then fX10_about_s140 n v1 st else if v2 = 7 then fX10_about_s150 n v1 st else if v2 = 8 then fX10_about_s160 n v1 st else if v2 = 9 then fX10_about_s170 n v1 st else if v2 = 10 then fX10_about_s186 n v1 st else if v2 = 11 then fX10_about_s202 n v1 st else if v2 = 12 then fX10_about_s212 n v1 st else fX10_about_s222 n st
set_option maxHeartbeats 4000000 in
set_option maxRecDepth 100000 in
theorem wX10_about_s13 (C : Cx p s m args meth c cX10_about 3 wsL_law RX10 (some .int) D G ad) (n : Nat)   (v1 : Int32) (v2 : Int32)   (st : St) (res : (Int32 × St))  (hf : fX10_about_s13 n   v1 v2 st = some res) : At p l e (rmK 1) s m args below meth c D G ad (MQI D G ad below args s res) 3 st [(0, .ref (ad 0)), (1, .int v1), (2, .int v2)] 13 [] := by
  obtain ⟨hx, hb, hml, hown, hts, hr, hlk, hK, had, hSt⟩ := id C
  intro H locs ls hl hP hS
  unfold fX10_about_s13 at hf
  refine lv_iload_n hx hb dX10_about_13 rfl (lv_at hl 2 rfl) ?_
  by_cases q : v2 = 0
  · rw [q]
    refine lv_tableIn (tgt := 80) hx hb dX10_about_14 (by decide) (by decide) rfl (by decide) ?_
    exact wX10_about_s80 C n v1 st res (it hf q) H locs ls (lv_sub hl [0, 1] rfl) hP hS
  replace hf := ie hf q
  have q0 := q
  clear q
  by_cases q : v2 = 1
  · rw [q]
    refine lv_tableIn (tgt := 90) hx hb dX10_about_14 (by decide) (by decide) rfl (by decide) ?_
    exact wX10_about_s90 C n v1 st res (it hf q) H locs ls (lv_sub hl [0, 1] rfl) hP hS
  replace hf := ie hf q
  have q1 := q
  clear q
  by_cases q : v2 = 2
  · rw [q]
    refine lv_tableIn (tgt := 100) hx hb dX10_about_14 (by decide) (by decide) rfl (by decide) ?_
    exact wX10_about_s100 C n v1 st res (it hf q) H locs ls (lv_sub hl [0, 1] rfl) hP hS
  replace hf := ie hf q
  have q2 := q
  clear q
  by_cases q : v2 = 3
  · rw [q]
    refine lv_tableIn (tgt := 110) hx hb dX10_about_14 (by decide) (by decide) rfl (by decide) ?_
    exact wX10_about_s110 C n v1 st res (it hf q) H locs ls (lv_sub hl [0, 1] rfl) hP hS
  replace hf := ie hf q
  have q3 := q
  clear q
  by_cases q : v2 = 4
  · rw [q]
    refine lv_tableIn (tgt := 120) hx hb dX10_about_14 (by decide) (by decide) rfl (by decide) ?_
    exact wX10_about_s120 C n v1 st res (it hf q) H locs ls (lv_sub hl [0, 1] rfl) hP hS
  replace hf := ie hf q
  have q4 := q
  clear q
  by_cases q : v2 = 5
  · rw [q]
    refine lv_tableIn (tgt := 130) hx hb dX10_about_14 (by decide) (by decide) rfl (by decide) ?_
    exact wX10_about_s130 C n v1 st res (it hf q) H locs ls (lv_sub hl [0, 1] rfl) hP hS
  replace hf := ie hf q
  have q5 := q
  clear q
  by_cases q : v2 = 6
  · rw [q]
    refine lv_tableIn (tgt := 140) hx hb dX10_about_14 (by decide) (by decide) rfl (by decide) ?_
    exact wX10_about_s140 C n v1 st res (it hf q) H locs ls (lv_sub hl [0, 1] rfl) hP hS
  replace hf := ie hf q
  have q6 := q
  clear q
  by_cases q : v2 = 7
  · rw [q]
    refine lv_tableIn (tgt := 150) hx hb dX10_about_14 (by decide) (by decide) rfl (by decide) ?_
    exact wX10_about_s150 C n v1 st res (it hf q) H locs ls (lv_sub hl [0, 1] rfl) hP hS
  replace hf := ie hf q
  have q7 := q
  clear q
  by_cases q : v2 = 8
  · rw [q]
    refine lv_tableIn (tgt := 160) hx hb dX10_about_14 (by decide) (by decide) rfl (by decide) ?_
    exact wX10_about_s160 C n v1 st res (it hf q) H locs ls (lv_sub hl [0, 1] rfl) hP hS
  replace hf := ie hf q
  have q8 := q
  clear q
  by_cases q : v2 = 9
  · rw [q]
    refine lv_tableIn (tgt := 170) hx hb dX10_about_14 (by decide) (by decide) rfl (by decide) ?_
    exact wX10_about_s170 C n v1 st res (it hf q) H locs ls (lv_sub hl [0, 1] rfl) hP hS
  replace hf := ie hf q
  have q9 := q
  clear q
  by_cases q : v2 = 10
  · rw [q]
    refine lv_tableIn (tgt := 186) hx hb dX10_about_14 (by decide) (by decide) rfl (by decide) ?_
    exact wX10_about_s186 C n v1 st res (it hf q) H locs ls (lv_sub hl [0, 1] rfl) hP hS
  replace hf := ie hf q
  have q10 := q
  clear q
  by_cases q : v2 = 11
  · rw [q]
    refine lv_tableIn (tgt := 202) hx hb dX10_about_14 (by decide) (by decide) rfl (by decide) ?_
    exact wX10_about_s202 C n v1 st res (it hf q) H locs ls (lv_sub hl [0, 1] rfl) hP hS
  replace hf := ie hf q
  have q11 := q
  clear q
  by_cases q : v2 = 12
  · rw [q]
    refine lv_tableIn (tgt := 212) hx hb dX10_about_14 (by decide) (by decide) rfl (by decide) ?_
    exact wX10_about_s212 C n v1 st res (it hf q) H locs ls (lv_sub hl [0, 1] rfl) hP hS
  replace hf := ie hf q
  have q12 := q
  clear q
  have qo : v2.toInt < 0 ∨ 12 < v2.toInt := by
    refine Classical.byContradiction (fun w => ?_)
    have w : v2.toInt = 0 ∨ v2.toInt = 1 ∨ v2.toInt = 2 ∨ v2.toInt = 3 ∨ v2.toInt = 4 ∨ v2.toInt = 5 ∨ v2.toInt = 6 ∨ v2.toInt = 7 ∨ v2.toInt = 8 ∨ v2.toInt = 9 ∨ v2.toInt = 10 ∨ v2.toInt = 11 ∨ v2.toInt = 12 := by omega
    rcases w with w | w | w | w | w | w | w | w | w | w | w | w | w
    · exact q0 (Int32.toInt_inj.mp (w.trans (by decide)))
    · exact q1 (Int32.toInt_inj.mp (w.trans (by decide)))
    · exact q2 (Int32.toInt_inj.mp (w.trans (by decide)))
    · exact q3 (Int32.toInt_inj.mp (w.trans (by decide)))
    · exact q4 (Int32.toInt_inj.mp (w.trans (by decide)))
    · exact q5 (Int32.toInt_inj.mp (w.trans (by decide)))
    · exact q6 (Int32.toInt_inj.mp (w.trans (by decide)))
    · exact q7 (Int32.toInt_inj.mp (w.trans (by decide)))
    · exact q8 (Int32.toInt_inj.mp (w.trans (by decide)))
    · exact q9 (Int32.toInt_inj.mp (w.trans (by decide)))
    · exact q10 (Int32.toInt_inj.mp (w.trans (by decide)))
    · exact q11 (Int32.toInt_inj.mp (w.trans (by decide)))
    · exact q12 (Int32.toInt_inj.mp (w.trans (by decide)))
  refine lv_tableOut (tgt := 222) hx hb dX10_about_14 qo (by decide) ?_
  exact wX10_about_s222 C n st res hf H locs ls (lv_sub hl [] rfl) hP hS
def fX10_about_s11 (n : Nat)    (st : St) : Option (Int32 × St) := some ((-1), st)
set_option maxHeartbeats 4000000 in
set_option maxRecDepth 100000 in
theorem wX10_about_s11 (C : Cx p s m args meth c cX10_about 3 wsL_law RX10 (some .int) D G ad) (n : Nat)      (st : St) (res : (Int32 × St))  (hf : fX10_about_s11 n    st = some res) : At p l e (rmK 1) s m args below meth c D G ad (MQI D G ad below args s res) 3 st [] 11 [] := by
  obtain ⟨hx, hb, hml, hown, hts, hr, hlk, hK, had, hSt⟩ := id C
  intro H locs ls hl hP hS
  unfold fX10_about_s11 at hf
  refine lv_iconst (v := (-1)) hx hb dX10_about_11 (by decide) ?_
  exact g_iret hx hb hr hlk hP hS dX10_about_12 hf
def fX10_about_s8 (n : Nat)   (v1 : Int32) (v2 : Int32) (k0 : Int32) (st : St) : Option (Int32 × St) := if k0 = 0 then fX10_about_s11 n st else fX10_about_s13 n v1 v2 st
set_option maxHeartbeats 4000000 in
set_option maxRecDepth 100000 in
theorem wX10_about_s8 (C : Cx p s m args meth c cX10_about 3 wsL_law RX10 (some .int) D G ad) (n : Nat)   (v1 : Int32) (v2 : Int32) (k0 : Int32)   (st : St) (res : (Int32 × St))  (hf : fX10_about_s8 n   v1 v2 k0 st = some res) : At p l e (rmK 1) s m args below meth c D G ad (MQI D G ad below args s res) 3 st [(0, .ref (ad 0)), (1, .int v1), (2, .int v2)] 8 [.int k0] := by
  obtain ⟨hx, hb, hml, hown, hts, hr, hlk, hK, had, hSt⟩ := id C
  intro H locs ls hl hP hS
  unfold fX10_about_s8 at hf
  refine lv_if_ne (tgt := 13) hx hb dX10_about_8 (by decide) (fun q => ?_) (fun q => ?_)
  · exact wX10_about_s13 C n v1 v2 st res (ie hf q) H locs ls (lv_sub hl [0, 1, 2] rfl) hP hS
  · exact wX10_about_s11 C n st res (it hf q) H locs ls (lv_sub hl [] rfl) hP hS
def fX10_about_s0 (n : Nat)   (v1 : Int32) (v2 : Int32) (st : St) : Option (Int32 × St) := (fX6_has n v1 st).bind (fun q => fX10_about_s8 n v1 v2 q.1 q.2)
set_option maxHeartbeats 4000000 in
set_option maxRecDepth 100000 in
theorem wX10_about_s0 (C : Cx p s m args meth c cX10_about 3 wsL_law RX10 (some .int) D G ad) (n : Nat)   (v1 : Int32) (v2 : Int32)   (st : St) (res : (Int32 × St))  (hf : fX10_about_s0 n   v1 v2 st = some res) : At p l e (rmK 1) s m args below meth c D G ad (MQI D G ad below args s res) 3 st [(0, .ref (ad 0)), (1, .int v1), (2, .int v2)] 0 [] := by
  obtain ⟨hx, hb, hml, hown, hts, hr, hlk, hK, had, hSt⟩ := id C
  intro H locs ls hl hP hS
  unfold fX10_about_s0 at hf
  refine lv_aload_n hx hb dX10_about_0 rfl (lv_at hl 0 rfl) ?_
  refine g_getR hx hb hts inlX10 hown hK hP 0 ct_0 rfl 0 (by decide) (hts _ wm_1_16) rfl dX10_about_1 ?_
  refine lv_iload_n hx hb dX10_about_4 rfl (lv_at hl 1 rfl) ?_
  obtain ⟨q, hq, hf⟩ := bd hf
  refine gcV_i (k := 0) (o := 1) (As := [.int v1]) (rest := []) hx hb hml hown hts hK hSt hP hS hl.1 (goodV wm_9_12 wm_9_13 wm_9_14 wm_1_15 wm_9_15) okX6_has ct_1 rfl rfl (Nat.le_of_ble_eq_true rfl) (Nat.le_of_ble_eq_true rfl) rfl rfl (Nat.le_of_ble_eq_true rfl) dX10_about_5 (kX6_has l D G ad had n  v1 st q hq) (fun H locs hP hS => ?_)
  exact wX10_about_s8 C n v1 v2 q.1 q.2 res hf H locs ls (lv_sub hl [0, 1, 2] rfl) hP hS
def fX10_about (n : Nat)  (a1 : Int32) (a2 : Int32) (st : St) : Option (Int32 × St) := fX10_about_s0 n a1 a2 st
theorem okX10_about : okY yX10_about RX10 2 := by unfold okY; decide +kernel
end
set_option maxRecDepth 100000 in
theorem kX10_about (l : Launch) (D : va_G) (G : G3) (ad : Nat → Nat) (had : Adr ad) (n : Nat)   (a1 : Int32) (a2 : Int32) (st : St) (res : (Int32 × St)) (hf : fX10_about n  a1 a2 st = some res) {sz : Nat} : CtI l yX10_about (wsU yX10_about cX10_about 3 (some .int)) (rmK 1) D G ad sz [.ref (ad 0), .int a1, .int a2] st res := by
  refine Met.ofW (cc := cX10_about) (maxL := 3) (ret := (some .int)) (by decide) rfl ?_
  intro p e s m args below meth c s₁ B hml hv
  obtain ⟨rfl, hsz, hP, hK, hSt⟩ := hv
  have hts := atoms_spec (ws := wsU yX10_about cX10_about 3 (some .int)) B.pre
  have C : Cx p s m _ meth c cX10_about 3 wsL_law RX10 (some .int) D G ad := ⟨B.exec, B.bytes, hml, findClass_of_methodNamed B.named, fun w h => hts w (List.mem_cons_of_mem _ h), B.returns, B.notSynchronized, hK, had, hSt⟩
  subst hsz
  have hl := lv_entry ([.ref (ad 0), .int a1, .int a2]) (n := 3) (Nat.le_of_ble_eq_true rfl)
  rw [lg_entry_eq]
  generalize (lg_sl ([.ref (ad 0), .int a1, .int a2]) ++ List.replicate (3 - (lg_sl ([.ref (ad 0), .int a1, .int a2])).length) Slot.unset).toArray = ls at hl ⊢
  exact wX10_about_s0 C n  a1 a2   st res hf s.heap [] ls (lv_sub hl [0, 1, 2] rfl) hP va_S.rf
section
variable {p : Program} {l : Launch} {e : Env} {s : State} {m : MethodId} {args : Array Value} {below : List Frame} {meth : Method} {c : Code} {D : va_G} {G : G3} {ad : Nat → Nat}
def fX10_place_s25 (n : Nat)   (k0 : Int64) (st : St) : Option (Int64 × St) := some (k0, st)
set_option maxHeartbeats 4000000 in
set_option maxRecDepth 100000 in
theorem wX10_place_s25 (C : Cx p s m args meth c cX10_place 2 wsL_law RX10 (some .long) D G ad) (n : Nat)   (k0 : Int64)   (st : St) (res : (Int64 × St))  (hf : fX10_place_s25 n   k0 st = some res) : At p l e (rmK 1) s m args below meth c D G ad (MQJ D G ad below args s res) 2 st [] 25 [.long k0] := by
  obtain ⟨hx, hb, hml, hown, hts, hr, hlk, hK, had, hSt⟩ := id C
  intro H locs ls hl hP hS
  unfold fX10_place_s25 at hf
  exact g_lret hx hb hr hlk hP hS dX10_place_25 hf
def fX10_place_s22 (n : Nat)    (st : St) : Option (Int64 × St) := fX10_place_s25 n (-9223372036854775808) st
set_option maxHeartbeats 4000000 in
set_option maxRecDepth 100000 in
theorem wX10_place_s22 (C : Cx p s m args meth c cX10_place 2 wsL_law RX10 (some .long) D G ad) (n : Nat)      (st : St) (res : (Int64 × St))  (hf : fX10_place_s22 n    st = some res) : At p l e (rmK 1) s m args below meth c D G ad (MQJ D G ad below args s res) 2 st [] 22 [] := by
  obtain ⟨hx, hb, hml, hown, hts, hr, hlk, hK, had, hSt⟩ := id C
  intro H locs ls hl hP hS
  unfold fX10_place_s22 at hf
  refine lv_ldc2 hx hb hown (hts _ wm_14_6) dX10_place_22 ?_
  exact wX10_place_s25 C n (-9223372036854775808) st res hf H locs ls (lv_sub hl [] rfl) hP hS
def fX10_place_s19 (n : Nat)   (k0 : Int64) (st : St) : Option (Int64 × St) := fX10_place_s25 n k0 st
set_option maxHeartbeats 4000000 in
set_option maxRecDepth 100000 in
theorem wX10_place_s19 (C : Cx p s m args meth c cX10_place 2 wsL_law RX10 (some .long) D G ad) (n : Nat)   (k0 : Int64)   (st : St) (res : (Int64 × St))  (hf : fX10_place_s19 n   k0 st = some res) : At p l e (rmK 1) s m args below meth c D G ad (MQJ D G ad below args s res) 2 st [] 19 [.long k0] := by
  obtain ⟨hx, hb, hml, hown, hts, hr, hlk, hK, had, hSt⟩ := id C
  intro H locs ls hl hP hS
  unfold fX10_place_s19 at hf
  refine lv_goto (tgt := 25) hx hb dX10_place_19 (by decide) ?_
  exact wX10_place_s25 C n k0 st res hf H locs ls (lv_sub hl [] rfl) hP hS
def fX10_place_s11 (n : Nat)   (v1 : Int32) (st : St) : Option (Int64 × St) := (fX1_position n 53 v1 st).bind (fun q => fX10_place_s19 n q.1 q.2)
set_option maxHeartbeats 4000000 in
set_option maxRecDepth 100000 in
theorem wX10_place_s11 (C : Cx p s m args meth c cX10_place 2 wsL_law RX10 (some .long) D G ad) (n : Nat)   (v1 : Int32)   (st : St) (res : (Int64 × St))  (hf : fX10_place_s11 n   v1 st = some res) : At p l e (rmK 1) s m args below meth c D G ad (MQJ D G ad below args s res) 2 st [(0, .ref (ad 0)), (1, .int v1)] 11 [] := by
  obtain ⟨hx, hb, hml, hown, hts, hr, hlk, hK, had, hSt⟩ := id C
  intro H locs ls hl hP hS
  unfold fX10_place_s11 at hf
  refine lv_aload_n hx hb dX10_place_11 rfl (lv_at hl 0 rfl) ?_
  refine g_getR hx hb hts inlX10 hown hK hP 0 ct_0 rfl 11 (by decide) (hts _ wm_3_7) rfl dX10_place_12 ?_
  refine lv_iload_n hx hb dX10_place_15 rfl (lv_at hl 1 rfl) ?_
  obtain ⟨q, hq, hf⟩ := bd hf
  refine gcV_j (k := 0) (o := 53) (As := [.int v1]) (rest := []) hx hb hml hown hts hK hSt hP hS hl.1 (goodV wm_14_7 wm_14_8 wm_14_9 wm_3_6 wm_14_10) okX1_position ct_53 rfl rfl (Nat.le_of_ble_eq_true rfl) (Nat.le_of_ble_eq_true rfl) rfl rfl (Nat.le_of_ble_eq_true rfl) dX10_place_16 (kX1_position l D G ad had n 53 isFl_lit_53 v1 st q hq) (fun H locs hP hS => ?_)
  exact wX10_place_s19 C n q.1 q.2 res hf H locs ls (lv_sub hl [] rfl) hP hS
def fX10_place_s8 (n : Nat)   (v1 : Int32) (k0 : Int32) (st : St) : Option (Int64 × St) := if k0 = 0 then fX10_place_s22 n st else fX10_place_s11 n v1 st
set_option maxHeartbeats 4000000 in
set_option maxRecDepth 100000 in
theorem wX10_place_s8 (C : Cx p s m args meth c cX10_place 2 wsL_law RX10 (some .long) D G ad) (n : Nat)   (v1 : Int32) (k0 : Int32)   (st : St) (res : (Int64 × St))  (hf : fX10_place_s8 n   v1 k0 st = some res) : At p l e (rmK 1) s m args below meth c D G ad (MQJ D G ad below args s res) 2 st [(0, .ref (ad 0)), (1, .int v1)] 8 [.int k0] := by
  obtain ⟨hx, hb, hml, hown, hts, hr, hlk, hK, had, hSt⟩ := id C
  intro H locs ls hl hP hS
  unfold fX10_place_s8 at hf
  refine lv_if_eq (tgt := 22) hx hb dX10_place_8 (by decide) (fun q => ?_) (fun q => ?_)
  · exact wX10_place_s22 C n st res (it hf q) H locs ls (lv_sub hl [] rfl) hP hS
  · exact wX10_place_s11 C n v1 st res (ie hf q) H locs ls (lv_sub hl [0, 1] rfl) hP hS
def fX10_place_s0 (n : Nat)   (v1 : Int32) (st : St) : Option (Int64 × St) := (fX6_has n v1 st).bind (fun q => fX10_place_s8 n v1 q.1 q.2)
set_option maxHeartbeats 4000000 in
set_option maxRecDepth 100000 in
theorem wX10_place_s0 (C : Cx p s m args meth c cX10_place 2 wsL_law RX10 (some .long) D G ad) (n : Nat)   (v1 : Int32)   (st : St) (res : (Int64 × St))  (hf : fX10_place_s0 n   v1 st = some res) : At p l e (rmK 1) s m args below meth c D G ad (MQJ D G ad below args s res) 2 st [(0, .ref (ad 0)), (1, .int v1)] 0 [] := by
  obtain ⟨hx, hb, hml, hown, hts, hr, hlk, hK, had, hSt⟩ := id C
  intro H locs ls hl hP hS
  unfold fX10_place_s0 at hf
  refine lv_aload_n hx hb dX10_place_0 rfl (lv_at hl 0 rfl) ?_
  refine g_getR hx hb hts inlX10 hown hK hP 0 ct_0 rfl 0 (by decide) (hts _ wm_1_16) rfl dX10_place_1 ?_
  refine lv_iload_n hx hb dX10_place_4 rfl (lv_at hl 1 rfl) ?_
  obtain ⟨q, hq, hf⟩ := bd hf
  refine gcV_i (k := 0) (o := 1) (As := [.int v1]) (rest := []) hx hb hml hown hts hK hSt hP hS hl.1 (goodV wm_9_12 wm_9_13 wm_9_14 wm_1_15 wm_9_15) okX6_has ct_1 rfl rfl (Nat.le_of_ble_eq_true rfl) (Nat.le_of_ble_eq_true rfl) rfl rfl (Nat.le_of_ble_eq_true rfl) dX10_place_5 (kX6_has l D G ad had n  v1 st q hq) (fun H locs hP hS => ?_)
  exact wX10_place_s8 C n v1 q.1 q.2 res hf H locs ls (lv_sub hl [0, 1] rfl) hP hS
def fX10_place (n : Nat)  (a1 : Int32) (st : St) : Option (Int64 × St) := fX10_place_s0 n a1 st
theorem okX10_place : okY yX10_place RX10 1 := by unfold okY; decide +kernel
end
set_option maxRecDepth 100000 in
theorem kX10_place (l : Launch) (D : va_G) (G : G3) (ad : Nat → Nat) (had : Adr ad) (n : Nat)   (a1 : Int32) (st : St) (res : (Int64 × St)) (hf : fX10_place n  a1 st = some res) {sz : Nat} : CtJ l yX10_place (wsU yX10_place cX10_place 2 (some .long)) (rmK 1) D G ad sz [.ref (ad 0), .int a1] st res := by
  refine Met.ofW (cc := cX10_place) (maxL := 2) (ret := (some .long)) (by decide) rfl ?_
  intro p e s m args below meth c s₁ B hml hv
  obtain ⟨rfl, hsz, hP, hK, hSt⟩ := hv
  have hts := atoms_spec (ws := wsU yX10_place cX10_place 2 (some .long)) B.pre
  have C : Cx p s m _ meth c cX10_place 2 wsL_law RX10 (some .long) D G ad := ⟨B.exec, B.bytes, hml, findClass_of_methodNamed B.named, fun w h => hts w (List.mem_cons_of_mem _ h), B.returns, B.notSynchronized, hK, had, hSt⟩
  subst hsz
  have hl := lv_entry ([.ref (ad 0), .int a1]) (n := 2) (Nat.le_of_ble_eq_true rfl)
  rw [lg_entry_eq]
  generalize (lg_sl ([.ref (ad 0), .int a1]) ++ List.replicate (2 - (lg_sl ([.ref (ad 0), .int a1])).length) Slot.unset).toArray = ls at hl ⊢
  exact wX10_place_s0 C n  a1   st res hf s.heap [] ls (lv_sub hl [0, 1] rfl) hP va_S.rf
section
variable {p : Program} {l : Launch} {e : Env} {s : State} {m : MethodId} {args : Array Value} {below : List Frame} {meth : Method} {c : Code} {D : va_G} {G : G3} {ad : Nat → Nat}
def fX10_slot_s28 (n : Nat)    (st : St) : Option (Int32 × St) := some ((-1), st)
set_option maxHeartbeats 4000000 in
set_option maxRecDepth 100000 in
theorem wX10_slot_s28 (C : Cx p s m args meth c cX10_slot 3 wsL_law RX10 (some .int) D G ad) (n : Nat)      (st : St) (res : (Int32 × St))  (hf : fX10_slot_s28 n    st = some res) : At p l e (rmK 1) s m args below meth c D G ad (MQI D G ad below args s res) 3 st [] 28 [] := by
  obtain ⟨hx, hb, hml, hown, hts, hr, hlk, hK, had, hSt⟩ := id C
  intro H locs ls hl hP hS
  unfold fX10_slot_s28 at hf
  refine lv_iconst (v := (-1)) hx hb dX10_slot_28 (by decide) ?_
  exact g_iret hx hb hr hlk hP hS dX10_slot_29 hf
def fX10_slot_s30 (n : Nat)   (v1 : Int32) (v2 : Int32) (st : St) : Option (Int32 × St) := if inb (((v1 * 6) + v2) - 1) 48 = true then (some (st.1 55 (((v1 * 6) + v2) - 1).toNatClampNeg, st)) else none
set_option maxHeartbeats 4000000 in
set_option maxRecDepth 100000 in
theorem wX10_slot_s30 (C : Cx p s m args meth c cX10_slot 3 wsL_law RX10 (some .int) D G ad) (n : Nat)   (v1 : Int32) (v2 : Int32)   (st : St) (res : (Int32 × St))  (hf : fX10_slot_s30 n   v1 v2 st = some res) : At p l e (rmK 1) s m args below meth c D G ad (MQI D G ad below args s res) 3 st [(0, .ref (ad 0)), (1, .int v1), (2, .int v2)] 30 [] := by
  obtain ⟨hx, hb, hml, hown, hts, hr, hlk, hK, had, hSt⟩ := id C
  intro H locs ls hl hP hS
  unfold fX10_slot_s30 at hf
  refine lv_aload_n hx hb dX10_slot_30 rfl (lv_at hl 0 rfl) ?_
  refine g_getR hx hb hts inlX10 hown hK hP 0 ct_0 rfl 11 (by decide) (hts _ wm_3_7) rfl dX10_slot_31 ?_
  refine g_getR hx hb hts inlX1 hown hK hP 53 ct_53 rfl 1 (by decide) (hts _ wm_15_0) rfl dX10_slot_34 ?_
  refine lv_iload_n hx hb dX10_slot_37 rfl (lv_at hl 1 rfl) ?_
  refine lv_bipush (v := 6) hx hb dX10_slot_38 (by decide) ?_
  refine lv_imul hx hb dX10_slot_40 ?_
  refine lv_iload_n hx hb dX10_slot_41 rfl (lv_at hl 2 rfl) ?_
  refine lv_iadd hx hb dX10_slot_42 ?_
  refine lv_iconst (v := 1) hx hb dX10_slot_43 (by decide) ?_
  refine lv_isub hx hb dX10_slot_44 ?_
  obtain ⟨g1, hf⟩ := gd hf
  refine g_iald hx hb hK hP 55 ct_55 g1 dX10_slot_45 ?_
  exact g_iret hx hb hr hlk hP hS dX10_slot_46 hf
def fX10_slot_s25 (n : Nat)   (v1 : Int32) (v2 : Int32) (k0 : Int32) (st : St) : Option (Int32 × St) := if k0 = 0 then fX10_slot_s28 n st else fX10_slot_s30 n v1 v2 st
set_option maxHeartbeats 4000000 in
set_option maxRecDepth 100000 in
theorem wX10_slot_s25 (C : Cx p s m args meth c cX10_slot 3 wsL_law RX10 (some .int) D G ad) (n : Nat)   (v1 : Int32) (v2 : Int32) (k0 : Int32)   (st : St) (res : (Int32 × St))  (hf : fX10_slot_s25 n   v1 v2 k0 st = some res) : At p l e (rmK 1) s m args below meth c D G ad (MQI D G ad below args s res) 3 st [(0, .ref (ad 0)), (1, .int v1), (2, .int v2)] 25 [.int k0] := by
  obtain ⟨hx, hb, hml, hown, hts, hr, hlk, hK, had, hSt⟩ := id C
  intro H locs ls hl hP hS
  unfold fX10_slot_s25 at hf
  refine lv_if_ne (tgt := 30) hx hb dX10_slot_25 (by decide) (fun q => ?_) (fun q => ?_)
  · exact wX10_slot_s30 C n v1 v2 st res (ie hf q) H locs ls (lv_sub hl [0, 1, 2] rfl) hP hS
  · exact wX10_slot_s28 C n st res (it hf q) H locs ls (lv_sub hl [] rfl) hP hS
def fX10_slot_s11 (n : Nat)   (v1 : Int32) (v2 : Int32) (st : St) : Option (Int32 × St) := if inb v1 8 = true then ((fX10_within n v2 1 (st.1 4 v1.toNatClampNeg) st).bind (fun q => fX10_slot_s25 n v1 v2 q.1 q.2)) else none
set_option maxHeartbeats 4000000 in
set_option maxRecDepth 100000 in
theorem wX10_slot_s11 (C : Cx p s m args meth c cX10_slot 3 wsL_law RX10 (some .int) D G ad) (n : Nat)   (v1 : Int32) (v2 : Int32)   (st : St) (res : (Int32 × St))  (hf : fX10_slot_s11 n   v1 v2 st = some res) : At p l e (rmK 1) s m args below meth c D G ad (MQI D G ad below args s res) 3 st [(0, .ref (ad 0)), (1, .int v1), (2, .int v2)] 11 [] := by
  obtain ⟨hx, hb, hml, hown, hts, hr, hlk, hK, had, hSt⟩ := id C
  intro H locs ls hl hP hS
  unfold fX10_slot_s11 at hf
  refine lv_iload_n hx hb dX10_slot_11 rfl (lv_at hl 2 rfl) ?_
  refine lv_iconst (v := 1) hx hb dX10_slot_12 (by decide) ?_
  refine lv_aload_n hx hb dX10_slot_13 rfl (lv_at hl 0 rfl) ?_
  refine g_getR hx hb hts inlX10 hown hK hP 0 ct_0 rfl 0 (by decide) (hts _ wm_1_16) rfl dX10_slot_14 ?_
  refine g_getR hx hb hts inlX6 hown hK hP 1 ct_1 rfl 2 (by decide) (hts _ wm_12_23) rfl dX10_slot_17 ?_
  refine lv_iload_n hx hb dX10_slot_20 rfl (lv_at hl 1 rfl) ?_
  obtain ⟨g1, hf⟩ := gd hf
  refine g_iald hx hb hK hP 4 ct_4 g1 dX10_slot_21 ?_
  obtain ⟨q, hq, hf⟩ := bd hf
  refine gcS_i (k := 0) (As := [.int v2, .int 1, .int (st.1 4 v1.toNatClampNeg)]) (rest := []) hx hb hml hown hts hK hSt hP hS hl.1 (goodS wm_9_17 wm_9_18 wm_1_2 wm_9_19) okX10_within (Nat.le_of_ble_eq_true rfl) (Nat.le_of_ble_eq_true rfl) rfl rfl (Nat.le_of_ble_eq_true rfl) dX10_slot_22 (kX10_within l D G ad had n  v2 1 (st.1 4 v1.toNatClampNeg) st q hq) (fun H locs hP hS => ?_)
  exact wX10_slot_s25 C n v1 v2 q.1 q.2 res hf H locs ls (lv_sub hl [0, 1, 2] rfl) hP hS
def fX10_slot_s8 (n : Nat)   (v1 : Int32) (v2 : Int32) (k0 : Int32) (st : St) : Option (Int32 × St) := if k0 = 0 then fX10_slot_s28 n st else fX10_slot_s11 n v1 v2 st
set_option maxHeartbeats 4000000 in
set_option maxRecDepth 100000 in
theorem wX10_slot_s8 (C : Cx p s m args meth c cX10_slot 3 wsL_law RX10 (some .int) D G ad) (n : Nat)   (v1 : Int32) (v2 : Int32) (k0 : Int32)   (st : St) (res : (Int32 × St))  (hf : fX10_slot_s8 n   v1 v2 k0 st = some res) : At p l e (rmK 1) s m args below meth c D G ad (MQI D G ad below args s res) 3 st [(0, .ref (ad 0)), (1, .int v1), (2, .int v2)] 8 [.int k0] := by
  obtain ⟨hx, hb, hml, hown, hts, hr, hlk, hK, had, hSt⟩ := id C
  intro H locs ls hl hP hS
  unfold fX10_slot_s8 at hf
  refine lv_if_eq (tgt := 28) hx hb dX10_slot_8 (by decide) (fun q => ?_) (fun q => ?_)
  · exact wX10_slot_s28 C n st res (it hf q) H locs ls (lv_sub hl [] rfl) hP hS
  · exact wX10_slot_s11 C n v1 v2 st res (ie hf q) H locs ls (lv_sub hl [0, 1, 2] rfl) hP hS
def fX10_slot_s0 (n : Nat)   (v1 : Int32) (v2 : Int32) (st : St) : Option (Int32 × St) := (fX6_has n v1 st).bind (fun q => fX10_slot_s8 n v1 v2 q.1 q.2)
set_option maxHeartbeats 4000000 in
set_option maxRecDepth 100000 in
theorem wX10_slot_s0 (C : Cx p s m args meth c cX10_slot 3 wsL_law RX10 (some .int) D G ad) (n : Nat)   (v1 : Int32) (v2 : Int32)   (st : St) (res : (Int32 × St))  (hf : fX10_slot_s0 n   v1 v2 st = some res) : At p l e (rmK 1) s m args below meth c D G ad (MQI D G ad below args s res) 3 st [(0, .ref (ad 0)), (1, .int v1), (2, .int v2)] 0 [] := by
  obtain ⟨hx, hb, hml, hown, hts, hr, hlk, hK, had, hSt⟩ := id C
  intro H locs ls hl hP hS
  unfold fX10_slot_s0 at hf
  refine lv_aload_n hx hb dX10_slot_0 rfl (lv_at hl 0 rfl) ?_
  refine g_getR hx hb hts inlX10 hown hK hP 0 ct_0 rfl 0 (by decide) (hts _ wm_1_16) rfl dX10_slot_1 ?_
  refine lv_iload_n hx hb dX10_slot_4 rfl (lv_at hl 1 rfl) ?_
  obtain ⟨q, hq, hf⟩ := bd hf
  refine gcV_i (k := 0) (o := 1) (As := [.int v1]) (rest := []) hx hb hml hown hts hK hSt hP hS hl.1 (goodV wm_9_12 wm_9_13 wm_9_14 wm_1_15 wm_9_15) okX6_has ct_1 rfl rfl (Nat.le_of_ble_eq_true rfl) (Nat.le_of_ble_eq_true rfl) rfl rfl (Nat.le_of_ble_eq_true rfl) dX10_slot_5 (kX6_has l D G ad had n  v1 st q hq) (fun H locs hP hS => ?_)
  exact wX10_slot_s8 C n v1 v2 q.1 q.2 res hf H locs ls (lv_sub hl [0, 1, 2] rfl) hP hS
def fX10_slot (n : Nat)  (a1 : Int32) (a2 : Int32) (st : St) : Option (Int32 × St) := fX10_slot_s0 n a1 a2 st
theorem okX10_slot : okY yX10_slot RX10 2 := by unfold okY; decide +kernel
end
set_option maxRecDepth 100000 in
theorem kX10_slot (l : Launch) (D : va_G) (G : G3) (ad : Nat → Nat) (had : Adr ad) (n : Nat)   (a1 : Int32) (a2 : Int32) (st : St) (res : (Int32 × St)) (hf : fX10_slot n  a1 a2 st = some res) {sz : Nat} : CtI l yX10_slot (wsU yX10_slot cX10_slot 3 (some .int)) (rmK 1) D G ad sz [.ref (ad 0), .int a1, .int a2] st res := by
  refine Met.ofW (cc := cX10_slot) (maxL := 3) (ret := (some .int)) (by decide) rfl ?_
  intro p e s m args below meth c s₁ B hml hv
  obtain ⟨rfl, hsz, hP, hK, hSt⟩ := hv
  have hts := atoms_spec (ws := wsU yX10_slot cX10_slot 3 (some .int)) B.pre
  have C : Cx p s m _ meth c cX10_slot 3 wsL_law RX10 (some .int) D G ad := ⟨B.exec, B.bytes, hml, findClass_of_methodNamed B.named, fun w h => hts w (List.mem_cons_of_mem _ h), B.returns, B.notSynchronized, hK, had, hSt⟩
  subst hsz
  have hl := lv_entry ([.ref (ad 0), .int a1, .int a2]) (n := 3) (Nat.le_of_ble_eq_true rfl)
  rw [lg_entry_eq]
  generalize (lg_sl ([.ref (ad 0), .int a1, .int a2]) ++ List.replicate (3 - (lg_sl ([.ref (ad 0), .int a1, .int a2])).length) Slot.unset).toArray = ls at hl ⊢
  exact wX10_slot_s0 C n  a1 a2   st res hf s.heap [] ls (lv_sub hl [0, 1, 2] rfl) hP va_S.rf
section
variable {p : Program} {l : Launch} {e : Env} {s : State} {m : MethodId} {args : Array Value} {below : List Frame} {meth : Method} {c : Code} {D : va_G} {G : G3} {ad : Nat → Nat}
def fX10_owed_s22 (n : Nat)    (st : St) : Option (Int32 × St) := some ((-1), st)
set_option maxHeartbeats 4000000 in
set_option maxRecDepth 100000 in
theorem wX10_owed_s22 (C : Cx p s m args meth c cX10_owed 3 wsL_law RX10 (some .int) D G ad) (n : Nat)      (st : St) (res : (Int32 × St))  (hf : fX10_owed_s22 n    st = some res) : At p l e (rmK 2) s m args below meth c D G ad (MQI D G ad below args s res) 3 st [] 22 [] := by
  obtain ⟨hx, hb, hml, hown, hts, hr, hlk, hK, had, hSt⟩ := id C
  intro H locs ls hl hP hS
  unfold fX10_owed_s22 at hf
  refine lv_iconst (v := (-1)) hx hb dX10_owed_22 (by decide) ?_
  exact g_iret hx hb hr hlk hP hS dX10_owed_23 hf
def fX10_owed_s80 (n : Nat)   (k0 : Int32) (st : St) : Option (Int32 × St) := some (k0, st)
set_option maxHeartbeats 4000000 in
set_option maxRecDepth 100000 in
theorem wX10_owed_s80 (C : Cx p s m args meth c cX10_owed 3 wsL_law RX10 (some .int) D G ad) (n : Nat)   (k0 : Int32)   (st : St) (res : (Int32 × St))  (hf : fX10_owed_s80 n   k0 st = some res) : At p l e (rmK 2) s m args below meth c D G ad (MQI D G ad below args s res) 3 st [] 80 [.int k0] := by
  obtain ⟨hx, hb, hml, hown, hts, hr, hlk, hK, had, hSt⟩ := id C
  intro H locs ls hl hP hS
  unfold fX10_owed_s80 at hf
  exact g_iret hx hb hr hlk hP hS dX10_owed_80 hf
def fX10_owed_s79 (n : Nat)    (st : St) : Option (Int32 × St) := fX10_owed_s80 n (-1) st
set_option maxHeartbeats 4000000 in
set_option maxRecDepth 100000 in
theorem wX10_owed_s79 (C : Cx p s m args meth c cX10_owed 3 wsL_law RX10 (some .int) D G ad) (n : Nat)      (st : St) (res : (Int32 × St))  (hf : fX10_owed_s79 n    st = some res) : At p l e (rmK 2) s m args below meth c D G ad (MQI D G ad below args s res) 3 st [] 79 [] := by
  obtain ⟨hx, hb, hml, hown, hts, hr, hlk, hK, had, hSt⟩ := id C
  intro H locs ls hl hP hS
  unfold fX10_owed_s79 at hf
  refine lv_iconst (v := (-1)) hx hb dX10_owed_79 (by decide) ?_
  exact wX10_owed_s80 C n (-1) st res hf H locs ls (lv_sub hl [] rfl) hP hS
def fX10_owed_s67 (n : Nat)   (v2 : Int32) (st : St) : Option (Int32 × St) := if inb v2 8 = true then (fX10_owed_s80 n (st.1 58 v2.toNatClampNeg) st) else none
set_option maxHeartbeats 4000000 in
set_option maxRecDepth 100000 in
theorem wX10_owed_s67 (C : Cx p s m args meth c cX10_owed 3 wsL_law RX10 (some .int) D G ad) (n : Nat)   (v2 : Int32)   (st : St) (res : (Int32 × St))  (hf : fX10_owed_s67 n   v2 st = some res) : At p l e (rmK 2) s m args below meth c D G ad (MQI D G ad below args s res) 3 st [(0, .ref (ad 0)), (2, .int v2)] 67 [] := by
  obtain ⟨hx, hb, hml, hown, hts, hr, hlk, hK, had, hSt⟩ := id C
  intro H locs ls hl hP hS
  unfold fX10_owed_s67 at hf
  refine lv_aload_n hx hb dX10_owed_67 rfl (lv_at hl 0 rfl) ?_
  refine g_getR hx hb hts inlX10 hown hK hP 0 ct_0 rfl 11 (by decide) (hts _ wm_3_7) rfl dX10_owed_68 ?_
  refine g_getR hx hb hts inlX1 hown hK hP 53 ct_53 rfl 4 (by decide) (hts _ wm_15_9) rfl dX10_owed_71 ?_
  refine lv_iload_n hx hb dX10_owed_74 rfl (lv_at hl 1 rfl) ?_
  obtain ⟨g1, hf⟩ := gd hf
  refine g_iald hx hb hK hP 58 ct_58 g1 dX10_owed_75 ?_
  refine lv_goto (tgt := 80) hx hb dX10_owed_76 (by decide) ?_
  exact wX10_owed_s80 C n (st.1 58 v2.toNatClampNeg) st res hf H locs ls (lv_sub hl [] rfl) hP hS
def fX10_owed_s54 (n : Nat)   (v1 : Int32) (v2 : Int32) (st : St) : Option (Int32 × St) := if inb v2 8 = true then (if (st.1 3 v2.toNatClampNeg) = v1 then fX10_owed_s67 n v2 st else fX10_owed_s79 n st) else none
set_option maxHeartbeats 4000000 in
set_option maxRecDepth 100000 in
theorem wX10_owed_s54 (C : Cx p s m args meth c cX10_owed 3 wsL_law RX10 (some .int) D G ad) (n : Nat)   (v1 : Int32) (v2 : Int32)   (st : St) (res : (Int32 × St))  (hf : fX10_owed_s54 n   v1 v2 st = some res) : At p l e (rmK 2) s m args below meth c D G ad (MQI D G ad below args s res) 3 st [(0, .ref (ad 0)), (1, .int v1), (2, .int v2)] 54 [] := by
  obtain ⟨hx, hb, hml, hown, hts, hr, hlk, hK, had, hSt⟩ := id C
  intro H locs ls hl hP hS
  unfold fX10_owed_s54 at hf
  refine lv_aload_n hx hb dX10_owed_54 rfl (lv_at hl 0 rfl) ?_
  refine g_getR hx hb hts inlX10 hown hK hP 0 ct_0 rfl 0 (by decide) (hts _ wm_1_16) rfl dX10_owed_55 ?_
  refine g_getR hx hb hts inlX6 hown hK hP 1 ct_1 rfl 1 (by decide) (hts _ wm_12_22) rfl dX10_owed_58 ?_
  refine lv_iload_n hx hb dX10_owed_61 rfl (lv_at hl 2 rfl) ?_
  obtain ⟨g1, hf⟩ := gd hf
  refine g_iald hx hb hK hP 3 ct_3 g1 dX10_owed_62 ?_
  refine lv_iload_n hx hb dX10_owed_63 rfl (lv_at hl 1 rfl) ?_
  refine lv_icmp_ne (tgt := 79) hx hb dX10_owed_64 (by decide) (fun q => ?_) (fun q => ?_)
  · exact wX10_owed_s79 C n st res (ie hf q) H locs ls (lv_sub hl [] rfl) hP hS
  · exact wX10_owed_s67 C n v2 st res (it hf q) H locs ls (lv_sub hl [0, 2] rfl) hP hS
def fX10_owed_s53 (n : Nat)   (k0 : Int32) (st : St) : Option (Int32 × St) := some (k0, st)
set_option maxHeartbeats 4000000 in
set_option maxRecDepth 100000 in
theorem wX10_owed_s53 (C : Cx p s m args meth c cX10_owed 3 wsL_law RX10 (some .int) D G ad) (n : Nat)   (k0 : Int32)   (st : St) (res : (Int32 × St))  (hf : fX10_owed_s53 n   k0 st = some res) : At p l e (rmK 2) s m args below meth c D G ad (MQI D G ad below args s res) 3 st [] 53 [.int k0] := by
  obtain ⟨hx, hb, hml, hown, hts, hr, hlk, hK, had, hSt⟩ := id C
  intro H locs ls hl hP hS
  unfold fX10_owed_s53 at hf
  exact g_iret hx hb hr hlk hP hS dX10_owed_53 hf
def fX10_owed_s52 (n : Nat)    (st : St) : Option (Int32 × St) := fX10_owed_s53 n (-1) st
set_option maxHeartbeats 4000000 in
set_option maxRecDepth 100000 in
theorem wX10_owed_s52 (C : Cx p s m args meth c cX10_owed 3 wsL_law RX10 (some .int) D G ad) (n : Nat)      (st : St) (res : (Int32 × St))  (hf : fX10_owed_s52 n    st = some res) : At p l e (rmK 2) s m args below meth c D G ad (MQI D G ad below args s res) 3 st [] 52 [] := by
  obtain ⟨hx, hb, hml, hown, hts, hr, hlk, hK, had, hSt⟩ := id C
  intro H locs ls hl hP hS
  unfold fX10_owed_s52 at hf
  refine lv_iconst (v := (-1)) hx hb dX10_owed_52 (by decide) ?_
  exact wX10_owed_s53 C n (-1) st res hf H locs ls (lv_sub hl [] rfl) hP hS
def fX10_owed_s40 (n : Nat)   (v1 : Int32) (st : St) : Option (Int32 × St) := if inb v1 8 = true then (fX10_owed_s53 n (st.1 57 v1.toNatClampNeg) st) else none
set_option maxHeartbeats 4000000 in
set_option maxRecDepth 100000 in
theorem wX10_owed_s40 (C : Cx p s m args meth c cX10_owed 3 wsL_law RX10 (some .int) D G ad) (n : Nat)   (v1 : Int32)   (st : St) (res : (Int32 × St))  (hf : fX10_owed_s40 n   v1 st = some res) : At p l e (rmK 2) s m args below meth c D G ad (MQI D G ad below args s res) 3 st [(0, .ref (ad 0)), (1, .int v1)] 40 [] := by
  obtain ⟨hx, hb, hml, hown, hts, hr, hlk, hK, had, hSt⟩ := id C
  intro H locs ls hl hP hS
  unfold fX10_owed_s40 at hf
  refine lv_aload_n hx hb dX10_owed_40 rfl (lv_at hl 0 rfl) ?_
  refine g_getR hx hb hts inlX10 hown hK hP 0 ct_0 rfl 11 (by decide) (hts _ wm_3_7) rfl dX10_owed_41 ?_
  refine g_getR hx hb hts inlX1 hown hK hP 53 ct_53 rfl 3 (by decide) (hts _ wm_13_3) rfl dX10_owed_44 ?_
  refine lv_iload_n hx hb dX10_owed_47 rfl (lv_at hl 1 rfl) ?_
  obtain ⟨g1, hf⟩ := gd hf
  refine g_iald hx hb hK hP 57 ct_57 g1 dX10_owed_48 ?_
  refine lv_goto (tgt := 53) hx hb dX10_owed_49 (by decide) ?_
  exact wX10_owed_s53 C n (st.1 57 v1.toNatClampNeg) st res hf H locs ls (lv_sub hl [] rfl) hP hS
def fX10_owed_s35 (n : Nat)   (v1 : Int32) (v2 : Int32) (st : St) : Option (Int32 × St) := if v2 = v1 then fX10_owed_s40 n v1 st else fX10_owed_s52 n st
set_option maxHeartbeats 4000000 in
set_option maxRecDepth 100000 in
theorem wX10_owed_s35 (C : Cx p s m args meth c cX10_owed 3 wsL_law RX10 (some .int) D G ad) (n : Nat)   (v1 : Int32) (v2 : Int32)   (st : St) (res : (Int32 × St))  (hf : fX10_owed_s35 n   v1 v2 st = some res) : At p l e (rmK 2) s m args below meth c D G ad (MQI D G ad below args s res) 3 st [(0, .ref (ad 0)), (1, .int v1), (2, .int v2)] 35 [] := by
  obtain ⟨hx, hb, hml, hown, hts, hr, hlk, hK, had, hSt⟩ := id C
  intro H locs ls hl hP hS
  unfold fX10_owed_s35 at hf
  refine lv_iload_n hx hb dX10_owed_35 rfl (lv_at hl 2 rfl) ?_
  refine lv_iload_n hx hb dX10_owed_36 rfl (lv_at hl 1 rfl) ?_
  refine lv_icmp_ne (tgt := 52) hx hb dX10_owed_37 (by decide) (fun q => ?_) (fun q => ?_)
  · exact wX10_owed_s52 C n st res (ie hf q) H locs ls (lv_sub hl [] rfl) hP hS
  · exact wX10_owed_s40 C n v1 st res (it hf q) H locs ls (lv_sub hl [0, 1] rfl) hP hS
def fX10_owed_s32 (n : Nat)   (v1 : Int32) (v2 : Int32) (k0 : Int32) (st : St) : Option (Int32 × St) := if k0 = 0 then fX10_owed_s54 n v1 v2 st else fX10_owed_s35 n v1 v2 st
set_option maxHeartbeats 4000000 in
set_option maxRecDepth 100000 in
theorem wX10_owed_s32 (C : Cx p s m args meth c cX10_owed 3 wsL_law RX10 (some .int) D G ad) (n : Nat)   (v1 : Int32) (v2 : Int32) (k0 : Int32)   (st : St) (res : (Int32 × St))  (hf : fX10_owed_s32 n   v1 v2 k0 st = some res) : At p l e (rmK 2) s m args below meth c D G ad (MQI D G ad below args s res) 3 st [(0, .ref (ad 0)), (1, .int v1), (2, .int v2)] 32 [.int k0] := by
  obtain ⟨hx, hb, hml, hown, hts, hr, hlk, hK, had, hSt⟩ := id C
  intro H locs ls hl hP hS
  unfold fX10_owed_s32 at hf
  refine lv_if_eq (tgt := 54) hx hb dX10_owed_32 (by decide) (fun q => ?_) (fun q => ?_)
  · exact wX10_owed_s54 C n v1 v2 st res (it hf q) H locs ls (lv_sub hl [0, 1, 2] rfl) hP hS
  · exact wX10_owed_s35 C n v1 v2 st res (ie hf q) H locs ls (lv_sub hl [0, 1, 2] rfl) hP hS
def fX10_owed_s24 (n : Nat)   (v1 : Int32) (v2 : Int32) (st : St) : Option (Int32 × St) := (fX6_isShop n v1 st).bind (fun q => fX10_owed_s32 n v1 v2 q.1 q.2)
set_option maxHeartbeats 4000000 in
set_option maxRecDepth 100000 in
theorem wX10_owed_s24 (C : Cx p s m args meth c cX10_owed 3 wsL_law RX10 (some .int) D G ad) (n : Nat)   (v1 : Int32) (v2 : Int32)   (st : St) (res : (Int32 × St))  (hf : fX10_owed_s24 n   v1 v2 st = some res) : At p l e (rmK 2) s m args below meth c D G ad (MQI D G ad below args s res) 3 st [(0, .ref (ad 0)), (1, .int v1), (2, .int v2)] 24 [] := by
  obtain ⟨hx, hb, hml, hown, hts, hr, hlk, hK, had, hSt⟩ := id C
  intro H locs ls hl hP hS
  unfold fX10_owed_s24 at hf
  refine lv_aload_n hx hb dX10_owed_24 rfl (lv_at hl 0 rfl) ?_
  refine g_getR hx hb hts inlX10 hown hK hP 0 ct_0 rfl 0 (by decide) (hts _ wm_1_16) rfl dX10_owed_25 ?_
  refine lv_iload_n hx hb dX10_owed_28 rfl (lv_at hl 1 rfl) ?_
  obtain ⟨q, hq, hf⟩ := bd hf
  refine gcV_i (k := 1) (o := 1) (As := [.int v1]) (rest := []) hx hb hml hown hts hK hSt hP hS hl.1 (goodV wm_9_20 wm_9_21 wm_9_22 wm_1_15 wm_9_23) okX6_isShop ct_1 rfl rfl (Nat.le_of_ble_eq_true rfl) (Nat.le_of_ble_eq_true rfl) rfl rfl (Nat.le_of_ble_eq_true rfl) dX10_owed_29 (kX6_isShop l D G ad had n  v1 st q hq) (fun H locs hP hS => ?_)
  exact wX10_owed_s32 C n v1 v2 q.1 q.2 res hf H locs ls (lv_sub hl [0, 1, 2] rfl) hP hS
def fX10_owed_s19 (n : Nat)   (v1 : Int32) (v2 : Int32) (k0 : Int32) (st : St) : Option (Int32 × St) := if k0 = 0 then fX10_owed_s22 n st else fX10_owed_s24 n v1 v2 st
set_option maxHeartbeats 4000000 in
set_option maxRecDepth 100000 in
theorem wX10_owed_s19 (C : Cx p s m args meth c cX10_owed 3 wsL_law RX10 (some .int) D G ad) (n : Nat)   (v1 : Int32) (v2 : Int32) (k0 : Int32)   (st : St) (res : (Int32 × St))  (hf : fX10_owed_s19 n   v1 v2 k0 st = some res) : At p l e (rmK 2) s m args below meth c D G ad (MQI D G ad below args s res) 3 st [(0, .ref (ad 0)), (1, .int v1), (2, .int v2)] 19 [.int k0] := by
  obtain ⟨hx, hb, hml, hown, hts, hr, hlk, hK, had, hSt⟩ := id C
  intro H locs ls hl hP hS
  unfold fX10_owed_s19 at hf
  refine lv_if_ne (tgt := 24) hx hb dX10_owed_19 (by decide) (fun q => ?_) (fun q => ?_)
  · exact wX10_owed_s24 C n v1 v2 st res (ie hf q) H locs ls (lv_sub hl [0, 1, 2] rfl) hP hS
  · exact wX10_owed_s22 C n st res (it hf q) H locs ls (lv_sub hl [] rfl) hP hS
def fX10_owed_s11 (n : Nat)   (v1 : Int32) (v2 : Int32) (st : St) : Option (Int32 × St) := (fX6_has n v2 st).bind (fun q => fX10_owed_s19 n v1 v2 q.1 q.2)
set_option maxHeartbeats 4000000 in
set_option maxRecDepth 100000 in
theorem wX10_owed_s11 (C : Cx p s m args meth c cX10_owed 3 wsL_law RX10 (some .int) D G ad) (n : Nat)   (v1 : Int32) (v2 : Int32)   (st : St) (res : (Int32 × St))  (hf : fX10_owed_s11 n   v1 v2 st = some res) : At p l e (rmK 2) s m args below meth c D G ad (MQI D G ad below args s res) 3 st [(0, .ref (ad 0)), (1, .int v1), (2, .int v2)] 11 [] := by
  obtain ⟨hx, hb, hml, hown, hts, hr, hlk, hK, had, hSt⟩ := id C
  intro H locs ls hl hP hS
  unfold fX10_owed_s11 at hf
  refine lv_aload_n hx hb dX10_owed_11 rfl (lv_at hl 0 rfl) ?_
  refine g_getR hx hb hts inlX10 hown hK hP 0 ct_0 rfl 0 (by decide) (hts _ wm_1_16) rfl dX10_owed_12 ?_
  refine lv_iload_n hx hb dX10_owed_15 rfl (lv_at hl 2 rfl) ?_
  obtain ⟨q, hq, hf⟩ := bd hf
  refine gcV_i (k := 0) (o := 1) (As := [.int v2]) (rest := []) hx hb hml hown hts hK hSt hP hS hl.1 (goodV wm_9_12 wm_9_13 wm_9_14 wm_1_15 wm_9_15) okX6_has ct_1 rfl rfl (Nat.le_of_ble_eq_true rfl) (Nat.le_of_ble_eq_true rfl) rfl rfl (Nat.le_of_ble_eq_true rfl) dX10_owed_16 (kX6_has l D G ad had n  v2 st q hq) (fun H locs hP hS => ?_)
  exact wX10_owed_s19 C n v1 v2 q.1 q.2 res hf H locs ls (lv_sub hl [0, 1, 2] rfl) hP hS
def fX10_owed_s8 (n : Nat)   (v1 : Int32) (v2 : Int32) (k0 : Int32) (st : St) : Option (Int32 × St) := if k0 = 0 then fX10_owed_s22 n st else fX10_owed_s11 n v1 v2 st
set_option maxHeartbeats 4000000 in
set_option maxRecDepth 100000 in
theorem wX10_owed_s8 (C : Cx p s m args meth c cX10_owed 3 wsL_law RX10 (some .int) D G ad) (n : Nat)   (v1 : Int32) (v2 : Int32) (k0 : Int32)   (st : St) (res : (Int32 × St))  (hf : fX10_owed_s8 n   v1 v2 k0 st = some res) : At p l e (rmK 2) s m args below meth c D G ad (MQI D G ad below args s res) 3 st [(0, .ref (ad 0)), (1, .int v1), (2, .int v2)] 8 [.int k0] := by
  obtain ⟨hx, hb, hml, hown, hts, hr, hlk, hK, had, hSt⟩ := id C
  intro H locs ls hl hP hS
  unfold fX10_owed_s8 at hf
  refine lv_if_eq (tgt := 22) hx hb dX10_owed_8 (by decide) (fun q => ?_) (fun q => ?_)
  · exact wX10_owed_s22 C n st res (it hf q) H locs ls (lv_sub hl [] rfl) hP hS
  · exact wX10_owed_s11 C n v1 v2 st res (ie hf q) H locs ls (lv_sub hl [0, 1, 2] rfl) hP hS
def fX10_owed_s0 (n : Nat)   (v1 : Int32) (v2 : Int32) (st : St) : Option (Int32 × St) := (fX6_has n v1 st).bind (fun q => fX10_owed_s8 n v1 v2 q.1 q.2)
set_option maxHeartbeats 4000000 in
set_option maxRecDepth 100000 in
theorem wX10_owed_s0 (C : Cx p s m args meth c cX10_owed 3 wsL_law RX10 (some .int) D G ad) (n : Nat)   (v1 : Int32) (v2 : Int32)   (st : St) (res : (Int32 × St))  (hf : fX10_owed_s0 n   v1 v2 st = some res) : At p l e (rmK 2) s m args below meth c D G ad (MQI D G ad below args s res) 3 st [(0, .ref (ad 0)), (1, .int v1), (2, .int v2)] 0 [] := by
  obtain ⟨hx, hb, hml, hown, hts, hr, hlk, hK, had, hSt⟩ := id C
  intro H locs ls hl hP hS
  unfold fX10_owed_s0 at hf
  refine lv_aload_n hx hb dX10_owed_0 rfl (lv_at hl 0 rfl) ?_
  refine g_getR hx hb hts inlX10 hown hK hP 0 ct_0 rfl 0 (by decide) (hts _ wm_1_16) rfl dX10_owed_1 ?_
  refine lv_iload_n hx hb dX10_owed_4 rfl (lv_at hl 1 rfl) ?_
  obtain ⟨q, hq, hf⟩ := bd hf
  refine gcV_i (k := 0) (o := 1) (As := [.int v1]) (rest := []) hx hb hml hown hts hK hSt hP hS hl.1 (goodV wm_9_12 wm_9_13 wm_9_14 wm_1_15 wm_9_15) okX6_has ct_1 rfl rfl (Nat.le_of_ble_eq_true rfl) (Nat.le_of_ble_eq_true rfl) rfl rfl (Nat.le_of_ble_eq_true rfl) dX10_owed_5 (kX6_has l D G ad had n  v1 st q hq) (fun H locs hP hS => ?_)
  exact wX10_owed_s8 C n v1 v2 q.1 q.2 res hf H locs ls (lv_sub hl [0, 1, 2] rfl) hP hS
def fX10_owed (n : Nat)  (a1 : Int32) (a2 : Int32) (st : St) : Option (Int32 × St) := fX10_owed_s0 n a1 a2 st
theorem okX10_owed : okY yX10_owed RX10 2 := by unfold okY; decide +kernel
end
set_option maxRecDepth 100000 in
theorem kX10_owed (l : Launch) (D : va_G) (G : G3) (ad : Nat → Nat) (had : Adr ad) (n : Nat)   (a1 : Int32) (a2 : Int32) (st : St) (res : (Int32 × St)) (hf : fX10_owed n  a1 a2 st = some res) {sz : Nat} : CtI l yX10_owed (wsU yX10_owed cX10_owed 3 (some .int)) (rmK 2) D G ad sz [.ref (ad 0), .int a1, .int a2] st res := by
  refine Met.ofW (cc := cX10_owed) (maxL := 3) (ret := (some .int)) (by decide) rfl ?_
  intro p e s m args below meth c s₁ B hml hv
  obtain ⟨rfl, hsz, hP, hK, hSt⟩ := hv
  have hts := atoms_spec (ws := wsU yX10_owed cX10_owed 3 (some .int)) B.pre
  have C : Cx p s m _ meth c cX10_owed 3 wsL_law RX10 (some .int) D G ad := ⟨B.exec, B.bytes, hml, findClass_of_methodNamed B.named, fun w h => hts w (List.mem_cons_of_mem _ h), B.returns, B.notSynchronized, hK, had, hSt⟩
  subst hsz
  have hl := lv_entry ([.ref (ad 0), .int a1, .int a2]) (n := 3) (Nat.le_of_ble_eq_true rfl)
  rw [lg_entry_eq]
  generalize (lg_sl ([.ref (ad 0), .int a1, .int a2]) ++ List.replicate (3 - (lg_sl ([.ref (ad 0), .int a1, .int a2])).length) Slot.unset).toArray = ls at hl ⊢
  exact wX10_owed_s0 C n  a1 a2   st res hf s.heap [] ls (lv_sub hl [0, 1, 2] rfl) hP va_S.rf
section
variable {p : Program} {l : Launch} {e : Env} {s : State} {m : MethodId} {args : Array Value} {below : List Frame} {meth : Method} {c : Code} {D : va_G} {G : G3} {ad : Nat → Nat}
def fX10_cost_s26 (n : Nat)   (k0 : Int64) (st : St) : Option (Int64 × St) := some (k0, st)
set_option maxHeartbeats 4000000 in
set_option maxRecDepth 100000 in
theorem wX10_cost_s26 (C : Cx p s m args meth c cX10_cost 2 wsL_law RX10 (some .long) D G ad) (n : Nat)   (k0 : Int64)   (st : St) (res : (Int64 × St))  (hf : fX10_cost_s26 n   k0 st = some res) : At p l e (rmK 1) s m args below meth c D G ad (MQJ D G ad below args s res) 2 st [] 26 [.long k0] := by
  obtain ⟨hx, hb, hml, hown, hts, hr, hlk, hK, had, hSt⟩ := id C
  intro H locs ls hl hP hS
  unfold fX10_cost_s26 at hf
  exact g_lret hx hb hr hlk hP hS dX10_cost_26 hf
def fX10_cost_s23 (n : Nat)    (st : St) : Option (Int64 × St) := fX10_cost_s26 n (-9223372036854775808) st
set_option maxHeartbeats 4000000 in
set_option maxRecDepth 100000 in
theorem wX10_cost_s23 (C : Cx p s m args meth c cX10_cost 2 wsL_law RX10 (some .long) D G ad) (n : Nat)      (st : St) (res : (Int64 × St))  (hf : fX10_cost_s23 n    st = some res) : At p l e (rmK 1) s m args below meth c D G ad (MQJ D G ad below args s res) 2 st [] 23 [] := by
  obtain ⟨hx, hb, hml, hown, hts, hr, hlk, hK, had, hSt⟩ := id C
  intro H locs ls hl hP hS
  unfold fX10_cost_s23 at hf
  refine lv_ldc2 hx hb hown (hts _ wm_14_6) dX10_cost_23 ?_
  exact wX10_cost_s26 C n (-9223372036854775808) st res hf H locs ls (lv_sub hl [] rfl) hP hS
def fX10_cost_s11 (n : Nat)   (v1 : Int32) (st : St) : Option (Int64 × St) := if inb v1 8 = true then (fX10_cost_s26 n (st.2 63 v1.toNatClampNeg) st) else none
set_option maxHeartbeats 4000000 in
set_option maxRecDepth 100000 in
theorem wX10_cost_s11 (C : Cx p s m args meth c cX10_cost 2 wsL_law RX10 (some .long) D G ad) (n : Nat)   (v1 : Int32)   (st : St) (res : (Int64 × St))  (hf : fX10_cost_s11 n   v1 st = some res) : At p l e (rmK 1) s m args below meth c D G ad (MQJ D G ad below args s res) 2 st [(0, .ref (ad 0)), (1, .int v1)] 11 [] := by
  obtain ⟨hx, hb, hml, hown, hts, hr, hlk, hK, had, hSt⟩ := id C
  intro H locs ls hl hP hS
  unfold fX10_cost_s11 at hf
  refine lv_aload_n hx hb dX10_cost_11 rfl (lv_at hl 0 rfl) ?_
  refine g_getR hx hb hts inlX10 hown hK hP 0 ct_0 rfl 11 (by decide) (hts _ wm_3_7) rfl dX10_cost_12 ?_
  refine g_getR hx hb hts inlX1 hown hK hP 53 ct_53 rfl 9 (by decide) (hts _ wm_15_18) rfl dX10_cost_15 ?_
  refine lv_iload_n hx hb dX10_cost_18 rfl (lv_at hl 1 rfl) ?_
  obtain ⟨g1, hf⟩ := gd hf
  refine g_lald hx hb hK hP 63 ct_63 g1 dX10_cost_19 ?_
  refine lv_goto (tgt := 26) hx hb dX10_cost_20 (by decide) ?_
  exact wX10_cost_s26 C n (st.2 63 v1.toNatClampNeg) st res hf H locs ls (lv_sub hl [] rfl) hP hS
def fX10_cost_s8 (n : Nat)   (v1 : Int32) (k0 : Int32) (st : St) : Option (Int64 × St) := if k0 = 0 then fX10_cost_s23 n st else fX10_cost_s11 n v1 st
set_option maxHeartbeats 4000000 in
set_option maxRecDepth 100000 in
theorem wX10_cost_s8 (C : Cx p s m args meth c cX10_cost 2 wsL_law RX10 (some .long) D G ad) (n : Nat)   (v1 : Int32) (k0 : Int32)   (st : St) (res : (Int64 × St))  (hf : fX10_cost_s8 n   v1 k0 st = some res) : At p l e (rmK 1) s m args below meth c D G ad (MQJ D G ad below args s res) 2 st [(0, .ref (ad 0)), (1, .int v1)] 8 [.int k0] := by
  obtain ⟨hx, hb, hml, hown, hts, hr, hlk, hK, had, hSt⟩ := id C
  intro H locs ls hl hP hS
  unfold fX10_cost_s8 at hf
  refine lv_if_eq (tgt := 23) hx hb dX10_cost_8 (by decide) (fun q => ?_) (fun q => ?_)
  · exact wX10_cost_s23 C n st res (it hf q) H locs ls (lv_sub hl [] rfl) hP hS
  · exact wX10_cost_s11 C n v1 st res (ie hf q) H locs ls (lv_sub hl [0, 1] rfl) hP hS
def fX10_cost_s0 (n : Nat)   (v1 : Int32) (st : St) : Option (Int64 × St) := (fX6_has n v1 st).bind (fun q => fX10_cost_s8 n v1 q.1 q.2)
set_option maxHeartbeats 4000000 in
set_option maxRecDepth 100000 in
theorem wX10_cost_s0 (C : Cx p s m args meth c cX10_cost 2 wsL_law RX10 (some .long) D G ad) (n : Nat)   (v1 : Int32)   (st : St) (res : (Int64 × St))  (hf : fX10_cost_s0 n   v1 st = some res) : At p l e (rmK 1) s m args below meth c D G ad (MQJ D G ad below args s res) 2 st [(0, .ref (ad 0)), (1, .int v1)] 0 [] := by
  obtain ⟨hx, hb, hml, hown, hts, hr, hlk, hK, had, hSt⟩ := id C
  intro H locs ls hl hP hS
  unfold fX10_cost_s0 at hf
  refine lv_aload_n hx hb dX10_cost_0 rfl (lv_at hl 0 rfl) ?_
  refine g_getR hx hb hts inlX10 hown hK hP 0 ct_0 rfl 0 (by decide) (hts _ wm_1_16) rfl dX10_cost_1 ?_
  refine lv_iload_n hx hb dX10_cost_4 rfl (lv_at hl 1 rfl) ?_
  obtain ⟨q, hq, hf⟩ := bd hf
  refine gcV_i (k := 0) (o := 1) (As := [.int v1]) (rest := []) hx hb hml hown hts hK hSt hP hS hl.1 (goodV wm_9_12 wm_9_13 wm_9_14 wm_1_15 wm_9_15) okX6_has ct_1 rfl rfl (Nat.le_of_ble_eq_true rfl) (Nat.le_of_ble_eq_true rfl) rfl rfl (Nat.le_of_ble_eq_true rfl) dX10_cost_5 (kX6_has l D G ad had n  v1 st q hq) (fun H locs hP hS => ?_)
  exact wX10_cost_s8 C n v1 q.1 q.2 res hf H locs ls (lv_sub hl [0, 1] rfl) hP hS
def fX10_cost (n : Nat)  (a1 : Int32) (st : St) : Option (Int64 × St) := fX10_cost_s0 n a1 st
theorem okX10_cost : okY yX10_cost RX10 1 := by unfold okY; decide +kernel
end
set_option maxRecDepth 100000 in
theorem kX10_cost (l : Launch) (D : va_G) (G : G3) (ad : Nat → Nat) (had : Adr ad) (n : Nat)   (a1 : Int32) (st : St) (res : (Int64 × St)) (hf : fX10_cost n  a1 st = some res) {sz : Nat} : CtJ l yX10_cost (wsU yX10_cost cX10_cost 2 (some .long)) (rmK 1) D G ad sz [.ref (ad 0), .int a1] st res := by
  refine Met.ofW (cc := cX10_cost) (maxL := 2) (ret := (some .long)) (by decide) rfl ?_
  intro p e s m args below meth c s₁ B hml hv
  obtain ⟨rfl, hsz, hP, hK, hSt⟩ := hv
  have hts := atoms_spec (ws := wsU yX10_cost cX10_cost 2 (some .long)) B.pre
  have C : Cx p s m _ meth c cX10_cost 2 wsL_law RX10 (some .long) D G ad := ⟨B.exec, B.bytes, hml, findClass_of_methodNamed B.named, fun w h => hts w (List.mem_cons_of_mem _ h), B.returns, B.notSynchronized, hK, had, hSt⟩
  subst hsz
  have hl := lv_entry ([.ref (ad 0), .int a1]) (n := 2) (Nat.le_of_ble_eq_true rfl)
  rw [lg_entry_eq]
  generalize (lg_sl ([.ref (ad 0), .int a1]) ++ List.replicate (2 - (lg_sl ([.ref (ad 0), .int a1])).length) Slot.unset).toArray = ls at hl ⊢
  exact wX10_cost_s0 C n  a1   st res hf s.heap [] ls (lv_sub hl [0, 1] rfl) hP va_S.rf
section
variable {p : Program} {l : Launch} {e : Env} {s : State} {m : MethodId} {args : Array Value} {below : List Frame} {meth : Method} {c : Code} {D : va_G} {G : G3} {ad : Nat → Nat}
def fX10_kept_s36 (n : Nat)    (st : St) : Option (Int64 × St) := some (st.2 53 11, st)
set_option maxHeartbeats 4000000 in
set_option maxRecDepth 100000 in
theorem wX10_kept_s36 (C : Cx p s m args meth c cX10_kept 2 wsL_law RX10 (some .long) D G ad) (n : Nat)      (st : St) (res : (Int64 × St))  (hf : fX10_kept_s36 n    st = some res) : At p l e (rmK 1) s m args below meth c D G ad (MQJ D G ad below args s res) 2 st [(0, .ref (ad 0))] 36 [] := by
  obtain ⟨hx, hb, hml, hown, hts, hr, hlk, hK, had, hSt⟩ := id C
  intro H locs ls hl hP hS
  unfold fX10_kept_s36 at hf
  refine lv_aload_n hx hb dX10_kept_36 rfl (lv_at hl 0 rfl) ?_
  refine g_getR hx hb hts inlX10 hown hK hP 0 ct_0 rfl 11 (by decide) (hts _ wm_3_7) rfl dX10_kept_37 ?_
  refine g_getJ hx hb hts inlX1 hown hK hP 53 ct_53 rfl 11 (by decide) (hts _ wm_16_3) rfl dX10_kept_40 ?_
  exact g_lret hx hb hr hlk hP hS dX10_kept_43 hf
def fX10_kept_s44 (n : Nat)    (st : St) : Option (Int64 × St) := some (st.2 1 12, st)
set_option maxHeartbeats 4000000 in
set_option maxRecDepth 100000 in
theorem wX10_kept_s44 (C : Cx p s m args meth c cX10_kept 2 wsL_law RX10 (some .long) D G ad) (n : Nat)      (st : St) (res : (Int64 × St))  (hf : fX10_kept_s44 n    st = some res) : At p l e (rmK 1) s m args below meth c D G ad (MQJ D G ad below args s res) 2 st [(0, .ref (ad 0))] 44 [] := by
  obtain ⟨hx, hb, hml, hown, hts, hr, hlk, hK, had, hSt⟩ := id C
  intro H locs ls hl hP hS
  unfold fX10_kept_s44 at hf
  refine lv_aload_n hx hb dX10_kept_44 rfl (lv_at hl 0 rfl) ?_
  refine g_getR hx hb hts inlX10 hown hK hP 0 ct_0 rfl 0 (by decide) (hts _ wm_1_16) rfl dX10_kept_45 ?_
  refine g_getJ hx hb hts inlX6 hown hK hP 1 ct_1 rfl 12 (by decide) (hts _ wm_16_4) rfl dX10_kept_48 ?_
  exact g_lret hx hb hr hlk hP hS dX10_kept_51 hf
def fX10_kept_s52 (n : Nat)    (st : St) : Option (Int64 × St) := some (st.2 53 12, st)
set_option maxHeartbeats 4000000 in
set_option maxRecDepth 100000 in
theorem wX10_kept_s52 (C : Cx p s m args meth c cX10_kept 2 wsL_law RX10 (some .long) D G ad) (n : Nat)      (st : St) (res : (Int64 × St))  (hf : fX10_kept_s52 n    st = some res) : At p l e (rmK 1) s m args below meth c D G ad (MQJ D G ad below args s res) 2 st [(0, .ref (ad 0))] 52 [] := by
  obtain ⟨hx, hb, hml, hown, hts, hr, hlk, hK, had, hSt⟩ := id C
  intro H locs ls hl hP hS
  unfold fX10_kept_s52 at hf
  refine lv_aload_n hx hb dX10_kept_52 rfl (lv_at hl 0 rfl) ?_
  refine g_getR hx hb hts inlX10 hown hK hP 0 ct_0 rfl 11 (by decide) (hts _ wm_3_7) rfl dX10_kept_53 ?_
  refine g_getJ hx hb hts inlX1 hown hK hP 53 ct_53 rfl 12 (by decide) (hts _ wm_16_5) rfl dX10_kept_56 ?_
  exact g_lret hx hb hr hlk hP hS dX10_kept_59 hf
def fX10_kept_s74 (n : Nat)   (k0 : Int64) (st : St) : Option (Int64 × St) := some (k0, st)
set_option maxHeartbeats 4000000 in
set_option maxRecDepth 100000 in
theorem wX10_kept_s74 (C : Cx p s m args meth c cX10_kept 2 wsL_law RX10 (some .long) D G ad) (n : Nat)   (k0 : Int64)   (st : St) (res : (Int64 × St))  (hf : fX10_kept_s74 n   k0 st = some res) : At p l e (rmK 1) s m args below meth c D G ad (MQJ D G ad below args s res) 2 st [] 74 [.long k0] := by
  obtain ⟨hx, hb, hml, hown, hts, hr, hlk, hK, had, hSt⟩ := id C
  intro H locs ls hl hP hS
  unfold fX10_kept_s74 at hf
  exact g_lret hx hb hr hlk hP hS dX10_kept_74 hf
def fX10_kept_s60 (n : Nat)    (st : St) : Option (Int64 × St) := (fX1_total n 53 54 st).bind (fun q => fX10_kept_s74 n q.1 q.2)
set_option maxHeartbeats 4000000 in
set_option maxRecDepth 100000 in
theorem wX10_kept_s60 (C : Cx p s m args meth c cX10_kept 2 wsL_law RX10 (some .long) D G ad) (n : Nat)      (st : St) (res : (Int64 × St))  (hf : fX10_kept_s60 n    st = some res) : At p l e (rmK 1) s m args below meth c D G ad (MQJ D G ad below args s res) 2 st [(0, .ref (ad 0))] 60 [] := by
  obtain ⟨hx, hb, hml, hown, hts, hr, hlk, hK, had, hSt⟩ := id C
  intro H locs ls hl hP hS
  unfold fX10_kept_s60 at hf
  refine lv_aload_n hx hb dX10_kept_60 rfl (lv_at hl 0 rfl) ?_
  refine g_getR hx hb hts inlX10 hown hK hP 0 ct_0 rfl 11 (by decide) (hts _ wm_3_7) rfl dX10_kept_61 ?_
  refine lv_aload_n hx hb dX10_kept_64 rfl (lv_at hl 0 rfl) ?_
  refine g_getR hx hb hts inlX10 hown hK hP 0 ct_0 rfl 11 (by decide) (hts _ wm_3_7) rfl dX10_kept_65 ?_
  refine g_getR hx hb hts inlX1 hown hK hP 53 ct_53 rfl 0 (by decide) (hts _ wm_9_11) rfl dX10_kept_68 ?_
  obtain ⟨q, hq, hf⟩ := bd hf
  refine gcV_j (k := 0) (o := 53) (As := [.ref (ad 54)]) (rest := []) hx hb hml hown hts hK hSt hP hS hl.1 (goodV wm_16_6 wm_16_7 wm_16_8 wm_3_6 wm_16_9) okX1_total ct_53 rfl rfl (Nat.le_of_ble_eq_true rfl) (Nat.le_of_ble_eq_true rfl) rfl rfl (Nat.le_of_ble_eq_true rfl) dX10_kept_71 (kX1_total l D G ad had n 53 54 isFl_lit_53 ct_54  st q hq) (fun H locs hP hS => ?_)
  exact wX10_kept_s74 C n q.1 q.2 res hf H locs ls (lv_sub hl [] rfl) hP hS
def fX10_kept_s89 (n : Nat)   (k0 : Int64) (st : St) : Option (Int64 × St) := some (k0, st)
set_option maxHeartbeats 4000000 in
set_option maxRecDepth 100000 in
theorem wX10_kept_s89 (C : Cx p s m args meth c cX10_kept 2 wsL_law RX10 (some .long) D G ad) (n : Nat)   (k0 : Int64)   (st : St) (res : (Int64 × St))  (hf : fX10_kept_s89 n   k0 st = some res) : At p l e (rmK 1) s m args below meth c D G ad (MQJ D G ad below args s res) 2 st [] 89 [.long k0] := by
  obtain ⟨hx, hb, hml, hown, hts, hr, hlk, hK, had, hSt⟩ := id C
  intro H locs ls hl hP hS
  unfold fX10_kept_s89 at hf
  exact g_lret hx hb hr hlk hP hS dX10_kept_89 hf
def fX10_kept_s75 (n : Nat)    (st : St) : Option (Int64 × St) := (fX1_total n 53 56 st).bind (fun q => fX10_kept_s89 n q.1 q.2)
set_option maxHeartbeats 4000000 in
set_option maxRecDepth 100000 in
theorem wX10_kept_s75 (C : Cx p s m args meth c cX10_kept 2 wsL_law RX10 (some .long) D G ad) (n : Nat)      (st : St) (res : (Int64 × St))  (hf : fX10_kept_s75 n    st = some res) : At p l e (rmK 1) s m args below meth c D G ad (MQJ D G ad below args s res) 2 st [(0, .ref (ad 0))] 75 [] := by
  obtain ⟨hx, hb, hml, hown, hts, hr, hlk, hK, had, hSt⟩ := id C
  intro H locs ls hl hP hS
  unfold fX10_kept_s75 at hf
  refine lv_aload_n hx hb dX10_kept_75 rfl (lv_at hl 0 rfl) ?_
  refine g_getR hx hb hts inlX10 hown hK hP 0 ct_0 rfl 11 (by decide) (hts _ wm_3_7) rfl dX10_kept_76 ?_
  refine lv_aload_n hx hb dX10_kept_79 rfl (lv_at hl 0 rfl) ?_
  refine g_getR hx hb hts inlX10 hown hK hP 0 ct_0 rfl 11 (by decide) (hts _ wm_3_7) rfl dX10_kept_80 ?_
  refine g_getR hx hb hts inlX1 hown hK hP 53 ct_53 rfl 2 (by decide) (hts _ wm_13_4) rfl dX10_kept_83 ?_
  obtain ⟨q, hq, hf⟩ := bd hf
  refine gcV_j (k := 0) (o := 53) (As := [.ref (ad 56)]) (rest := []) hx hb hml hown hts hK hSt hP hS hl.1 (goodV wm_16_6 wm_16_7 wm_16_8 wm_3_6 wm_16_9) okX1_total ct_53 rfl rfl (Nat.le_of_ble_eq_true rfl) (Nat.le_of_ble_eq_true rfl) rfl rfl (Nat.le_of_ble_eq_true rfl) dX10_kept_86 (kX1_total l D G ad had n 53 56 isFl_lit_53 ct_56  st q hq) (fun H locs hP hS => ?_)
  exact wX10_kept_s89 C n q.1 q.2 res hf H locs ls (lv_sub hl [] rfl) hP hS
def fX10_kept_s90 (n : Nat)    (st : St) : Option (Int64 × St) := some ((-9223372036854775808), st)
set_option maxHeartbeats 4000000 in
set_option maxRecDepth 100000 in
theorem wX10_kept_s90 (C : Cx p s m args meth c cX10_kept 2 wsL_law RX10 (some .long) D G ad) (n : Nat)      (st : St) (res : (Int64 × St))  (hf : fX10_kept_s90 n    st = some res) : At p l e (rmK 1) s m args below meth c D G ad (MQJ D G ad below args s res) 2 st [] 90 [] := by
  obtain ⟨hx, hb, hml, hown, hts, hr, hlk, hK, had, hSt⟩ := id C
  intro H locs ls hl hP hS
  unfold fX10_kept_s90 at hf
  refine lv_ldc2 hx hb hown (hts _ wm_14_6) dX10_kept_90 ?_
  exact g_lret hx hb hr hlk hP hS dX10_kept_93 hf
def fX10_kept_s0 (n : Nat)   (v1 : Int32) (st : St) : Option (Int64 × St) := if v1 = 0 then fX10_kept_s36 n st else if v1 = 1 then fX10_kept_s44 n st else if v1 = 2 then fX10_kept_s52 n st else if v1 = 3 then fX10_kept_s60 n st else if v1 = 4 then fX10_kept_s75 n st else fX10_kept_s90 n st
set_option maxHeartbeats 4000000 in
set_option maxRecDepth 100000 in
theorem wX10_kept_s0 (C : Cx p s m args meth c cX10_kept 2 wsL_law RX10 (some .long) D G ad) (n : Nat)   (v1 : Int32)   (st : St) (res : (Int64 × St))  (hf : fX10_kept_s0 n   v1 st = some res) : At p l e (rmK 1) s m args below meth c D G ad (MQJ D G ad below args s res) 2 st [(0, .ref (ad 0)), (1, .int v1)] 0 [] := by
  obtain ⟨hx, hb, hml, hown, hts, hr, hlk, hK, had, hSt⟩ := id C
  intro H locs ls hl hP hS
  unfold fX10_kept_s0 at hf
  refine lv_iload_n hx hb dX10_kept_0 rfl (lv_at hl 1 rfl) ?_
  by_cases q : v1 = 0
  · rw [q]
    refine lv_tableIn (tgt := 36) hx hb dX10_kept_1 (by decide) (by decide) rfl (by decide) ?_
    exact wX10_kept_s36 C n st res (it hf q) H locs ls (lv_sub hl [0] rfl) hP hS
  replace hf := ie hf q
  have q0 := q
  clear q
  by_cases q : v1 = 1
  · rw [q]
    refine lv_tableIn (tgt := 44) hx hb dX10_kept_1 (by decide) (by decide) rfl (by decide) ?_
    exact wX10_kept_s44 C n st res (it hf q) H locs ls (lv_sub hl [0] rfl) hP hS
  replace hf := ie hf q
  have q1 := q
  clear q
  by_cases q : v1 = 2
  · rw [q]
    refine lv_tableIn (tgt := 52) hx hb dX10_kept_1 (by decide) (by decide) rfl (by decide) ?_
    exact wX10_kept_s52 C n st res (it hf q) H locs ls (lv_sub hl [0] rfl) hP hS
  replace hf := ie hf q
  have q2 := q
  clear q
  by_cases q : v1 = 3
  · rw [q]
    refine lv_tableIn (tgt := 60) hx hb dX10_kept_1 (by decide) (by decide) rfl (by decide) ?_
    exact wX10_kept_s60 C n st res (it hf q) H locs ls (lv_sub hl [0] rfl) hP hS
  replace hf := ie hf q
  have q3 := q
  clear q
  by_cases q : v1 = 4
  · rw [q]
    refine lv_tableIn (tgt := 75) hx hb dX10_kept_1 (by decide) (by decide) rfl (by decide) ?_
    exact wX10_kept_s75 C n st res (it hf q) H locs ls (lv_sub hl [0] rfl) hP hS
  replace hf := ie hf q
  have q4 := q
  clear q
  have qo : v1.toInt < 0 ∨ 4 < v1.toInt := by
    refine Classical.byContradiction (fun w => ?_)
    have w : v1.toInt = 0 ∨ v1.toInt = 1 ∨ v1.toInt = 2 ∨ v1.toInt = 3 ∨ v1.toInt = 4 := by omega
    rcases w with w | w | w | w | w
    · exact q0 (Int32.toInt_inj.mp (w.trans (by decide)))
    · exact q1 (Int32.toInt_inj.mp (w.trans (by decide)))
    · exact q2 (Int32.toInt_inj.mp (w.trans (by decide)))
    · exact q3 (Int32.toInt_inj.mp (w.trans (by decide)))
    · exact q4 (Int32.toInt_inj.mp (w.trans (by decide)))
  refine lv_tableOut (tgt := 90) hx hb dX10_kept_1 qo (by decide) ?_
  exact wX10_kept_s90 C n st res hf H locs ls (lv_sub hl [] rfl) hP hS
def fX10_kept (n : Nat)  (a1 : Int32) (st : St) : Option (Int64 × St) := fX10_kept_s0 n a1 st
theorem okX10_kept : okY yX10_kept RX10 1 := by unfold okY; decide +kernel
end
set_option maxRecDepth 100000 in
theorem kX10_kept (l : Launch) (D : va_G) (G : G3) (ad : Nat → Nat) (had : Adr ad) (n : Nat)   (a1 : Int32) (st : St) (res : (Int64 × St)) (hf : fX10_kept n  a1 st = some res) {sz : Nat} : CtJ l yX10_kept (wsU yX10_kept cX10_kept 2 (some .long)) (rmK 1) D G ad sz [.ref (ad 0), .int a1] st res := by
  refine Met.ofW (cc := cX10_kept) (maxL := 2) (ret := (some .long)) (by decide) rfl ?_
  intro p e s m args below meth c s₁ B hml hv
  obtain ⟨rfl, hsz, hP, hK, hSt⟩ := hv
  have hts := atoms_spec (ws := wsU yX10_kept cX10_kept 2 (some .long)) B.pre
  have C : Cx p s m _ meth c cX10_kept 2 wsL_law RX10 (some .long) D G ad := ⟨B.exec, B.bytes, hml, findClass_of_methodNamed B.named, fun w h => hts w (List.mem_cons_of_mem _ h), B.returns, B.notSynchronized, hK, had, hSt⟩
  subst hsz
  have hl := lv_entry ([.ref (ad 0), .int a1]) (n := 2) (Nat.le_of_ble_eq_true rfl)
  rw [lg_entry_eq]
  generalize (lg_sl ([.ref (ad 0), .int a1]) ++ List.replicate (2 - (lg_sl ([.ref (ad 0), .int a1])).length) Slot.unset).toArray = ls at hl ⊢
  exact wX10_kept_s0 C n  a1   st res hf s.heap [] ls (lv_sub hl [0, 1] rfl) hP va_S.rf
section
variable {p : Program} {l : Launch} {e : Env} {s : State} {m : MethodId} {args : Array Value} {below : List Frame} {meth : Method} {c : Code} {D : va_G} {G : G3} {ad : Nat → Nat}
def fX10_demand_s41 (n : Nat)   (v3 : Int32) (st : St) : Option (Int32 × St) := some (v3, st)
set_option maxHeartbeats 4000000 in
set_option maxRecDepth 100000 in
theorem wX10_demand_s41 (C : Cx p s m args meth c cX10_demand 4 wsL_law RX10 (some .int) D G ad) (n : Nat)   (v3 : Int32)   (st : St) (res : (Int32 × St))  (hf : fX10_demand_s41 n   v3 st = some res) : At p l e (rmK 2) s m args below meth c D G ad (MQI D G ad below args s res) 4 st [(3, .int v3)] 41 [] := by
  obtain ⟨hx, hb, hml, hown, hts, hr, hlk, hK, had, hSt⟩ := id C
  intro H locs ls hl hP hS
  unfold fX10_demand_s41 at hf
  refine lv_iload_n hx hb dX10_demand_41 rfl (lv_at hl 0 rfl) ?_
  exact g_iret hx hb hr hlk hP hS dX10_demand_42 hf
def fX10_demand_s27 (n : Nat)   (v1 : Int32) (v2 : Int32) (st : St) : Option (Int32 × St) := if inb v1 8 = true then (if inb v1 8 = true then (fX10_demand_s41 n (st.1 50 v1.toNatClampNeg) (setI st 50 v1.toNatClampNeg v2)) else none) else none
set_option maxHeartbeats 4000000 in
set_option maxRecDepth 100000 in
theorem wX10_demand_s27 (C : Cx p s m args meth c cX10_demand 4 wsL_law RX10 (some .int) D G ad) (n : Nat)   (v1 : Int32) (v2 : Int32)   (st : St) (res : (Int32 × St))  (hf : fX10_demand_s27 n   v1 v2 st = some res) : At p l e (rmK 2) s m args below meth c D G ad (MQI D G ad below args s res) 4 st [(0, .ref (ad 0)), (1, .int v1), (2, .int v2)] 27 [] := by
  obtain ⟨hx, hb, hml, hown, hts, hr, hlk, hK, had, hSt⟩ := id C
  intro H locs ls hl hP hS
  unfold fX10_demand_s27 at hf
  refine lv_aload_n hx hb dX10_demand_27 rfl (lv_at hl 0 rfl) ?_
  refine g_getR hx hb hts inlX10 hown hK hP 0 ct_0 rfl 12 (by decide) (hts _ wm_3_9) rfl dX10_demand_28 ?_
  refine lv_iload_n hx hb dX10_demand_31 rfl (lv_at hl 1 rfl) ?_
  obtain ⟨g1, hf⟩ := gd hf
  refine g_iald hx hb hK hP 50 ct_50 g1 dX10_demand_32 ?_
  refine lv_istore_n (lv' := [(3, .int (st.1 50 v1.toNatClampNeg)), (0, .ref (ad 0)), (1, .int v1), (2, .int v2)]) hx hb dX10_demand_33 rfl hl (by decide) rfl (fun ls hl => ?_)
  refine lv_aload_n hx hb dX10_demand_34 rfl (lv_at hl 1 rfl) ?_
  refine g_getR hx hb hts inlX10 hown hK hP 0 ct_0 rfl 12 (by decide) (hts _ wm_3_9) rfl dX10_demand_35 ?_
  refine lv_iload_n hx hb dX10_demand_38 rfl (lv_at hl 2 rfl) ?_
  refine lv_iload_n hx hb dX10_demand_39 rfl (lv_at hl 3 rfl) ?_
  obtain ⟨g2, hf⟩ := gd hf
  refine g_iast hx hb hK had hP hS 50 ct_50 g2 dX10_demand_40 (fun H locs hP hS => ?_)
  exact wX10_demand_s41 C n (st.1 50 v1.toNatClampNeg) (setI st 50 v1.toNatClampNeg v2) res hf H locs ls (lv_sub hl [0] rfl) hP hS
def fX10_demand_s24 (n : Nat)    (st : St) : Option (Int32 × St) := some ((-2), st)
set_option maxHeartbeats 4000000 in
set_option maxRecDepth 100000 in
theorem wX10_demand_s24 (C : Cx p s m args meth c cX10_demand 4 wsL_law RX10 (some .int) D G ad) (n : Nat)      (st : St) (res : (Int32 × St))  (hf : fX10_demand_s24 n    st = some res) : At p l e (rmK 2) s m args below meth c D G ad (MQI D G ad below args s res) 4 st [] 24 [] := by
  obtain ⟨hx, hb, hml, hown, hts, hr, hlk, hK, had, hSt⟩ := id C
  intro H locs ls hl hP hS
  unfold fX10_demand_s24 at hf
  refine lv_bipush (v := (-2)) hx hb dX10_demand_24 (by decide) ?_
  exact g_iret hx hb hr hlk hP hS dX10_demand_26 hf
def fX10_demand_s21 (n : Nat)   (v1 : Int32) (v2 : Int32) (k0 : Int32) (st : St) : Option (Int32 × St) := if k0 = 0 then fX10_demand_s24 n st else fX10_demand_s27 n v1 v2 st
set_option maxHeartbeats 4000000 in
set_option maxRecDepth 100000 in
theorem wX10_demand_s21 (C : Cx p s m args meth c cX10_demand 4 wsL_law RX10 (some .int) D G ad) (n : Nat)   (v1 : Int32) (v2 : Int32) (k0 : Int32)   (st : St) (res : (Int32 × St))  (hf : fX10_demand_s21 n   v1 v2 k0 st = some res) : At p l e (rmK 2) s m args below meth c D G ad (MQI D G ad below args s res) 4 st [(0, .ref (ad 0)), (1, .int v1), (2, .int v2)] 21 [.int k0] := by
  obtain ⟨hx, hb, hml, hown, hts, hr, hlk, hK, had, hSt⟩ := id C
  intro H locs ls hl hP hS
  unfold fX10_demand_s21 at hf
  refine lv_if_ne (tgt := 27) hx hb dX10_demand_21 (by decide) (fun q => ?_) (fun q => ?_)
  · exact wX10_demand_s27 C n v1 v2 st res (ie hf q) H locs ls (lv_sub hl [0, 1, 2] rfl) hP hS
  · exact wX10_demand_s24 C n st res (it hf q) H locs ls (lv_sub hl [] rfl) hP hS
def fX10_demand_s13 (n : Nat)   (v1 : Int32) (v2 : Int32) (st : St) : Option (Int32 × St) := (fX10_within n v2 0 999 st).bind (fun q => fX10_demand_s21 n v1 v2 q.1 q.2)
set_option maxHeartbeats 4000000 in
set_option maxRecDepth 100000 in
theorem wX10_demand_s13 (C : Cx p s m args meth c cX10_demand 4 wsL_law RX10 (some .int) D G ad) (n : Nat)   (v1 : Int32) (v2 : Int32)   (st : St) (res : (Int32 × St))  (hf : fX10_demand_s13 n   v1 v2 st = some res) : At p l e (rmK 2) s m args below meth c D G ad (MQI D G ad below args s res) 4 st [(0, .ref (ad 0)), (1, .int v1), (2, .int v2)] 13 [] := by
  obtain ⟨hx, hb, hml, hown, hts, hr, hlk, hK, had, hSt⟩ := id C
  intro H locs ls hl hP hS
  unfold fX10_demand_s13 at hf
  refine lv_iload_n hx hb dX10_demand_13 rfl (lv_at hl 2 rfl) ?_
  refine lv_iconst (v := 0) hx hb dX10_demand_14 (by decide) ?_
  refine lv_sipush (v := 999) hx hb dX10_demand_15 (by decide) ?_
  obtain ⟨q, hq, hf⟩ := bd hf
  refine gcS_i (k := 0) (As := [.int v2, .int 0, .int 999]) (rest := []) hx hb hml hown hts hK hSt hP hS hl.1 (goodS wm_9_17 wm_9_18 wm_1_2 wm_9_19) okX10_within (Nat.le_of_ble_eq_true rfl) (Nat.le_of_ble_eq_true rfl) rfl rfl (Nat.le_of_ble_eq_true rfl) dX10_demand_18 (kX10_within l D G ad had n  v2 0 999 st q hq) (fun H locs hP hS => ?_)
  exact wX10_demand_s21 C n v1 v2 q.1 q.2 res hf H locs ls (lv_sub hl [0, 1, 2] rfl) hP hS
def fX10_demand_s11 (n : Nat)    (st : St) : Option (Int32 × St) := some ((-1), st)
set_option maxHeartbeats 4000000 in
set_option maxRecDepth 100000 in
theorem wX10_demand_s11 (C : Cx p s m args meth c cX10_demand 4 wsL_law RX10 (some .int) D G ad) (n : Nat)      (st : St) (res : (Int32 × St))  (hf : fX10_demand_s11 n    st = some res) : At p l e (rmK 2) s m args below meth c D G ad (MQI D G ad below args s res) 4 st [] 11 [] := by
  obtain ⟨hx, hb, hml, hown, hts, hr, hlk, hK, had, hSt⟩ := id C
  intro H locs ls hl hP hS
  unfold fX10_demand_s11 at hf
  refine lv_iconst (v := (-1)) hx hb dX10_demand_11 (by decide) ?_
  exact g_iret hx hb hr hlk hP hS dX10_demand_12 hf
def fX10_demand_s8 (n : Nat)   (v1 : Int32) (v2 : Int32) (k0 : Int32) (st : St) : Option (Int32 × St) := if k0 = 0 then fX10_demand_s11 n st else fX10_demand_s13 n v1 v2 st
set_option maxHeartbeats 4000000 in
set_option maxRecDepth 100000 in
theorem wX10_demand_s8 (C : Cx p s m args meth c cX10_demand 4 wsL_law RX10 (some .int) D G ad) (n : Nat)   (v1 : Int32) (v2 : Int32) (k0 : Int32)   (st : St) (res : (Int32 × St))  (hf : fX10_demand_s8 n   v1 v2 k0 st = some res) : At p l e (rmK 2) s m args below meth c D G ad (MQI D G ad below args s res) 4 st [(0, .ref (ad 0)), (1, .int v1), (2, .int v2)] 8 [.int k0] := by
  obtain ⟨hx, hb, hml, hown, hts, hr, hlk, hK, had, hSt⟩ := id C
  intro H locs ls hl hP hS
  unfold fX10_demand_s8 at hf
  refine lv_if_ne (tgt := 13) hx hb dX10_demand_8 (by decide) (fun q => ?_) (fun q => ?_)
  · exact wX10_demand_s13 C n v1 v2 st res (ie hf q) H locs ls (lv_sub hl [0, 1, 2] rfl) hP hS
  · exact wX10_demand_s11 C n st res (it hf q) H locs ls (lv_sub hl [] rfl) hP hS
def fX10_demand_s0 (n : Nat)   (v1 : Int32) (v2 : Int32) (st : St) : Option (Int32 × St) := (fX6_isShop n v1 st).bind (fun q => fX10_demand_s8 n v1 v2 q.1 q.2)
set_option maxHeartbeats 4000000 in
set_option maxRecDepth 100000 in
theorem wX10_demand_s0 (C : Cx p s m args meth c cX10_demand 4 wsL_law RX10 (some .int) D G ad) (n : Nat)   (v1 : Int32) (v2 : Int32)   (st : St) (res : (Int32 × St))  (hf : fX10_demand_s0 n   v1 v2 st = some res) : At p l e (rmK 2) s m args below meth c D G ad (MQI D G ad below args s res) 4 st [(0, .ref (ad 0)), (1, .int v1), (2, .int v2)] 0 [] := by
  obtain ⟨hx, hb, hml, hown, hts, hr, hlk, hK, had, hSt⟩ := id C
  intro H locs ls hl hP hS
  unfold fX10_demand_s0 at hf
  refine lv_aload_n hx hb dX10_demand_0 rfl (lv_at hl 0 rfl) ?_
  refine g_getR hx hb hts inlX10 hown hK hP 0 ct_0 rfl 0 (by decide) (hts _ wm_1_16) rfl dX10_demand_1 ?_
  refine lv_iload_n hx hb dX10_demand_4 rfl (lv_at hl 1 rfl) ?_
  obtain ⟨q, hq, hf⟩ := bd hf
  refine gcV_i (k := 1) (o := 1) (As := [.int v1]) (rest := []) hx hb hml hown hts hK hSt hP hS hl.1 (goodV wm_9_20 wm_9_21 wm_9_22 wm_1_15 wm_9_23) okX6_isShop ct_1 rfl rfl (Nat.le_of_ble_eq_true rfl) (Nat.le_of_ble_eq_true rfl) rfl rfl (Nat.le_of_ble_eq_true rfl) dX10_demand_5 (kX6_isShop l D G ad had n  v1 st q hq) (fun H locs hP hS => ?_)
  exact wX10_demand_s8 C n v1 v2 q.1 q.2 res hf H locs ls (lv_sub hl [0, 1, 2] rfl) hP hS
def fX10_demand (n : Nat)  (a1 : Int32) (a2 : Int32) (st : St) : Option (Int32 × St) := fX10_demand_s0 n a1 a2 st
theorem okX10_demand : okY yX10_demand RX10 2 := by unfold okY; decide +kernel
end
set_option maxRecDepth 100000 in
theorem kX10_demand (l : Launch) (D : va_G) (G : G3) (ad : Nat → Nat) (had : Adr ad) (n : Nat)   (a1 : Int32) (a2 : Int32) (st : St) (res : (Int32 × St)) (hf : fX10_demand n  a1 a2 st = some res) {sz : Nat} : CtI l yX10_demand (wsU yX10_demand cX10_demand 4 (some .int)) (rmK 2) D G ad sz [.ref (ad 0), .int a1, .int a2] st res := by
  refine Met.ofW (cc := cX10_demand) (maxL := 4) (ret := (some .int)) (by decide) rfl ?_
  intro p e s m args below meth c s₁ B hml hv
  obtain ⟨rfl, hsz, hP, hK, hSt⟩ := hv
  have hts := atoms_spec (ws := wsU yX10_demand cX10_demand 4 (some .int)) B.pre
  have C : Cx p s m _ meth c cX10_demand 4 wsL_law RX10 (some .int) D G ad := ⟨B.exec, B.bytes, hml, findClass_of_methodNamed B.named, fun w h => hts w (List.mem_cons_of_mem _ h), B.returns, B.notSynchronized, hK, had, hSt⟩
  subst hsz
  have hl := lv_entry ([.ref (ad 0), .int a1, .int a2]) (n := 4) (Nat.le_of_ble_eq_true rfl)
  rw [lg_entry_eq]
  generalize (lg_sl ([.ref (ad 0), .int a1, .int a2]) ++ List.replicate (4 - (lg_sl ([.ref (ad 0), .int a1, .int a2])).length) Slot.unset).toArray = ls at hl ⊢
  exact wX10_demand_s0 C n  a1 a2   st res hf s.heap [] ls (lv_sub hl [0, 1, 2] rfl) hP va_S.rf
section
variable {p : Program} {l : Launch} {e : Env} {s : State} {m : MethodId} {args : Array Value} {below : List Frame} {meth : Method} {c : Code} {D : va_G} {G : G3} {ad : Nat → Nat}
def fX10_goBy_s66 (n : Nat)   (v1 : Int32) (st : St) : Option (Int32 × St) := some (v1, st)
set_option maxHeartbeats 4000000 in
set_option maxRecDepth 100000 in
theorem wX10_goBy_s66 (C : Cx p s m args meth c cX10_goBy 3 wsL_law RX10 (some .int) D G ad) (n : Nat)   (v1 : Int32)   (st : St) (res : (Int32 × St))  (hf : fX10_goBy_s66 n   v1 st = some res) : At p l e (rmK 5) s m args below meth c D G ad (MQI D G ad below args s res) 3 st [(1, .int v1)] 66 [] := by
  obtain ⟨hx, hb, hml, hown, hts, hr, hlk, hK, had, hSt⟩ := id C
  intro H locs ls hl hP hS
  unfold fX10_goBy_s66 at hf
  refine lv_iload_n hx hb dX10_goBy_66 rfl (lv_at hl 0 rfl) ?_
  exact g_iret hx hb hr hlk hP hS dX10_goBy_67 hf
def fX10_goBy_s48 (n : Nat)   (v1 : Int32) (st : St) : Option (Int32 × St) := (fX5_note n (st.1 1 9) st).bind (fun q => fX10_goBy_s66 n v1 q.2)
set_option maxHeartbeats 4000000 in
set_option maxRecDepth 100000 in
theorem wX10_goBy_s48 (C : Cx p s m args meth c cX10_goBy 3 wsL_law RX10 (some .int) D G ad) (n : Nat)   (v1 : Int32)   (st : St) (res : (Int32 × St))  (hf : fX10_goBy_s48 n   v1 st = some res) : At p l e (rmK 5) s m args below meth c D G ad (MQI D G ad below args s res) 3 st [(0, .ref (ad 0)), (1, .int v1)] 48 [] := by
  obtain ⟨hx, hb, hml, hown, hts, hr, hlk, hK, had, hSt⟩ := id C
  intro H locs ls hl hP hS
  unfold fX10_goBy_s48 at hf
  refine lv_aload_n hx hb dX10_goBy_48 rfl (lv_at hl 0 rfl) ?_
  refine g_getR hx hb hts inlX10 hown hK hP 0 ct_0 rfl 4 (by decide) (hts _ wm_2_8) rfl dX10_goBy_49 ?_
  refine lv_aload_n hx hb dX10_goBy_52 rfl (lv_at hl 0 rfl) ?_
  refine g_getR hx hb hts inlX10 hown hK hP 0 ct_0 rfl 11 (by decide) (hts _ wm_3_7) rfl dX10_goBy_53 ?_
  refine lv_aload_n hx hb dX10_goBy_56 rfl (lv_at hl 0 rfl) ?_
  refine g_getR hx hb hts inlX10 hown hK hP 0 ct_0 rfl 0 (by decide) (hts _ wm_1_16) rfl dX10_goBy_57 ?_
  refine g_getI hx hb hts inlX6 hown hK hP 1 ct_1 rfl 9 (by decide) (hts _ wm_9_9) rfl dX10_goBy_60 ?_
  obtain ⟨q, hq, hf⟩ := bd hf
  refine gcV_v (k := 1) (o := 21) (As := [.ref (ad 53), .int (st.1 1 9)]) (rest := []) hx hb hml hown hts hK hSt hP hS hl.1 (goodV wm_22_6 wm_22_7 wm_22_8 wm_2_7 wm_22_9) okX5_note ct_21 rfl rfl (Nat.le_of_ble_eq_true rfl) (Nat.le_of_ble_eq_true rfl) rfl rfl (Nat.le_of_ble_eq_true rfl) dX10_goBy_63 (kX5_note l D G ad had n  (st.1 1 9) st q hq) (fun H locs hP hS => ?_)
  exact wX10_goBy_s66 C n v1 q.2 res hf H locs ls (lv_sub hl [1] rfl) hP hS
def fX10_goBy_s42 (n : Nat) (K26 : Int32 → Int32 → St → Option (Int32 × St))  (v1 : Int32) (v2 : Int32) (st : St) : Option (Int32 × St) := K26 v1 (v2 + 1) st
set_option maxHeartbeats 4000000 in
set_option maxRecDepth 100000 in
theorem wX10_goBy_s42 (C : Cx p s m args meth c cX10_goBy 3 wsL_law RX10 (some .int) D G ad) (n : Nat) (K26 : Int32 → Int32 → St → Option (Int32 × St))  (v1 : Int32) (v2 : Int32)   (st : St) (res : (Int32 × St)) (hK26 : ∀ (v1 : Int32) (v2 : Int32) (st : St), K26 v1 v2 st = some res → At p l e (rmK 5) s m args below meth c D G ad (MQI D G ad below args s res) 3 st [(0, .ref (ad 0)), (1, .int v1), (2, .int v2)] 26 []) (hf : fX10_goBy_s42 n K26  v1 v2 st = some res) : At p l e (rmK 5) s m args below meth c D G ad (MQI D G ad below args s res) 3 st [(0, .ref (ad 0)), (1, .int v1), (2, .int v2)] 42 [] := by
  obtain ⟨hx, hb, hml, hown, hts, hr, hlk, hK, had, hSt⟩ := id C
  intro H locs ls hl hP hS
  unfold fX10_goBy_s42 at hf
  refine lv_iinc (v := v2 + 1) (lv' := [(2, .int (v2 + 1)), (0, .ref (ad 0)), (1, .int v1)]) hx hb dX10_goBy_42 hl (k := 2) rfl rfl (by decide) rfl (fun ls hl => ?_)
  refine lv_goto (tgt := 26) hx hb dX10_goBy_45 (by decide) ?_
  exact hK26 v1 (v2 + 1)  st hf H locs ls (lv_sub hl [1, 2, 0] rfl) hP hS
def fX10_goBy_s35 (n : Nat) (K26 : Int32 → Int32 → St → Option (Int32 × St))  (v1 : Int32) (v2 : Int32) (st : St) : Option (Int32 × St) := if inb v2 8 = true then (fX10_goBy_s42 n K26 v1 v2 (setI st 50 v2.toNatClampNeg 0)) else none
set_option maxHeartbeats 4000000 in
set_option maxRecDepth 100000 in
theorem wX10_goBy_s35 (C : Cx p s m args meth c cX10_goBy 3 wsL_law RX10 (some .int) D G ad) (n : Nat) (K26 : Int32 → Int32 → St → Option (Int32 × St))  (v1 : Int32) (v2 : Int32)   (st : St) (res : (Int32 × St)) (hK26 : ∀ (v1 : Int32) (v2 : Int32) (st : St), K26 v1 v2 st = some res → At p l e (rmK 5) s m args below meth c D G ad (MQI D G ad below args s res) 3 st [(0, .ref (ad 0)), (1, .int v1), (2, .int v2)] 26 []) (hf : fX10_goBy_s35 n K26  v1 v2 st = some res) : At p l e (rmK 5) s m args below meth c D G ad (MQI D G ad below args s res) 3 st [(0, .ref (ad 0)), (1, .int v1), (2, .int v2)] 35 [] := by
  obtain ⟨hx, hb, hml, hown, hts, hr, hlk, hK, had, hSt⟩ := id C
  intro H locs ls hl hP hS
  unfold fX10_goBy_s35 at hf
  refine lv_aload_n hx hb dX10_goBy_35 rfl (lv_at hl 0 rfl) ?_
  refine g_getR hx hb hts inlX10 hown hK hP 0 ct_0 rfl 12 (by decide) (hts _ wm_3_9) rfl dX10_goBy_36 ?_
  refine lv_iload_n hx hb dX10_goBy_39 rfl (lv_at hl 2 rfl) ?_
  refine lv_iconst (v := 0) hx hb dX10_goBy_40 (by decide) ?_
  obtain ⟨g1, hf⟩ := gd hf
  refine g_iast hx hb hK had hP hS 50 ct_50 g1 dX10_goBy_41 (fun H locs hP hS => ?_)
  exact wX10_goBy_s42 C n K26 v1 v2 (setI st 50 v2.toNatClampNeg 0) res hK26 hf H locs ls (lv_sub hl [0, 1, 2] rfl) hP hS
def fX10_goBy_s26 (n : Nat) (K26 : Int32 → Int32 → St → Option (Int32 × St))  (v1 : Int32) (v2 : Int32) (st : St) : Option (Int32 × St) := if 8 ≤ v2 then fX10_goBy_s48 n v1 st else fX10_goBy_s35 n K26 v1 v2 st
set_option maxHeartbeats 4000000 in
set_option maxRecDepth 100000 in
theorem wX10_goBy_s26 (C : Cx p s m args meth c cX10_goBy 3 wsL_law RX10 (some .int) D G ad) (n : Nat) (K26 : Int32 → Int32 → St → Option (Int32 × St))  (v1 : Int32) (v2 : Int32)   (st : St) (res : (Int32 × St)) (hK26 : ∀ (v1 : Int32) (v2 : Int32) (st : St), K26 v1 v2 st = some res → At p l e (rmK 5) s m args below meth c D G ad (MQI D G ad below args s res) 3 st [(0, .ref (ad 0)), (1, .int v1), (2, .int v2)] 26 []) (hf : fX10_goBy_s26 n K26  v1 v2 st = some res) : At p l e (rmK 5) s m args below meth c D G ad (MQI D G ad below args s res) 3 st [(0, .ref (ad 0)), (1, .int v1), (2, .int v2)] 26 [] := by
  obtain ⟨hx, hb, hml, hown, hts, hr, hlk, hK, had, hSt⟩ := id C
  intro H locs ls hl hP hS
  unfold fX10_goBy_s26 at hf
  refine lv_iload_n hx hb dX10_goBy_26 rfl (lv_at hl 2 rfl) ?_
  refine lv_aload_n hx hb dX10_goBy_27 rfl (lv_at hl 0 rfl) ?_
  refine g_getR hx hb hts inlX10 hown hK hP 0 ct_0 rfl 12 (by decide) (hts _ wm_3_9) rfl dX10_goBy_28 ?_
  refine g_alen hx hb hK hP 50 ct_50 dX10_goBy_31 ?_
  refine lv_topc (v := 8) (by decide) ?_
  refine lv_icmp_ge (tgt := 48) hx hb dX10_goBy_32 (by decide) (fun q => ?_) (fun q => ?_)
  · exact wX10_goBy_s48 C n v1 st res (it hf q) H locs ls (lv_sub hl [0, 1] rfl) hP hS
  · exact wX10_goBy_s35 C n K26 v1 v2 st res hK26 (ie hf q) H locs ls (lv_sub hl [0, 1, 2] rfl) hP hS
def fX10_goBy_L26 (n : Nat)   : Nat → Int32 → Int32 → St → Option (Int32 × St)
  | 0, _, _, _ => none
  | k + 1, v1, v2, st => fX10_goBy_s26 n (fX10_goBy_L26 n k)  v1 v2 st
theorem wX10_goBy_L26 (C : Cx p s m args meth c cX10_goBy 3 wsL_law RX10 (some .int) D G ad) (n : Nat)    (res : (Int32 × St))  : ∀ (k : Nat) (v1 : Int32) (v2 : Int32)  (st : St), fX10_goBy_L26 n k v1 v2 st = some res → At p l e (rmK 5) s m args below meth c D G ad (MQI D G ad below args s res) 3 st [(0, .ref (ad 0)), (1, .int v1), (2, .int v2)] 26 [] := by
  intro k
  induction k with
  | zero => intro v1 v2  st h; exact absurd h (by intro q; cases q)
  | succ k ih => intro v1 v2  st h; exact wX10_goBy_s26 C n (fX10_goBy_L26 n k)  v1 v2   st res ih h
def fX10_goBy_s23 (n : Nat)   (k0 : Int32) (st : St) : Option (Int32 × St) := fX10_goBy_L26 n n k0 0 st
set_option maxHeartbeats 4000000 in
set_option maxRecDepth 100000 in
theorem wX10_goBy_s23 (C : Cx p s m args meth c cX10_goBy 3 wsL_law RX10 (some .int) D G ad) (n : Nat)   (k0 : Int32)   (st : St) (res : (Int32 × St))  (hf : fX10_goBy_s23 n   k0 st = some res) : At p l e (rmK 5) s m args below meth c D G ad (MQI D G ad below args s res) 3 st [(0, .ref (ad 0))] 23 [.int k0] := by
  obtain ⟨hx, hb, hml, hown, hts, hr, hlk, hK, had, hSt⟩ := id C
  intro H locs ls hl hP hS
  unfold fX10_goBy_s23 at hf
  refine lv_istore_n (lv' := [(1, .int k0), (0, .ref (ad 0))]) hx hb dX10_goBy_23 rfl hl (by decide) rfl (fun ls hl => ?_)
  refine lv_iconst (v := 0) hx hb dX10_goBy_24 (by decide) ?_
  refine lv_istore_n (lv' := [(2, .int 0), (1, .int k0), (0, .ref (ad 0))]) hx hb dX10_goBy_25 rfl hl (by decide) rfl (fun ls hl => ?_)
  exact wX10_goBy_L26 C n res n k0 0 st hf H locs ls (lv_sub hl [2, 1, 0] rfl) hP hS
def fX10_goBy_s0 (n : Nat)    (st : St) : Option (Int32 × St) := (fX1_pass n 53 50 st).bind (fun q => fX10_goBy_s23 n q.1 q.2)
set_option maxHeartbeats 4000000 in
set_option maxRecDepth 100000 in
theorem wX10_goBy_s0 (C : Cx p s m args meth c cX10_goBy 3 wsL_law RX10 (some .int) D G ad) (n : Nat)      (st : St) (res : (Int32 × St))  (hf : fX10_goBy_s0 n    st = some res) : At p l e (rmK 5) s m args below meth c D G ad (MQI D G ad below args s res) 3 st [(0, .ref (ad 0))] 0 [] := by
  obtain ⟨hx, hb, hml, hown, hts, hr, hlk, hK, had, hSt⟩ := id C
  intro H locs ls hl hP hS
  unfold fX10_goBy_s0 at hf
  refine lv_aload_n hx hb dX10_goBy_0 rfl (lv_at hl 0 rfl) ?_
  refine g_getR hx hb hts inlX10 hown hK hP 0 ct_0 rfl 11 (by decide) (hts _ wm_3_7) rfl dX10_goBy_1 ?_
  refine lv_aload_n hx hb dX10_goBy_4 rfl (lv_at hl 0 rfl) ?_
  refine g_getR hx hb hts inlX10 hown hK hP 0 ct_0 rfl 0 (by decide) (hts _ wm_1_16) rfl dX10_goBy_5 ?_
  refine lv_aload_n hx hb dX10_goBy_8 rfl (lv_at hl 0 rfl) ?_
  refine g_getR hx hb hts inlX10 hown hK hP 0 ct_0 rfl 1 (by decide) (hts _ wm_1_20) rfl dX10_goBy_9 ?_
  refine lv_aload_n hx hb dX10_goBy_12 rfl (lv_at hl 0 rfl) ?_
  refine g_getR hx hb hts inlX10 hown hK hP 0 ct_0 rfl 3 (by decide) (hts _ wm_2_4) rfl dX10_goBy_13 ?_
  refine lv_aload_n hx hb dX10_goBy_16 rfl (lv_at hl 0 rfl) ?_
  refine g_getR hx hb hts inlX10 hown hK hP 0 ct_0 rfl 12 (by decide) (hts _ wm_3_9) rfl dX10_goBy_17 ?_
  obtain ⟨q, hq, hf⟩ := bd hf
  refine gcV_i (k := 4) (o := 53) (As := [.ref (ad 1), .ref (ad 11), .ref (ad 18), .ref (ad 50)]) (rest := []) hx hb hml hown hts hK hSt hP hS hl.1 (goodV wm_17_13 wm_17_14 wm_17_15 wm_3_6 wm_17_16) okX1_pass ct_53 rfl rfl (Nat.le_of_ble_eq_true rfl) (Nat.le_of_ble_eq_true rfl) rfl rfl (Nat.le_of_ble_eq_true rfl) dX10_goBy_20 (kX1_pass l D G ad had n 53 50 isFl_lit_53 ct_50  st q hq) (fun H locs hP hS => ?_)
  exact wX10_goBy_s23 C n q.1 q.2 res hf H locs ls (lv_sub hl [0] rfl) hP hS
def fX10_goBy (n : Nat)   (st : St) : Option (Int32 × St) := fX10_goBy_s0 n st
theorem okX10_goBy : okY yX10_goBy RX10 0 := by unfold okY; decide +kernel
end
set_option maxRecDepth 100000 in
theorem kX10_goBy (l : Launch) (D : va_G) (G : G3) (ad : Nat → Nat) (had : Adr ad) (n : Nat)    (st : St) (res : (Int32 × St)) (hf : fX10_goBy n   st = some res) {sz : Nat} : CtI l yX10_goBy (wsU yX10_goBy cX10_goBy 3 (some .int)) (rmK 5) D G ad sz [.ref (ad 0)] st res := by
  refine Met.ofW (cc := cX10_goBy) (maxL := 3) (ret := (some .int)) (by decide) rfl ?_
  intro p e s m args below meth c s₁ B hml hv
  obtain ⟨rfl, hsz, hP, hK, hSt⟩ := hv
  have hts := atoms_spec (ws := wsU yX10_goBy cX10_goBy 3 (some .int)) B.pre
  have C : Cx p s m _ meth c cX10_goBy 3 wsL_law RX10 (some .int) D G ad := ⟨B.exec, B.bytes, hml, findClass_of_methodNamed B.named, fun w h => hts w (List.mem_cons_of_mem _ h), B.returns, B.notSynchronized, hK, had, hSt⟩
  subst hsz
  have hl := lv_entry ([.ref (ad 0)]) (n := 3) (Nat.le_of_ble_eq_true rfl)
  rw [lg_entry_eq]
  generalize (lg_sl ([.ref (ad 0)]) ++ List.replicate (3 - (lg_sl ([.ref (ad 0)])).length) Slot.unset).toArray = ls at hl ⊢
  exact wX10_goBy_s0 C n     st res hf s.heap [] ls (lv_sub hl [0] rfl) hP va_S.rf
section
variable {p : Program} {l : Launch} {e : Env} {s : State} {m : MethodId} {args : Array Value} {below : List Frame} {meth : Method} {c : Code} {D : va_G} {G : G3} {ad : Nat → Nat}
def fX10_week_s33 (n : Nat)   (k0 : Int32) (st : St) : Option (Int32 × St) := some (k0, st)
set_option maxHeartbeats 4000000 in
set_option maxRecDepth 100000 in
theorem wX10_week_s33 (C : Cx p s m args meth c cX10_week 1 wsL_law RX10 (some .int) D G ad) (n : Nat)   (k0 : Int32)   (st : St) (res : (Int32 × St))  (hf : fX10_week_s33 n   k0 st = some res) : At p l e (rmK 6) s m args below meth c D G ad (MQI D G ad below args s res) 1 st [] 33 [.int k0] := by
  obtain ⟨hx, hb, hml, hown, hts, hr, hlk, hK, had, hSt⟩ := id C
  intro H locs ls hl hP hS
  unfold fX10_week_s33 at hf
  exact g_iret hx hb hr hlk hP hS dX10_week_33 hf
def fX10_week_s29 (n : Nat)    (st : St) : Option (Int32 × St) := (fX10_goBy n st).bind (fun q => fX10_week_s33 n q.1 q.2)
set_option maxHeartbeats 4000000 in
set_option maxRecDepth 100000 in
theorem wX10_week_s29 (C : Cx p s m args meth c cX10_week 1 wsL_law RX10 (some .int) D G ad) (n : Nat)      (st : St) (res : (Int32 × St))  (hf : fX10_week_s29 n    st = some res) : At p l e (rmK 6) s m args below meth c D G ad (MQI D G ad below args s res) 1 st [(0, .ref (ad 0))] 29 [] := by
  obtain ⟨hx, hb, hml, hown, hts, hr, hlk, hK, had, hSt⟩ := id C
  intro H locs ls hl hP hS
  unfold fX10_week_s29 at hf
  refine lv_aload_n hx hb dX10_week_29 rfl (lv_at hl 0 rfl) ?_
  obtain ⟨q, hq, hf⟩ := bd hf
  refine gcV_i (k := 5) (o := 0) (As := []) (rest := []) hx hb hml hown hts hK hSt hP hS hl.1 (goodV wm_17_9 wm_17_10 wm_17_11 wm_1_2 wm_17_12) okX10_goBy ct_0 rfl rfl (Nat.le_of_ble_eq_true rfl) (Nat.le_of_ble_eq_true rfl) rfl rfl (Nat.le_of_ble_eq_true rfl) dX10_week_30 (kX10_goBy l D G ad had n   st q hq) (fun H locs hP hS => ?_)
  exact wX10_week_s33 C n q.1 q.2 res hf H locs ls (lv_sub hl [] rfl) hP hS
def fX10_week_s26 (n : Nat)    (st : St) : Option (Int32 × St) := some ((-4), st)
set_option maxHeartbeats 4000000 in
set_option maxRecDepth 100000 in
theorem wX10_week_s26 (C : Cx p s m args meth c cX10_week 1 wsL_law RX10 (some .int) D G ad) (n : Nat)      (st : St) (res : (Int32 × St))  (hf : fX10_week_s26 n    st = some res) : At p l e (rmK 6) s m args below meth c D G ad (MQI D G ad below args s res) 1 st [] 26 [] := by
  obtain ⟨hx, hb, hml, hown, hts, hr, hlk, hK, had, hSt⟩ := id C
  intro H locs ls hl hP hS
  unfold fX10_week_s26 at hf
  refine lv_bipush (v := (-4)) hx hb dX10_week_26 (by decide) ?_
  exact g_iret hx hb hr hlk hP hS dX10_week_28 hf
def fX10_week_s13 (n : Nat)    (st : St) : Option (Int32 × St) := if (st.1 53 10) < 400 then fX10_week_s29 n st else fX10_week_s26 n st
set_option maxHeartbeats 4000000 in
set_option maxRecDepth 100000 in
theorem wX10_week_s13 (C : Cx p s m args meth c cX10_week 1 wsL_law RX10 (some .int) D G ad) (n : Nat)      (st : St) (res : (Int32 × St))  (hf : fX10_week_s13 n    st = some res) : At p l e (rmK 6) s m args below meth c D G ad (MQI D G ad below args s res) 1 st [(0, .ref (ad 0))] 13 [] := by
  obtain ⟨hx, hb, hml, hown, hts, hr, hlk, hK, had, hSt⟩ := id C
  intro H locs ls hl hP hS
  unfold fX10_week_s13 at hf
  refine lv_aload_n hx hb dX10_week_13 rfl (lv_at hl 0 rfl) ?_
  refine g_getR hx hb hts inlX10 hown hK hP 0 ct_0 rfl 11 (by decide) (hts _ wm_3_7) rfl dX10_week_14 ?_
  refine g_getI hx hb hts inlX1 hown hK hP 53 ct_53 rfl 10 (by decide) (hts _ wm_9_10) rfl dX10_week_17 ?_
  refine lv_sipush (v := 400) hx hb dX10_week_20 (by decide) ?_
  refine lv_icmp_lt (tgt := 29) hx hb dX10_week_23 (by decide) (fun q => ?_) (fun q => ?_)
  · exact wX10_week_s29 C n st res (it hf q) H locs ls (lv_sub hl [0] rfl) hP hS
  · exact wX10_week_s26 C n st res (ie hf q) H locs ls (lv_sub hl [] rfl) hP hS
def fX10_week_s10 (n : Nat)    (st : St) : Option (Int32 × St) := some ((-3), st)
set_option maxHeartbeats 4000000 in
set_option maxRecDepth 100000 in
theorem wX10_week_s10 (C : Cx p s m args meth c cX10_week 1 wsL_law RX10 (some .int) D G ad) (n : Nat)      (st : St) (res : (Int32 × St))  (hf : fX10_week_s10 n    st = some res) : At p l e (rmK 6) s m args below meth c D G ad (MQI D G ad below args s res) 1 st [] 10 [] := by
  obtain ⟨hx, hb, hml, hown, hts, hr, hlk, hK, had, hSt⟩ := id C
  intro H locs ls hl hP hS
  unfold fX10_week_s10 at hf
  refine lv_bipush (v := (-3)) hx hb dX10_week_10 (by decide) ?_
  exact g_iret hx hb hr hlk hP hS dX10_week_12 hf
def fX10_week_s0 (n : Nat)    (st : St) : Option (Int32 × St) := if (st.1 1 9) = 0 then fX10_week_s10 n st else fX10_week_s13 n st
set_option maxHeartbeats 4000000 in
set_option maxRecDepth 100000 in
theorem wX10_week_s0 (C : Cx p s m args meth c cX10_week 1 wsL_law RX10 (some .int) D G ad) (n : Nat)      (st : St) (res : (Int32 × St))  (hf : fX10_week_s0 n    st = some res) : At p l e (rmK 6) s m args below meth c D G ad (MQI D G ad below args s res) 1 st [(0, .ref (ad 0))] 0 [] := by
  obtain ⟨hx, hb, hml, hown, hts, hr, hlk, hK, had, hSt⟩ := id C
  intro H locs ls hl hP hS
  unfold fX10_week_s0 at hf
  refine lv_aload_n hx hb dX10_week_0 rfl (lv_at hl 0 rfl) ?_
  refine g_getR hx hb hts inlX10 hown hK hP 0 ct_0 rfl 0 (by decide) (hts _ wm_1_16) rfl dX10_week_1 ?_
  refine g_getI hx hb hts inlX6 hown hK hP 1 ct_1 rfl 9 (by decide) (hts _ wm_9_9) rfl dX10_week_4 ?_
  refine lv_if_ne (tgt := 13) hx hb dX10_week_7 (by decide) (fun q => ?_) (fun q => ?_)
  · exact wX10_week_s13 C n st res (ie hf q) H locs ls (lv_sub hl [0] rfl) hP hS
  · exact wX10_week_s10 C n st res (it hf q) H locs ls (lv_sub hl [] rfl) hP hS
def fX10_week (n : Nat)   (st : St) : Option (Int32 × St) := fX10_week_s0 n st
theorem okX10_week : okY yX10_week RX10 0 := by unfold okY; decide +kernel
end
set_option maxRecDepth 100000 in
theorem kX10_week (l : Launch) (D : va_G) (G : G3) (ad : Nat → Nat) (had : Adr ad) (n : Nat)    (st : St) (res : (Int32 × St)) (hf : fX10_week n   st = some res) {sz : Nat} : CtI l yX10_week (wsU yX10_week cX10_week 1 (some .int)) (rmK 6) D G ad sz [.ref (ad 0)] st res := by
  refine Met.ofW (cc := cX10_week) (maxL := 1) (ret := (some .int)) (by decide) rfl ?_
  intro p e s m args below meth c s₁ B hml hv
  obtain ⟨rfl, hsz, hP, hK, hSt⟩ := hv
  have hts := atoms_spec (ws := wsU yX10_week cX10_week 1 (some .int)) B.pre
  have C : Cx p s m _ meth c cX10_week 1 wsL_law RX10 (some .int) D G ad := ⟨B.exec, B.bytes, hml, findClass_of_methodNamed B.named, fun w h => hts w (List.mem_cons_of_mem _ h), B.returns, B.notSynchronized, hK, had, hSt⟩
  subst hsz
  have hl := lv_entry ([.ref (ad 0)]) (n := 1) (Nat.le_of_ble_eq_true rfl)
  rw [lg_entry_eq]
  generalize (lg_sl ([.ref (ad 0)]) ++ List.replicate (1 - (lg_sl ([.ref (ad 0)])).length) Slot.unset).toArray = ls at hl ⊢
  exact wX10_week_s0 C n     st res hf s.heap [] ls (lv_sub hl [0] rfl) hP va_S.rf
section
variable {p : Program} {l : Launch} {e : Env} {s : State} {m : MethodId} {args : Array Value} {below : List Frame} {meth : Method} {c : Code} {D : va_G} {G : G3} {ad : Nat → Nat}
def fX10_weeks_s21 (n : Nat)    (st : St) : Option (Int32 × St) := some ((-2), st)
set_option maxHeartbeats 4000000 in
set_option maxRecDepth 100000 in
theorem wX10_weeks_s21 (C : Cx p s m args meth c cX10_weeks 6 wsL_law RX10 (some .int) D G ad) (n : Nat)      (st : St) (res : (Int32 × St))  (hf : fX10_weeks_s21 n    st = some res) : At p l e (rmK 6) s m args below meth c D G ad (MQI D G ad below args s res) 6 st [] 21 [] := by
  obtain ⟨hx, hb, hml, hown, hts, hr, hlk, hK, had, hSt⟩ := id C
  intro H locs ls hl hP hS
  unfold fX10_weeks_s21 at hf
  refine lv_bipush (v := (-2)) hx hb dX10_weeks_21 (by decide) ?_
  exact g_iret hx hb hr hlk hP hS dX10_weeks_23 hf
def fX10_weeks_s106 (n : Nat)   (v3 : Int32) (st : St) : Option (Int32 × St) := some (v3, st)
set_option maxHeartbeats 4000000 in
set_option maxRecDepth 100000 in
theorem wX10_weeks_s106 (C : Cx p s m args meth c cX10_weeks 6 wsL_law RX10 (some .int) D G ad) (n : Nat)   (v3 : Int32)   (st : St) (res : (Int32 × St))  (hf : fX10_weeks_s106 n   v3 st = some res) : At p l e (rmK 6) s m args below meth c D G ad (MQI D G ad below args s res) 6 st [(3, .int v3)] 106 [] := by
  obtain ⟨hx, hb, hml, hown, hts, hr, hlk, hK, had, hSt⟩ := id C
  intro H locs ls hl hP hS
  unfold fX10_weeks_s106 at hf
  refine lv_iload_n hx hb dX10_weeks_106 rfl (lv_at hl 0 rfl) ?_
  exact g_iret hx hb hr hlk hP hS dX10_weeks_107 hf
def fX10_weeks_s98 (n : Nat) (K60 : Int32 → Int32 → Int32 → Int32 → St → Option (Int32 × St))  (v1 : Int32) (v2 : Int32) (v4 : Int32) (k0 : Int32) (k1 : Int32) (st : St) : Option (Int32 × St) := K60 v1 v2 (k0 + k1) (v4 + 1) st
set_option maxHeartbeats 4000000 in
set_option maxRecDepth 100000 in
theorem wX10_weeks_s98 (C : Cx p s m args meth c cX10_weeks 6 wsL_law RX10 (some .int) D G ad) (n : Nat) (K60 : Int32 → Int32 → Int32 → Int32 → St → Option (Int32 × St))  (v1 : Int32) (v2 : Int32) (v4 : Int32) (k0 : Int32) (k1 : Int32)   (st : St) (res : (Int32 × St)) (hK60 : ∀ (v1 : Int32) (v2 : Int32) (v3 : Int32) (v4 : Int32) (st : St), K60 v1 v2 v3 v4 st = some res → At p l e (rmK 6) s m args below meth c D G ad (MQI D G ad below args s res) 6 st [(0, .ref (ad 0)), (1, .int v1), (2, .int v2), (3, .int v3), (4, .int v4)] 60 []) (hf : fX10_weeks_s98 n K60  v1 v2 v4 k0 k1 st = some res) : At p l e (rmK 6) s m args below meth c D G ad (MQI D G ad below args s res) 6 st [(0, .ref (ad 0)), (1, .int v1), (2, .int v2), (4, .int v4)] 98 [.int k1, .int k0] := by
  obtain ⟨hx, hb, hml, hown, hts, hr, hlk, hK, had, hSt⟩ := id C
  intro H locs ls hl hP hS
  unfold fX10_weeks_s98 at hf
  refine lv_iadd hx hb dX10_weeks_98 ?_
  refine lv_istore_n (lv' := [(3, .int (k0 + k1)), (0, .ref (ad 0)), (1, .int v1), (2, .int v2), (4, .int v4)]) hx hb dX10_weeks_99 rfl hl (by decide) rfl (fun ls hl => ?_)
  refine lv_iinc (v := v4 + 1) (lv' := [(4, .int (v4 + 1)), (3, .int (k0 + k1)), (0, .ref (ad 0)), (1, .int v1), (2, .int v2)]) hx hb dX10_weeks_100 hl (k := 4) rfl rfl (by decide) rfl (fun ls hl => ?_)
  refine lv_goto (tgt := 60) hx hb dX10_weeks_103 (by decide) ?_
  exact hK60 v1 v2 (k0 + k1) (v4 + 1)  st hf H locs ls (lv_sub hl [2, 3, 4, 1, 0] rfl) hP hS
def fX10_weeks_s93 (n : Nat) (K60 : Int32 → Int32 → Int32 → Int32 → St → Option (Int32 × St))  (v1 : Int32) (v2 : Int32) (v3 : Int32) (v4 : Int32) (st : St) : Option (Int32 × St) := (fX10_goBy n st).bind (fun q => fX10_weeks_s98 n K60 v1 v2 v4 v3 q.1 q.2)
set_option maxHeartbeats 4000000 in
set_option maxRecDepth 100000 in
theorem wX10_weeks_s93 (C : Cx p s m args meth c cX10_weeks 6 wsL_law RX10 (some .int) D G ad) (n : Nat) (K60 : Int32 → Int32 → Int32 → Int32 → St → Option (Int32 × St))  (v1 : Int32) (v2 : Int32) (v3 : Int32) (v4 : Int32)   (st : St) (res : (Int32 × St)) (hK60 : ∀ (v1 : Int32) (v2 : Int32) (v3 : Int32) (v4 : Int32) (st : St), K60 v1 v2 v3 v4 st = some res → At p l e (rmK 6) s m args below meth c D G ad (MQI D G ad below args s res) 6 st [(0, .ref (ad 0)), (1, .int v1), (2, .int v2), (3, .int v3), (4, .int v4)] 60 []) (hf : fX10_weeks_s93 n K60  v1 v2 v3 v4 st = some res) : At p l e (rmK 6) s m args below meth c D G ad (MQI D G ad below args s res) 6 st [(0, .ref (ad 0)), (1, .int v1), (2, .int v2), (3, .int v3), (4, .int v4)] 93 [] := by
  obtain ⟨hx, hb, hml, hown, hts, hr, hlk, hK, had, hSt⟩ := id C
  intro H locs ls hl hP hS
  unfold fX10_weeks_s93 at hf
  refine lv_iload_n hx hb dX10_weeks_93 rfl (lv_at hl 3 rfl) ?_
  refine lv_aload_n hx hb dX10_weeks_94 rfl (lv_at hl 0 rfl) ?_
  obtain ⟨q, hq, hf⟩ := bd hf
  refine gcV_i (k := 5) (o := 0) (As := []) (rest := [.int v3]) hx hb hml hown hts hK hSt hP hS hl.1 (goodV wm_17_9 wm_17_10 wm_17_11 wm_1_2 wm_17_12) okX10_goBy ct_0 rfl rfl (Nat.le_of_ble_eq_true rfl) (Nat.le_of_ble_eq_true rfl) rfl rfl (Nat.le_of_ble_eq_true rfl) dX10_weeks_95 (kX10_goBy l D G ad had n   st q hq) (fun H locs hP hS => ?_)
  exact wX10_weeks_s98 C n K60 v1 v2 v4 v3 q.1 q.2 res hK60 hf H locs ls (lv_sub hl [0, 1, 2, 4] rfl) hP hS
def fX10_weeks_s87 (n : Nat) (K60 : Int32 → Int32 → Int32 → Int32 → St → Option (Int32 × St)) (K69 : Int32 → Int32 → Int32 → Int32 → Int32 → St → Option (Int32 × St))  (v1 : Int32) (v2 : Int32) (v3 : Int32) (v4 : Int32) (v5 : Int32) (st : St) : Option (Int32 × St) := K69 v1 v2 v3 v4 (v5 + 1) st
set_option maxHeartbeats 4000000 in
set_option maxRecDepth 100000 in
theorem wX10_weeks_s87 (C : Cx p s m args meth c cX10_weeks 6 wsL_law RX10 (some .int) D G ad) (n : Nat) (K60 : Int32 → Int32 → Int32 → Int32 → St → Option (Int32 × St)) (K69 : Int32 → Int32 → Int32 → Int32 → Int32 → St → Option (Int32 × St))  (v1 : Int32) (v2 : Int32) (v3 : Int32) (v4 : Int32) (v5 : Int32)   (st : St) (res : (Int32 × St)) (hK60 : ∀ (v1 : Int32) (v2 : Int32) (v3 : Int32) (v4 : Int32) (st : St), K60 v1 v2 v3 v4 st = some res → At p l e (rmK 6) s m args below meth c D G ad (MQI D G ad below args s res) 6 st [(0, .ref (ad 0)), (1, .int v1), (2, .int v2), (3, .int v3), (4, .int v4)] 60 []) (hK69 : ∀ (v1 : Int32) (v2 : Int32) (v3 : Int32) (v4 : Int32) (v5 : Int32) (st : St), K69 v1 v2 v3 v4 v5 st = some res → At p l e (rmK 6) s m args below meth c D G ad (MQI D G ad below args s res) 6 st [(0, .ref (ad 0)), (1, .int v1), (2, .int v2), (3, .int v3), (4, .int v4), (5, .int v5)] 69 []) (hf : fX10_weeks_s87 n K60 K69  v1 v2 v3 v4 v5 st = some res) : At p l e (rmK 6) s m args below meth c D G ad (MQI D G ad below args s res) 6 st [(0, .ref (ad 0)), (1, .int v1), (2, .int v2), (3, .int v3), (4, .int v4), (5, .int v5)] 87 [] := by
  obtain ⟨hx, hb, hml, hown, hts, hr, hlk, hK, had, hSt⟩ := id C
  intro H locs ls hl hP hS
  unfold fX10_weeks_s87 at hf
  refine lv_iinc (v := v5 + 1) (lv' := [(5, .int (v5 + 1)), (0, .ref (ad 0)), (1, .int v1), (2, .int v2), (3, .int v3), (4, .int v4)]) hx hb dX10_weeks_87 hl (k := 5) rfl rfl (by decide) rfl (fun ls hl => ?_)
  refine lv_goto (tgt := 69) hx hb dX10_weeks_90 (by decide) ?_
  exact hK69 v1 v2 v3 v4 (v5 + 1)  st hf H locs ls (lv_sub hl [1, 2, 3, 4, 5, 0] rfl) hP hS
def fX10_weeks_s79 (n : Nat) (K60 : Int32 → Int32 → Int32 → Int32 → St → Option (Int32 × St)) (K69 : Int32 → Int32 → Int32 → Int32 → Int32 → St → Option (Int32 × St))  (v1 : Int32) (v2 : Int32) (v3 : Int32) (v4 : Int32) (v5 : Int32) (st : St) : Option (Int32 × St) := if inb v5 8 = true then (fX10_weeks_s87 n K60 K69 v1 v2 v3 v4 v5 (setI st 50 v5.toNatClampNeg v2)) else none
set_option maxHeartbeats 4000000 in
set_option maxRecDepth 100000 in
theorem wX10_weeks_s79 (C : Cx p s m args meth c cX10_weeks 6 wsL_law RX10 (some .int) D G ad) (n : Nat) (K60 : Int32 → Int32 → Int32 → Int32 → St → Option (Int32 × St)) (K69 : Int32 → Int32 → Int32 → Int32 → Int32 → St → Option (Int32 × St))  (v1 : Int32) (v2 : Int32) (v3 : Int32) (v4 : Int32) (v5 : Int32)   (st : St) (res : (Int32 × St)) (hK60 : ∀ (v1 : Int32) (v2 : Int32) (v3 : Int32) (v4 : Int32) (st : St), K60 v1 v2 v3 v4 st = some res → At p l e (rmK 6) s m args below meth c D G ad (MQI D G ad below args s res) 6 st [(0, .ref (ad 0)), (1, .int v1), (2, .int v2), (3, .int v3), (4, .int v4)] 60 []) (hK69 : ∀ (v1 : Int32) (v2 : Int32) (v3 : Int32) (v4 : Int32) (v5 : Int32) (st : St), K69 v1 v2 v3 v4 v5 st = some res → At p l e (rmK 6) s m args below meth c D G ad (MQI D G ad below args s res) 6 st [(0, .ref (ad 0)), (1, .int v1), (2, .int v2), (3, .int v3), (4, .int v4), (5, .int v5)] 69 []) (hf : fX10_weeks_s79 n K60 K69  v1 v2 v3 v4 v5 st = some res) : At p l e (rmK 6) s m args below meth c D G ad (MQI D G ad below args s res) 6 st [(0, .ref (ad 0)), (1, .int v1), (2, .int v2), (3, .int v3), (4, .int v4), (5, .int v5)] 79 [] := by
  obtain ⟨hx, hb, hml, hown, hts, hr, hlk, hK, had, hSt⟩ := id C
  intro H locs ls hl hP hS
  unfold fX10_weeks_s79 at hf
  refine lv_aload_n hx hb dX10_weeks_79 rfl (lv_at hl 0 rfl) ?_
  refine g_getR hx hb hts inlX10 hown hK hP 0 ct_0 rfl 12 (by decide) (hts _ wm_3_9) rfl dX10_weeks_80 ?_
  refine lv_iload hx hb dX10_weeks_83 (lv_at hl 5 rfl) ?_
  refine lv_iload_n hx hb dX10_weeks_85 rfl (lv_at hl 2 rfl) ?_
  obtain ⟨g1, hf⟩ := gd hf
  refine g_iast hx hb hK had hP hS 50 ct_50 g1 dX10_weeks_86 (fun H locs hP hS => ?_)
  exact wX10_weeks_s87 C n K60 K69 v1 v2 v3 v4 v5 (setI st 50 v5.toNatClampNeg v2) res hK60 hK69 hf H locs ls (lv_sub hl [0, 1, 2, 3, 4, 5] rfl) hP hS
def fX10_weeks_s69 (n : Nat) (K60 : Int32 → Int32 → Int32 → Int32 → St → Option (Int32 × St)) (K69 : Int32 → Int32 → Int32 → Int32 → Int32 → St → Option (Int32 × St))  (v1 : Int32) (v2 : Int32) (v3 : Int32) (v4 : Int32) (v5 : Int32) (st : St) : Option (Int32 × St) := if 8 ≤ v5 then fX10_weeks_s93 n K60 v1 v2 v3 v4 st else fX10_weeks_s79 n K60 K69 v1 v2 v3 v4 v5 st
set_option maxHeartbeats 4000000 in
set_option maxRecDepth 100000 in
theorem wX10_weeks_s69 (C : Cx p s m args meth c cX10_weeks 6 wsL_law RX10 (some .int) D G ad) (n : Nat) (K60 : Int32 → Int32 → Int32 → Int32 → St → Option (Int32 × St)) (K69 : Int32 → Int32 → Int32 → Int32 → Int32 → St → Option (Int32 × St))  (v1 : Int32) (v2 : Int32) (v3 : Int32) (v4 : Int32) (v5 : Int32)   (st : St) (res : (Int32 × St)) (hK60 : ∀ (v1 : Int32) (v2 : Int32) (v3 : Int32) (v4 : Int32) (st : St), K60 v1 v2 v3 v4 st = some res → At p l e (rmK 6) s m args below meth c D G ad (MQI D G ad below args s res) 6 st [(0, .ref (ad 0)), (1, .int v1), (2, .int v2), (3, .int v3), (4, .int v4)] 60 []) (hK69 : ∀ (v1 : Int32) (v2 : Int32) (v3 : Int32) (v4 : Int32) (v5 : Int32) (st : St), K69 v1 v2 v3 v4 v5 st = some res → At p l e (rmK 6) s m args below meth c D G ad (MQI D G ad below args s res) 6 st [(0, .ref (ad 0)), (1, .int v1), (2, .int v2), (3, .int v3), (4, .int v4), (5, .int v5)] 69 []) (hf : fX10_weeks_s69 n K60 K69  v1 v2 v3 v4 v5 st = some res) : At p l e (rmK 6) s m args below meth c D G ad (MQI D G ad below args s res) 6 st [(0, .ref (ad 0)), (1, .int v1), (2, .int v2), (3, .int v3), (4, .int v4), (5, .int v5)] 69 [] := by
  obtain ⟨hx, hb, hml, hown, hts, hr, hlk, hK, had, hSt⟩ := id C
  intro H locs ls hl hP hS
  unfold fX10_weeks_s69 at hf
  refine lv_iload hx hb dX10_weeks_69 (lv_at hl 5 rfl) ?_
  refine lv_aload_n hx hb dX10_weeks_71 rfl (lv_at hl 0 rfl) ?_
  refine g_getR hx hb hts inlX10 hown hK hP 0 ct_0 rfl 12 (by decide) (hts _ wm_3_9) rfl dX10_weeks_72 ?_
  refine g_alen hx hb hK hP 50 ct_50 dX10_weeks_75 ?_
  refine lv_topc (v := 8) (by decide) ?_
  refine lv_icmp_ge (tgt := 93) hx hb dX10_weeks_76 (by decide) (fun q => ?_) (fun q => ?_)
  · exact wX10_weeks_s93 C n K60 v1 v2 v3 v4 st res hK60 (it hf q) H locs ls (lv_sub hl [0, 1, 2, 3, 4] rfl) hP hS
  · exact wX10_weeks_s79 C n K60 K69 v1 v2 v3 v4 v5 st res hK60 hK69 (ie hf q) H locs ls (lv_sub hl [0, 1, 2, 3, 4, 5] rfl) hP hS
def fX10_weeks_L69 (n : Nat) (K60 : Int32 → Int32 → Int32 → Int32 → St → Option (Int32 × St))  : Nat → Int32 → Int32 → Int32 → Int32 → Int32 → St → Option (Int32 × St)
  | 0, _, _, _, _, _, _ => none
  | k + 1, v1, v2, v3, v4, v5, st => fX10_weeks_s69 n K60 (fX10_weeks_L69 n K60 k)  v1 v2 v3 v4 v5 st
theorem wX10_weeks_L69 (C : Cx p s m args meth c cX10_weeks 6 wsL_law RX10 (some .int) D G ad) (n : Nat) (K60 : Int32 → Int32 → Int32 → Int32 → St → Option (Int32 × St))   (res : (Int32 × St)) (hK60 : ∀ (v1 : Int32) (v2 : Int32) (v3 : Int32) (v4 : Int32) (st : St), K60 v1 v2 v3 v4 st = some res → At p l e (rmK 6) s m args below meth c D G ad (MQI D G ad below args s res) 6 st [(0, .ref (ad 0)), (1, .int v1), (2, .int v2), (3, .int v3), (4, .int v4)] 60 []) : ∀ (k : Nat) (v1 : Int32) (v2 : Int32) (v3 : Int32) (v4 : Int32) (v5 : Int32)  (st : St), fX10_weeks_L69 n K60 k v1 v2 v3 v4 v5 st = some res → At p l e (rmK 6) s m args below meth c D G ad (MQI D G ad below args s res) 6 st [(0, .ref (ad 0)), (1, .int v1), (2, .int v2), (3, .int v3), (4, .int v4), (5, .int v5)] 69 [] := by
  intro k
  induction k with
  | zero => intro v1 v2 v3 v4 v5  st h; exact absurd h (by intro q; cases q)
  | succ k ih => intro v1 v2 v3 v4 v5  st h; exact wX10_weeks_s69 C n K60 (fX10_weeks_L69 n K60 k)  v1 v2 v3 v4 v5   st res hK60 ih h
def fX10_weeks_s66 (n : Nat) (K60 : Int32 → Int32 → Int32 → Int32 → St → Option (Int32 × St))  (v1 : Int32) (v2 : Int32) (v3 : Int32) (v4 : Int32) (st : St) : Option (Int32 × St) := fX10_weeks_L69 n K60 n v1 v2 v3 v4 0 st
set_option maxHeartbeats 4000000 in
set_option maxRecDepth 100000 in
theorem wX10_weeks_s66 (C : Cx p s m args meth c cX10_weeks 6 wsL_law RX10 (some .int) D G ad) (n : Nat) (K60 : Int32 → Int32 → Int32 → Int32 → St → Option (Int32 × St))  (v1 : Int32) (v2 : Int32) (v3 : Int32) (v4 : Int32)   (st : St) (res : (Int32 × St)) (hK60 : ∀ (v1 : Int32) (v2 : Int32) (v3 : Int32) (v4 : Int32) (st : St), K60 v1 v2 v3 v4 st = some res → At p l e (rmK 6) s m args below meth c D G ad (MQI D G ad below args s res) 6 st [(0, .ref (ad 0)), (1, .int v1), (2, .int v2), (3, .int v3), (4, .int v4)] 60 []) (hf : fX10_weeks_s66 n K60  v1 v2 v3 v4 st = some res) : At p l e (rmK 6) s m args below meth c D G ad (MQI D G ad below args s res) 6 st [(0, .ref (ad 0)), (1, .int v1), (2, .int v2), (3, .int v3), (4, .int v4)] 66 [] := by
  obtain ⟨hx, hb, hml, hown, hts, hr, hlk, hK, had, hSt⟩ := id C
  intro H locs ls hl hP hS
  unfold fX10_weeks_s66 at hf
  refine lv_iconst (v := 0) hx hb dX10_weeks_66 (by decide) ?_
  refine lv_istore (lv' := [(5, .int 0), (0, .ref (ad 0)), (1, .int v1), (2, .int v2), (3, .int v3), (4, .int v4)]) hx hb dX10_weeks_67 hl (by decide) rfl (fun ls hl => ?_)
  exact wX10_weeks_L69 C n K60 res hK60 n v1 v2 v3 v4 0 st hf H locs ls (lv_sub hl [1, 2, 3, 4, 5, 0] rfl) hP hS
def fX10_weeks_s60 (n : Nat) (K60 : Int32 → Int32 → Int32 → Int32 → St → Option (Int32 × St))  (v1 : Int32) (v2 : Int32) (v3 : Int32) (v4 : Int32) (st : St) : Option (Int32 × St) := if v1 ≤ v4 then fX10_weeks_s106 n v3 st else fX10_weeks_s66 n K60 v1 v2 v3 v4 st
set_option maxHeartbeats 4000000 in
set_option maxRecDepth 100000 in
theorem wX10_weeks_s60 (C : Cx p s m args meth c cX10_weeks 6 wsL_law RX10 (some .int) D G ad) (n : Nat) (K60 : Int32 → Int32 → Int32 → Int32 → St → Option (Int32 × St))  (v1 : Int32) (v2 : Int32) (v3 : Int32) (v4 : Int32)   (st : St) (res : (Int32 × St)) (hK60 : ∀ (v1 : Int32) (v2 : Int32) (v3 : Int32) (v4 : Int32) (st : St), K60 v1 v2 v3 v4 st = some res → At p l e (rmK 6) s m args below meth c D G ad (MQI D G ad below args s res) 6 st [(0, .ref (ad 0)), (1, .int v1), (2, .int v2), (3, .int v3), (4, .int v4)] 60 []) (hf : fX10_weeks_s60 n K60  v1 v2 v3 v4 st = some res) : At p l e (rmK 6) s m args below meth c D G ad (MQI D G ad below args s res) 6 st [(0, .ref (ad 0)), (1, .int v1), (2, .int v2), (3, .int v3), (4, .int v4)] 60 [] := by
  obtain ⟨hx, hb, hml, hown, hts, hr, hlk, hK, had, hSt⟩ := id C
  intro H locs ls hl hP hS
  unfold fX10_weeks_s60 at hf
  refine lv_iload hx hb dX10_weeks_60 (lv_at hl 4 rfl) ?_
  refine lv_iload_n hx hb dX10_weeks_62 rfl (lv_at hl 1 rfl) ?_
  refine lv_icmp_ge (tgt := 106) hx hb dX10_weeks_63 (by decide) (fun q => ?_) (fun q => ?_)
  · exact wX10_weeks_s106 C n v3 st res (it hf q) H locs ls (lv_sub hl [3] rfl) hP hS
  · exact wX10_weeks_s66 C n K60 v1 v2 v3 v4 st res hK60 (ie hf q) H locs ls (lv_sub hl [0, 1, 2, 3, 4] rfl) hP hS
def fX10_weeks_L60 (n : Nat)   : Nat → Int32 → Int32 → Int32 → Int32 → St → Option (Int32 × St)
  | 0, _, _, _, _, _ => none
  | k + 1, v1, v2, v3, v4, st => fX10_weeks_s60 n (fX10_weeks_L60 n k)  v1 v2 v3 v4 st
theorem wX10_weeks_L60 (C : Cx p s m args meth c cX10_weeks 6 wsL_law RX10 (some .int) D G ad) (n : Nat)    (res : (Int32 × St))  : ∀ (k : Nat) (v1 : Int32) (v2 : Int32) (v3 : Int32) (v4 : Int32)  (st : St), fX10_weeks_L60 n k v1 v2 v3 v4 st = some res → At p l e (rmK 6) s m args below meth c D G ad (MQI D G ad below args s res) 6 st [(0, .ref (ad 0)), (1, .int v1), (2, .int v2), (3, .int v3), (4, .int v4)] 60 [] := by
  intro k
  induction k with
  | zero => intro v1 v2 v3 v4  st h; exact absurd h (by intro q; cases q)
  | succ k ih => intro v1 v2 v3 v4  st h; exact wX10_weeks_s60 C n (fX10_weeks_L60 n k)  v1 v2 v3 v4   st res ih h
def fX10_weeks_s55 (n : Nat)   (v1 : Int32) (v2 : Int32) (st : St) : Option (Int32 × St) := fX10_weeks_L60 n n v1 v2 0 0 st
set_option maxHeartbeats 4000000 in
set_option maxRecDepth 100000 in
theorem wX10_weeks_s55 (C : Cx p s m args meth c cX10_weeks 6 wsL_law RX10 (some .int) D G ad) (n : Nat)   (v1 : Int32) (v2 : Int32)   (st : St) (res : (Int32 × St))  (hf : fX10_weeks_s55 n   v1 v2 st = some res) : At p l e (rmK 6) s m args below meth c D G ad (MQI D G ad below args s res) 6 st [(0, .ref (ad 0)), (1, .int v1), (2, .int v2)] 55 [] := by
  obtain ⟨hx, hb, hml, hown, hts, hr, hlk, hK, had, hSt⟩ := id C
  intro H locs ls hl hP hS
  unfold fX10_weeks_s55 at hf
  refine lv_iconst (v := 0) hx hb dX10_weeks_55 (by decide) ?_
  refine lv_istore_n (lv' := [(3, .int 0), (0, .ref (ad 0)), (1, .int v1), (2, .int v2)]) hx hb dX10_weeks_56 rfl hl (by decide) rfl (fun ls hl => ?_)
  refine lv_iconst (v := 0) hx hb dX10_weeks_57 (by decide) ?_
  refine lv_istore (lv' := [(4, .int 0), (3, .int 0), (0, .ref (ad 0)), (1, .int v1), (2, .int v2)]) hx hb dX10_weeks_58 hl (by decide) rfl (fun ls hl => ?_)
  exact wX10_weeks_L60 C n res n v1 v2 0 0 st hf H locs ls (lv_sub hl [2, 3, 4, 1, 0] rfl) hP hS
def fX10_weeks_s52 (n : Nat)    (st : St) : Option (Int32 × St) := some ((-4), st)
set_option maxHeartbeats 4000000 in
set_option maxRecDepth 100000 in
theorem wX10_weeks_s52 (C : Cx p s m args meth c cX10_weeks 6 wsL_law RX10 (some .int) D G ad) (n : Nat)      (st : St) (res : (Int32 × St))  (hf : fX10_weeks_s52 n    st = some res) : At p l e (rmK 6) s m args below meth c D G ad (MQI D G ad below args s res) 6 st [] 52 [] := by
  obtain ⟨hx, hb, hml, hown, hts, hr, hlk, hK, had, hSt⟩ := id C
  intro H locs ls hl hP hS
  unfold fX10_weeks_s52 at hf
  refine lv_bipush (v := (-4)) hx hb dX10_weeks_52 (by decide) ?_
  exact g_iret hx hb hr hlk hP hS dX10_weeks_54 hf
def fX10_weeks_s37 (n : Nat)   (v1 : Int32) (v2 : Int32) (st : St) : Option (Int32 × St) := if ((st.1 53 10) + v1) ≤ 400 then fX10_weeks_s55 n v1 v2 st else fX10_weeks_s52 n st
set_option maxHeartbeats 4000000 in
set_option maxRecDepth 100000 in
theorem wX10_weeks_s37 (C : Cx p s m args meth c cX10_weeks 6 wsL_law RX10 (some .int) D G ad) (n : Nat)   (v1 : Int32) (v2 : Int32)   (st : St) (res : (Int32 × St))  (hf : fX10_weeks_s37 n   v1 v2 st = some res) : At p l e (rmK 6) s m args below meth c D G ad (MQI D G ad below args s res) 6 st [(0, .ref (ad 0)), (1, .int v1), (2, .int v2)] 37 [] := by
  obtain ⟨hx, hb, hml, hown, hts, hr, hlk, hK, had, hSt⟩ := id C
  intro H locs ls hl hP hS
  unfold fX10_weeks_s37 at hf
  refine lv_aload_n hx hb dX10_weeks_37 rfl (lv_at hl 0 rfl) ?_
  refine g_getR hx hb hts inlX10 hown hK hP 0 ct_0 rfl 11 (by decide) (hts _ wm_3_7) rfl dX10_weeks_38 ?_
  refine g_getI hx hb hts inlX1 hown hK hP 53 ct_53 rfl 10 (by decide) (hts _ wm_9_10) rfl dX10_weeks_41 ?_
  refine lv_iload_n hx hb dX10_weeks_44 rfl (lv_at hl 1 rfl) ?_
  refine lv_iadd hx hb dX10_weeks_45 ?_
  refine lv_sipush (v := 400) hx hb dX10_weeks_46 (by decide) ?_
  refine lv_icmp_le (tgt := 55) hx hb dX10_weeks_49 (by decide) (fun q => ?_) (fun q => ?_)
  · exact wX10_weeks_s55 C n v1 v2 st res (it hf q) H locs ls (lv_sub hl [0, 1, 2] rfl) hP hS
  · exact wX10_weeks_s52 C n st res (ie hf q) H locs ls (lv_sub hl [] rfl) hP hS
def fX10_weeks_s34 (n : Nat)    (st : St) : Option (Int32 × St) := some ((-3), st)
set_option maxHeartbeats 4000000 in
set_option maxRecDepth 100000 in
theorem wX10_weeks_s34 (C : Cx p s m args meth c cX10_weeks 6 wsL_law RX10 (some .int) D G ad) (n : Nat)      (st : St) (res : (Int32 × St))  (hf : fX10_weeks_s34 n    st = some res) : At p l e (rmK 6) s m args below meth c D G ad (MQI D G ad below args s res) 6 st [] 34 [] := by
  obtain ⟨hx, hb, hml, hown, hts, hr, hlk, hK, had, hSt⟩ := id C
  intro H locs ls hl hP hS
  unfold fX10_weeks_s34 at hf
  refine lv_bipush (v := (-3)) hx hb dX10_weeks_34 (by decide) ?_
  exact g_iret hx hb hr hlk hP hS dX10_weeks_36 hf
def fX10_weeks_s24 (n : Nat)   (v1 : Int32) (v2 : Int32) (st : St) : Option (Int32 × St) := if (st.1 1 9) = 0 then fX10_weeks_s34 n st else fX10_weeks_s37 n v1 v2 st
set_option maxHeartbeats 4000000 in
set_option maxRecDepth 100000 in
theorem wX10_weeks_s24 (C : Cx p s m args meth c cX10_weeks 6 wsL_law RX10 (some .int) D G ad) (n : Nat)   (v1 : Int32) (v2 : Int32)   (st : St) (res : (Int32 × St))  (hf : fX10_weeks_s24 n   v1 v2 st = some res) : At p l e (rmK 6) s m args below meth c D G ad (MQI D G ad below args s res) 6 st [(0, .ref (ad 0)), (1, .int v1), (2, .int v2)] 24 [] := by
  obtain ⟨hx, hb, hml, hown, hts, hr, hlk, hK, had, hSt⟩ := id C
  intro H locs ls hl hP hS
  unfold fX10_weeks_s24 at hf
  refine lv_aload_n hx hb dX10_weeks_24 rfl (lv_at hl 0 rfl) ?_
  refine g_getR hx hb hts inlX10 hown hK hP 0 ct_0 rfl 0 (by decide) (hts _ wm_1_16) rfl dX10_weeks_25 ?_
  refine g_getI hx hb hts inlX6 hown hK hP 1 ct_1 rfl 9 (by decide) (hts _ wm_9_9) rfl dX10_weeks_28 ?_
  refine lv_if_ne (tgt := 37) hx hb dX10_weeks_31 (by decide) (fun q => ?_) (fun q => ?_)
  · exact wX10_weeks_s37 C n v1 v2 st res (ie hf q) H locs ls (lv_sub hl [0, 1, 2] rfl) hP hS
  · exact wX10_weeks_s34 C n st res (it hf q) H locs ls (lv_sub hl [] rfl) hP hS
def fX10_weeks_s18 (n : Nat)   (v1 : Int32) (v2 : Int32) (k0 : Int32) (st : St) : Option (Int32 × St) := if k0 = 0 then fX10_weeks_s21 n st else fX10_weeks_s24 n v1 v2 st
set_option maxHeartbeats 4000000 in
set_option maxRecDepth 100000 in
theorem wX10_weeks_s18 (C : Cx p s m args meth c cX10_weeks 6 wsL_law RX10 (some .int) D G ad) (n : Nat)   (v1 : Int32) (v2 : Int32) (k0 : Int32)   (st : St) (res : (Int32 × St))  (hf : fX10_weeks_s18 n   v1 v2 k0 st = some res) : At p l e (rmK 6) s m args below meth c D G ad (MQI D G ad below args s res) 6 st [(0, .ref (ad 0)), (1, .int v1), (2, .int v2)] 18 [.int k0] := by
  obtain ⟨hx, hb, hml, hown, hts, hr, hlk, hK, had, hSt⟩ := id C
  intro H locs ls hl hP hS
  unfold fX10_weeks_s18 at hf
  refine lv_if_ne (tgt := 24) hx hb dX10_weeks_18 (by decide) (fun q => ?_) (fun q => ?_)
  · exact wX10_weeks_s24 C n v1 v2 st res (ie hf q) H locs ls (lv_sub hl [0, 1, 2] rfl) hP hS
  · exact wX10_weeks_s21 C n st res (it hf q) H locs ls (lv_sub hl [] rfl) hP hS
def fX10_weeks_s10 (n : Nat)   (v1 : Int32) (v2 : Int32) (st : St) : Option (Int32 × St) := (fX10_within n v2 0 999 st).bind (fun q => fX10_weeks_s18 n v1 v2 q.1 q.2)
set_option maxHeartbeats 4000000 in
set_option maxRecDepth 100000 in
theorem wX10_weeks_s10 (C : Cx p s m args meth c cX10_weeks 6 wsL_law RX10 (some .int) D G ad) (n : Nat)   (v1 : Int32) (v2 : Int32)   (st : St) (res : (Int32 × St))  (hf : fX10_weeks_s10 n   v1 v2 st = some res) : At p l e (rmK 6) s m args below meth c D G ad (MQI D G ad below args s res) 6 st [(0, .ref (ad 0)), (1, .int v1), (2, .int v2)] 10 [] := by
  obtain ⟨hx, hb, hml, hown, hts, hr, hlk, hK, had, hSt⟩ := id C
  intro H locs ls hl hP hS
  unfold fX10_weeks_s10 at hf
  refine lv_iload_n hx hb dX10_weeks_10 rfl (lv_at hl 2 rfl) ?_
  refine lv_iconst (v := 0) hx hb dX10_weeks_11 (by decide) ?_
  refine lv_sipush (v := 999) hx hb dX10_weeks_12 (by decide) ?_
  obtain ⟨q, hq, hf⟩ := bd hf
  refine gcS_i (k := 0) (As := [.int v2, .int 0, .int 999]) (rest := []) hx hb hml hown hts hK hSt hP hS hl.1 (goodS wm_9_17 wm_9_18 wm_1_2 wm_9_19) okX10_within (Nat.le_of_ble_eq_true rfl) (Nat.le_of_ble_eq_true rfl) rfl rfl (Nat.le_of_ble_eq_true rfl) dX10_weeks_15 (kX10_within l D G ad had n  v2 0 999 st q hq) (fun H locs hP hS => ?_)
  exact wX10_weeks_s18 C n v1 v2 q.1 q.2 res hf H locs ls (lv_sub hl [0, 1, 2] rfl) hP hS
def fX10_weeks_s7 (n : Nat)   (v1 : Int32) (v2 : Int32) (k0 : Int32) (st : St) : Option (Int32 × St) := if k0 = 0 then fX10_weeks_s21 n st else fX10_weeks_s10 n v1 v2 st
set_option maxHeartbeats 4000000 in
set_option maxRecDepth 100000 in
theorem wX10_weeks_s7 (C : Cx p s m args meth c cX10_weeks 6 wsL_law RX10 (some .int) D G ad) (n : Nat)   (v1 : Int32) (v2 : Int32) (k0 : Int32)   (st : St) (res : (Int32 × St))  (hf : fX10_weeks_s7 n   v1 v2 k0 st = some res) : At p l e (rmK 6) s m args below meth c D G ad (MQI D G ad below args s res) 6 st [(0, .ref (ad 0)), (1, .int v1), (2, .int v2)] 7 [.int k0] := by
  obtain ⟨hx, hb, hml, hown, hts, hr, hlk, hK, had, hSt⟩ := id C
  intro H locs ls hl hP hS
  unfold fX10_weeks_s7 at hf
  refine lv_if_eq (tgt := 21) hx hb dX10_weeks_7 (by decide) (fun q => ?_) (fun q => ?_)
  · exact wX10_weeks_s21 C n st res (it hf q) H locs ls (lv_sub hl [] rfl) hP hS
  · exact wX10_weeks_s10 C n v1 v2 st res (ie hf q) H locs ls (lv_sub hl [0, 1, 2] rfl) hP hS
def fX10_weeks_s0 (n : Nat)   (v1 : Int32) (v2 : Int32) (st : St) : Option (Int32 × St) := (fX10_within n v1 1 20 st).bind (fun q => fX10_weeks_s7 n v1 v2 q.1 q.2)
set_option maxHeartbeats 4000000 in
set_option maxRecDepth 100000 in
theorem wX10_weeks_s0 (C : Cx p s m args meth c cX10_weeks 6 wsL_law RX10 (some .int) D G ad) (n : Nat)   (v1 : Int32) (v2 : Int32)   (st : St) (res : (Int32 × St))  (hf : fX10_weeks_s0 n   v1 v2 st = some res) : At p l e (rmK 6) s m args below meth c D G ad (MQI D G ad below args s res) 6 st [(0, .ref (ad 0)), (1, .int v1), (2, .int v2)] 0 [] := by
  obtain ⟨hx, hb, hml, hown, hts, hr, hlk, hK, had, hSt⟩ := id C
  intro H locs ls hl hP hS
  unfold fX10_weeks_s0 at hf
  refine lv_iload_n hx hb dX10_weeks_0 rfl (lv_at hl 1 rfl) ?_
  refine lv_iconst (v := 1) hx hb dX10_weeks_1 (by decide) ?_
  refine lv_bipush (v := 20) hx hb dX10_weeks_2 (by decide) ?_
  obtain ⟨q, hq, hf⟩ := bd hf
  refine gcS_i (k := 0) (As := [.int v1, .int 1, .int 20]) (rest := []) hx hb hml hown hts hK hSt hP hS hl.1 (goodS wm_9_17 wm_9_18 wm_1_2 wm_9_19) okX10_within (Nat.le_of_ble_eq_true rfl) (Nat.le_of_ble_eq_true rfl) rfl rfl (Nat.le_of_ble_eq_true rfl) dX10_weeks_4 (kX10_within l D G ad had n  v1 1 20 st q hq) (fun H locs hP hS => ?_)
  exact wX10_weeks_s7 C n v1 v2 q.1 q.2 res hf H locs ls (lv_sub hl [0, 1, 2] rfl) hP hS
def fX10_weeks (n : Nat)  (a1 : Int32) (a2 : Int32) (st : St) : Option (Int32 × St) := fX10_weeks_s0 n a1 a2 st
theorem okX10_weeks : okY yX10_weeks RX10 2 := by unfold okY; decide +kernel
end
set_option maxRecDepth 100000 in
theorem kX10_weeks (l : Launch) (D : va_G) (G : G3) (ad : Nat → Nat) (had : Adr ad) (n : Nat)   (a1 : Int32) (a2 : Int32) (st : St) (res : (Int32 × St)) (hf : fX10_weeks n  a1 a2 st = some res) {sz : Nat} : CtI l yX10_weeks (wsU yX10_weeks cX10_weeks 6 (some .int)) (rmK 6) D G ad sz [.ref (ad 0), .int a1, .int a2] st res := by
  refine Met.ofW (cc := cX10_weeks) (maxL := 6) (ret := (some .int)) (by decide) rfl ?_
  intro p e s m args below meth c s₁ B hml hv
  obtain ⟨rfl, hsz, hP, hK, hSt⟩ := hv
  have hts := atoms_spec (ws := wsU yX10_weeks cX10_weeks 6 (some .int)) B.pre
  have C : Cx p s m _ meth c cX10_weeks 6 wsL_law RX10 (some .int) D G ad := ⟨B.exec, B.bytes, hml, findClass_of_methodNamed B.named, fun w h => hts w (List.mem_cons_of_mem _ h), B.returns, B.notSynchronized, hK, had, hSt⟩
  subst hsz
  have hl := lv_entry ([.ref (ad 0), .int a1, .int a2]) (n := 6) (Nat.le_of_ble_eq_true rfl)
  rw [lg_entry_eq]
  generalize (lg_sl ([.ref (ad 0), .int a1, .int a2]) ++ List.replicate (6 - (lg_sl ([.ref (ad 0), .int a1, .int a2])).length) Slot.unset).toArray = ls at hl ⊢
  exact wX10_weeks_s0 C n  a1 a2   st res hf s.heap [] ls (lv_sub hl [0, 1, 2] rfl) hP va_S.rf
section
variable {p : Program} {l : Launch} {e : Env} {s : State} {m : MethodId} {args : Array Value} {below : List Frame} {meth : Method} {c : Code} {D : va_G} {G : G3} {ad : Nat → Nat}
def fX10_feed_s65 (n : Nat)    (st : St) : Option (Int32 × St) := some (st.1 15 2, st)
set_option maxHeartbeats 4000000 in
set_option maxRecDepth 100000 in
theorem wX10_feed_s65 (C : Cx p s m args meth c cX10_feed 5 wsL_law RX10 (some .int) D G ad) (n : Nat)      (st : St) (res : (Int32 × St))  (hf : fX10_feed_s65 n    st = some res) : At p l e (rmK 1) s m args below meth c D G ad (MQI D G ad below args s res) 5 st [(0, .ref (ad 0))] 65 [] := by
  obtain ⟨hx, hb, hml, hown, hts, hr, hlk, hK, had, hSt⟩ := id C
  intro H locs ls hl hP hS
  unfold fX10_feed_s65 at hf
  refine lv_aload_n hx hb dX10_feed_65 rfl (lv_at hl 0 rfl) ?_
  refine g_getR hx hb hts inlX10 hown hK hP 0 ct_0 rfl 2 (by decide) (hts _ wm_2_0) rfl dX10_feed_66 ?_
  refine g_getI hx hb hts inlX9 hown hK hP 15 ct_15 rfl 2 (by decide) (hts _ wm_25_0) rfl dX10_feed_69 ?_
  exact g_iret hx hb hr hlk hP hS dX10_feed_72 hf
def fX10_feed_s59 (n : Nat) (K35 : Int64 → Int32 → St → Option (Int32 × St))  (v1 : Int64) (v4 : Int32) (st : St) : Option (Int32 × St) := K35 v1 (v4 + (-1)) st
set_option maxHeartbeats 4000000 in
set_option maxRecDepth 100000 in
theorem wX10_feed_s59 (C : Cx p s m args meth c cX10_feed 5 wsL_law RX10 (some .int) D G ad) (n : Nat) (K35 : Int64 → Int32 → St → Option (Int32 × St))  (v1 : Int64) (v4 : Int32)   (st : St) (res : (Int32 × St)) (hK35 : ∀ (v1 : Int64) (v4 : Int32) (st : St), K35 v1 v4 st = some res → At p l e (rmK 1) s m args below meth c D G ad (MQI D G ad below args s res) 5 st [(0, .ref (ad 0)), (1, .long v1), (4, .int v4)] 35 []) (hf : fX10_feed_s59 n K35  v1 v4 st = some res) : At p l e (rmK 1) s m args below meth c D G ad (MQI D G ad below args s res) 5 st [(0, .ref (ad 0)), (1, .long v1), (4, .int v4)] 59 [] := by
  obtain ⟨hx, hb, hml, hown, hts, hr, hlk, hK, had, hSt⟩ := id C
  intro H locs ls hl hP hS
  unfold fX10_feed_s59 at hf
  refine lv_iinc (v := v4 + (-1)) (lv' := [(4, .int (v4 + (-1))), (0, .ref (ad 0)), (1, .long v1)]) hx hb dX10_feed_59 hl (k := 2) rfl rfl (by decide) rfl (fun ls hl => ?_)
  refine lv_goto (tgt := 35) hx hb dX10_feed_62 (by decide) ?_
  exact hK35 v1 (v4 + (-1))  st hf H locs ls (lv_sub hl [1, 2, 0] rfl) hP hS
def fX10_feed_s40 (n : Nat) (K35 : Int64 → Int32 → St → Option (Int32 × St))  (v1 : Int64) (v4 : Int32) (st : St) : Option (Int32 × St) := (fX9_append n ((((v1.toUInt64 >>> ((8 * v4).toInt64.toUInt64 &&& Int64.toUInt64 63)).toInt64).toInt32) &&& 255) st).bind (fun q => fX10_feed_s59 n K35 v1 v4 q.2)
set_option maxHeartbeats 4000000 in
set_option maxRecDepth 100000 in
theorem wX10_feed_s40 (C : Cx p s m args meth c cX10_feed 5 wsL_law RX10 (some .int) D G ad) (n : Nat) (K35 : Int64 → Int32 → St → Option (Int32 × St))  (v1 : Int64) (v4 : Int32)   (st : St) (res : (Int32 × St)) (hK35 : ∀ (v1 : Int64) (v4 : Int32) (st : St), K35 v1 v4 st = some res → At p l e (rmK 1) s m args below meth c D G ad (MQI D G ad below args s res) 5 st [(0, .ref (ad 0)), (1, .long v1), (4, .int v4)] 35 []) (hf : fX10_feed_s40 n K35  v1 v4 st = some res) : At p l e (rmK 1) s m args below meth c D G ad (MQI D G ad below args s res) 5 st [(0, .ref (ad 0)), (1, .long v1), (4, .int v4)] 40 [] := by
  obtain ⟨hx, hb, hml, hown, hts, hr, hlk, hK, had, hSt⟩ := id C
  intro H locs ls hl hP hS
  unfold fX10_feed_s40 at hf
  refine lv_aload_n hx hb dX10_feed_40 rfl (lv_at hl 0 rfl) ?_
  refine g_getR hx hb hts inlX10 hown hK hP 0 ct_0 rfl 2 (by decide) (hts _ wm_2_0) rfl dX10_feed_41 ?_
  refine lv_lload_n hx hb dX10_feed_44 rfl (lv_at hl 1 rfl) ?_
  refine lv_bipush (v := 8) hx hb dX10_feed_45 (by decide) ?_
  refine lv_iload hx hb dX10_feed_47 (lv_at hl 2 rfl) ?_
  refine lv_imul hx hb dX10_feed_49 ?_
  refine lv_lushr hx hb dX10_feed_50 rfl ?_
  refine lv_l2i hx hb dX10_feed_51 rfl ?_
  refine lv_sipush (v := 255) hx hb dX10_feed_52 (by decide) ?_
  refine lv_iand hx hb dX10_feed_55 ?_
  obtain ⟨q, hq, hf⟩ := bd hf
  refine gcV_v (k := 0) (o := 15) (As := [.int ((((v1.toUInt64 >>> ((8 * v4).toInt64.toUInt64 &&& Int64.toUInt64 63)).toInt64).toInt32) &&& 255)]) (rest := []) hx hb hml hown hts hK hSt hP hS hl.1 (goodV wm_25_1 wm_25_2 wm_25_3 wm_1_23 wm_25_4) okX9_append ct_15 rfl rfl (Nat.le_of_ble_eq_true rfl) (Nat.le_of_ble_eq_true rfl) rfl rfl (Nat.le_of_ble_eq_true rfl) dX10_feed_56 (kX9_append l D G ad had n  ((((v1.toUInt64 >>> ((8 * v4).toInt64.toUInt64 &&& Int64.toUInt64 63)).toInt64).toInt32) &&& 255) st q hq) (fun H locs hP hS => ?_)
  exact wX10_feed_s59 C n K35 v1 v4 q.2 res hK35 hf H locs ls (lv_sub hl [0, 1, 2] rfl) hP hS
def fX10_feed_s35 (n : Nat) (K35 : Int64 → Int32 → St → Option (Int32 × St))  (v1 : Int64) (v4 : Int32) (st : St) : Option (Int32 × St) := if v4 < 0 then fX10_feed_s65 n st else fX10_feed_s40 n K35 v1 v4 st
set_option maxHeartbeats 4000000 in
set_option maxRecDepth 100000 in
theorem wX10_feed_s35 (C : Cx p s m args meth c cX10_feed 5 wsL_law RX10 (some .int) D G ad) (n : Nat) (K35 : Int64 → Int32 → St → Option (Int32 × St))  (v1 : Int64) (v4 : Int32)   (st : St) (res : (Int32 × St)) (hK35 : ∀ (v1 : Int64) (v4 : Int32) (st : St), K35 v1 v4 st = some res → At p l e (rmK 1) s m args below meth c D G ad (MQI D G ad below args s res) 5 st [(0, .ref (ad 0)), (1, .long v1), (4, .int v4)] 35 []) (hf : fX10_feed_s35 n K35  v1 v4 st = some res) : At p l e (rmK 1) s m args below meth c D G ad (MQI D G ad below args s res) 5 st [(0, .ref (ad 0)), (1, .long v1), (4, .int v4)] 35 [] := by
  obtain ⟨hx, hb, hml, hown, hts, hr, hlk, hK, had, hSt⟩ := id C
  intro H locs ls hl hP hS
  unfold fX10_feed_s35 at hf
  refine lv_iload hx hb dX10_feed_35 (lv_at hl 2 rfl) ?_
  refine lv_if_lt (tgt := 65) hx hb dX10_feed_37 (by decide) (fun q => ?_) (fun q => ?_)
  · exact wX10_feed_s65 C n st res (it hf q) H locs ls (lv_sub hl [0] rfl) hP hS
  · exact wX10_feed_s40 C n K35 v1 v4 st res hK35 (ie hf q) H locs ls (lv_sub hl [0, 1, 2] rfl) hP hS
def fX10_feed_L35 (n : Nat)   : Nat → Int64 → Int32 → St → Option (Int32 × St)
  | 0, _, _, _ => none
  | k + 1, v1, v4, st => fX10_feed_s35 n (fX10_feed_L35 n k)  v1 v4 st
theorem wX10_feed_L35 (C : Cx p s m args meth c cX10_feed 5 wsL_law RX10 (some .int) D G ad) (n : Nat)    (res : (Int32 × St))  : ∀ (k : Nat) (v1 : Int64) (v4 : Int32)  (st : St), fX10_feed_L35 n k v1 v4 st = some res → At p l e (rmK 1) s m args below meth c D G ad (MQI D G ad below args s res) 5 st [(0, .ref (ad 0)), (1, .long v1), (4, .int v4)] 35 [] := by
  intro k
  induction k with
  | zero => intro v1 v4  st h; exact absurd h (by intro q; cases q)
  | succ k ih => intro v1 v4  st h; exact wX10_feed_s35 C n (fX10_feed_L35 n k)  v1 v4   st res ih h
def fX10_feed_s30 (n : Nat)   (v1 : Int64) (v3 : Int32) (st : St) : Option (Int32 × St) := fX10_feed_L35 n n v1 (v3 - 1) st
set_option maxHeartbeats 4000000 in
set_option maxRecDepth 100000 in
theorem wX10_feed_s30 (C : Cx p s m args meth c cX10_feed 5 wsL_law RX10 (some .int) D G ad) (n : Nat)   (v1 : Int64) (v3 : Int32)   (st : St) (res : (Int32 × St))  (hf : fX10_feed_s30 n   v1 v3 st = some res) : At p l e (rmK 1) s m args below meth c D G ad (MQI D G ad below args s res) 5 st [(0, .ref (ad 0)), (1, .long v1), (3, .int v3)] 30 [] := by
  obtain ⟨hx, hb, hml, hown, hts, hr, hlk, hK, had, hSt⟩ := id C
  intro H locs ls hl hP hS
  unfold fX10_feed_s30 at hf
  refine lv_iload_n hx hb dX10_feed_30 rfl (lv_at hl 2 rfl) ?_
  refine lv_iconst (v := 1) hx hb dX10_feed_31 (by decide) ?_
  refine lv_isub hx hb dX10_feed_32 ?_
  refine lv_istore (lv' := [(4, .int (v3 - 1)), (0, .ref (ad 0)), (1, .long v1), (3, .int v3)]) hx hb dX10_feed_33 hl (by decide) rfl (fun ls hl => ?_)
  exact wX10_feed_L35 C n res n v1 (v3 - 1) st hf H locs ls (lv_sub hl [1, 2, 0] rfl) hP hS
def fX10_feed_s27 (n : Nat)    (st : St) : Option (Int32 × St) := some ((-4), st)
set_option maxHeartbeats 4000000 in
set_option maxRecDepth 100000 in
theorem wX10_feed_s27 (C : Cx p s m args meth c cX10_feed 5 wsL_law RX10 (some .int) D G ad) (n : Nat)      (st : St) (res : (Int32 × St))  (hf : fX10_feed_s27 n    st = some res) : At p l e (rmK 1) s m args below meth c D G ad (MQI D G ad below args s res) 5 st [] 27 [] := by
  obtain ⟨hx, hb, hml, hown, hts, hr, hlk, hK, had, hSt⟩ := id C
  intro H locs ls hl hP hS
  unfold fX10_feed_s27 at hf
  refine lv_bipush (v := (-4)) hx hb dX10_feed_27 (by decide) ?_
  exact g_iret hx hb hr hlk hP hS dX10_feed_29 hf
def fX10_feed_s13 (n : Nat)   (v1 : Int64) (v3 : Int32) (st : St) : Option (Int32 × St) := if ((st.1 15 2) + v3) ≤ 120 then fX10_feed_s30 n v1 v3 st else fX10_feed_s27 n st
set_option maxHeartbeats 4000000 in
set_option maxRecDepth 100000 in
theorem wX10_feed_s13 (C : Cx p s m args meth c cX10_feed 5 wsL_law RX10 (some .int) D G ad) (n : Nat)   (v1 : Int64) (v3 : Int32)   (st : St) (res : (Int32 × St))  (hf : fX10_feed_s13 n   v1 v3 st = some res) : At p l e (rmK 1) s m args below meth c D G ad (MQI D G ad below args s res) 5 st [(0, .ref (ad 0)), (1, .long v1), (3, .int v3)] 13 [] := by
  obtain ⟨hx, hb, hml, hown, hts, hr, hlk, hK, had, hSt⟩ := id C
  intro H locs ls hl hP hS
  unfold fX10_feed_s13 at hf
  refine lv_aload_n hx hb dX10_feed_13 rfl (lv_at hl 0 rfl) ?_
  refine g_getR hx hb hts inlX10 hown hK hP 0 ct_0 rfl 2 (by decide) (hts _ wm_2_0) rfl dX10_feed_14 ?_
  refine g_getI hx hb hts inlX9 hown hK hP 15 ct_15 rfl 2 (by decide) (hts _ wm_25_0) rfl dX10_feed_17 ?_
  refine lv_iload_n hx hb dX10_feed_20 rfl (lv_at hl 2 rfl) ?_
  refine lv_iadd hx hb dX10_feed_21 ?_
  refine lv_bipush (v := 120) hx hb dX10_feed_22 (by decide) ?_
  refine lv_icmp_le (tgt := 30) hx hb dX10_feed_24 (by decide) (fun q => ?_) (fun q => ?_)
  · exact wX10_feed_s30 C n v1 v3 st res (it hf q) H locs ls (lv_sub hl [0, 1, 2] rfl) hP hS
  · exact wX10_feed_s27 C n st res (ie hf q) H locs ls (lv_sub hl [] rfl) hP hS
def fX10_feed_s10 (n : Nat)    (st : St) : Option (Int32 × St) := some ((-2), st)
set_option maxHeartbeats 4000000 in
set_option maxRecDepth 100000 in
theorem wX10_feed_s10 (C : Cx p s m args meth c cX10_feed 5 wsL_law RX10 (some .int) D G ad) (n : Nat)      (st : St) (res : (Int32 × St))  (hf : fX10_feed_s10 n    st = some res) : At p l e (rmK 1) s m args below meth c D G ad (MQI D G ad below args s res) 5 st [] 10 [] := by
  obtain ⟨hx, hb, hml, hown, hts, hr, hlk, hK, had, hSt⟩ := id C
  intro H locs ls hl hP hS
  unfold fX10_feed_s10 at hf
  refine lv_bipush (v := (-2)) hx hb dX10_feed_10 (by decide) ?_
  exact g_iret hx hb hr hlk hP hS dX10_feed_12 hf
def fX10_feed_s7 (n : Nat)   (v1 : Int64) (v3 : Int32) (k0 : Int32) (st : St) : Option (Int32 × St) := if k0 = 0 then fX10_feed_s10 n st else fX10_feed_s13 n v1 v3 st
set_option maxHeartbeats 4000000 in
set_option maxRecDepth 100000 in
theorem wX10_feed_s7 (C : Cx p s m args meth c cX10_feed 5 wsL_law RX10 (some .int) D G ad) (n : Nat)   (v1 : Int64) (v3 : Int32) (k0 : Int32)   (st : St) (res : (Int32 × St))  (hf : fX10_feed_s7 n   v1 v3 k0 st = some res) : At p l e (rmK 1) s m args below meth c D G ad (MQI D G ad below args s res) 5 st [(0, .ref (ad 0)), (1, .long v1), (3, .int v3)] 7 [.int k0] := by
  obtain ⟨hx, hb, hml, hown, hts, hr, hlk, hK, had, hSt⟩ := id C
  intro H locs ls hl hP hS
  unfold fX10_feed_s7 at hf
  refine lv_if_ne (tgt := 13) hx hb dX10_feed_7 (by decide) (fun q => ?_) (fun q => ?_)
  · exact wX10_feed_s13 C n v1 v3 st res (ie hf q) H locs ls (lv_sub hl [0, 1, 2] rfl) hP hS
  · exact wX10_feed_s10 C n st res (it hf q) H locs ls (lv_sub hl [] rfl) hP hS
def fX10_feed_s0 (n : Nat)   (v1 : Int64) (v3 : Int32) (st : St) : Option (Int32 × St) := (fX10_within n v3 1 8 st).bind (fun q => fX10_feed_s7 n v1 v3 q.1 q.2)
set_option maxHeartbeats 4000000 in
set_option maxRecDepth 100000 in
theorem wX10_feed_s0 (C : Cx p s m args meth c cX10_feed 5 wsL_law RX10 (some .int) D G ad) (n : Nat)   (v1 : Int64) (v3 : Int32)   (st : St) (res : (Int32 × St))  (hf : fX10_feed_s0 n   v1 v3 st = some res) : At p l e (rmK 1) s m args below meth c D G ad (MQI D G ad below args s res) 5 st [(0, .ref (ad 0)), (1, .long v1), (3, .int v3)] 0 [] := by
  obtain ⟨hx, hb, hml, hown, hts, hr, hlk, hK, had, hSt⟩ := id C
  intro H locs ls hl hP hS
  unfold fX10_feed_s0 at hf
  refine lv_iload_n hx hb dX10_feed_0 rfl (lv_at hl 2 rfl) ?_
  refine lv_iconst (v := 1) hx hb dX10_feed_1 (by decide) ?_
  refine lv_bipush (v := 8) hx hb dX10_feed_2 (by decide) ?_
  obtain ⟨q, hq, hf⟩ := bd hf
  refine gcS_i (k := 0) (As := [.int v3, .int 1, .int 8]) (rest := []) hx hb hml hown hts hK hSt hP hS hl.1 (goodS wm_9_17 wm_9_18 wm_1_2 wm_9_19) okX10_within (Nat.le_of_ble_eq_true rfl) (Nat.le_of_ble_eq_true rfl) rfl rfl (Nat.le_of_ble_eq_true rfl) dX10_feed_4 (kX10_within l D G ad had n  v3 1 8 st q hq) (fun H locs hP hS => ?_)
  exact wX10_feed_s7 C n v1 v3 q.1 q.2 res hf H locs ls (lv_sub hl [0, 1, 2] rfl) hP hS
def fX10_feed (n : Nat)  (a1 : Int64) (a3 : Int32) (st : St) : Option (Int32 × St) := fX10_feed_s0 n a1 a3 st
theorem okX10_feed : okY yX10_feed RX10 2 := by unfold okY; decide +kernel
end
set_option maxRecDepth 100000 in
theorem kX10_feed (l : Launch) (D : va_G) (G : G3) (ad : Nat → Nat) (had : Adr ad) (n : Nat)   (a1 : Int64) (a3 : Int32) (st : St) (res : (Int32 × St)) (hf : fX10_feed n  a1 a3 st = some res) {sz : Nat} : CtI l yX10_feed (wsU yX10_feed cX10_feed 5 (some .int)) (rmK 1) D G ad sz [.ref (ad 0), .long a1, .int a3] st res := by
  refine Met.ofW (cc := cX10_feed) (maxL := 5) (ret := (some .int)) (by decide) rfl ?_
  intro p e s m args below meth c s₁ B hml hv
  obtain ⟨rfl, hsz, hP, hK, hSt⟩ := hv
  have hts := atoms_spec (ws := wsU yX10_feed cX10_feed 5 (some .int)) B.pre
  have C : Cx p s m _ meth c cX10_feed 5 wsL_law RX10 (some .int) D G ad := ⟨B.exec, B.bytes, hml, findClass_of_methodNamed B.named, fun w h => hts w (List.mem_cons_of_mem _ h), B.returns, B.notSynchronized, hK, had, hSt⟩
  subst hsz
  have hl := lv_entry ([.ref (ad 0), .long a1, .int a3]) (n := 5) (Nat.le_of_ble_eq_true rfl)
  rw [lg_entry_eq]
  generalize (lg_sl ([.ref (ad 0), .long a1, .int a3]) ++ List.replicate (5 - (lg_sl ([.ref (ad 0), .long a1, .int a3])).length) Slot.unset).toArray = ls at hl ⊢
  exact wX10_feed_s0 C n  a1 a3   st res hf s.heap [] ls (lv_sub hl [0, 1, 2] rfl) hP va_S.rf
section
variable {p : Program} {l : Launch} {e : Env} {s : State} {m : MethodId} {args : Array Value} {below : List Frame} {meth : Method} {c : Code} {D : va_G} {G : G3} {ad : Nat → Nat}
def fX10_rule_s69 (n : Nat)   (k0 : Int32) (st : St) : Option (Int32 × St) := some (k0, st)
set_option maxHeartbeats 4000000 in
set_option maxRecDepth 100000 in
theorem wX10_rule_s69 (C : Cx p s m args meth c cX10_rule 2 wsL_law RX10 (some .int) D G ad) (n : Nat)   (k0 : Int32)   (st : St) (res : (Int32 × St))  (hf : fX10_rule_s69 n   k0 st = some res) : At p l e (rmK 34) s m args below meth c D G ad (MQI D G ad below args s res) 2 st [] 69 [.int k0] := by
  obtain ⟨hx, hb, hml, hown, hts, hr, hlk, hK, had, hSt⟩ := id C
  intro H locs ls hl hP hS
  unfold fX10_rule_s69 at hf
  exact g_iret hx hb hr hlk hP hS dX10_rule_69 hf
def fX10_rule_s59 (n : Nat)    (st : St) : Option (Int32 × St) := fX10_rule_s69 n ((-10) - (st.1 15 3)) st
set_option maxHeartbeats 4000000 in
set_option maxRecDepth 100000 in
theorem wX10_rule_s59 (C : Cx p s m args meth c cX10_rule 2 wsL_law RX10 (some .int) D G ad) (n : Nat)      (st : St) (res : (Int32 × St))  (hf : fX10_rule_s59 n    st = some res) : At p l e (rmK 34) s m args below meth c D G ad (MQI D G ad below args s res) 2 st [(0, .ref (ad 0))] 59 [] := by
  obtain ⟨hx, hb, hml, hown, hts, hr, hlk, hK, had, hSt⟩ := id C
  intro H locs ls hl hP hS
  unfold fX10_rule_s59 at hf
  refine lv_bipush (v := (-10)) hx hb dX10_rule_59 (by decide) ?_
  refine lv_aload_n hx hb dX10_rule_61 rfl (lv_at hl 0 rfl) ?_
  refine g_getR hx hb hts inlX10 hown hK hP 0 ct_0 rfl 2 (by decide) (hts _ wm_2_0) rfl dX10_rule_62 ?_
  refine g_getI hx hb hts inlX9 hown hK hP 15 ct_15 rfl 3 (by decide) (hts _ wm_25_20) rfl dX10_rule_65 ?_
  refine lv_isub hx hb dX10_rule_68 ?_
  exact wX10_rule_s69 C n ((-10) - (st.1 15 3)) st res hf H locs ls (lv_sub hl [] rfl) hP hS
def fX10_rule_s56 (n : Nat)   (k0 : Int32) (st : St) : Option (Int32 × St) := fX10_rule_s69 n k0 st
set_option maxHeartbeats 4000000 in
set_option maxRecDepth 100000 in
theorem wX10_rule_s56 (C : Cx p s m args meth c cX10_rule 2 wsL_law RX10 (some .int) D G ad) (n : Nat)   (k0 : Int32)   (st : St) (res : (Int32 × St))  (hf : fX10_rule_s56 n   k0 st = some res) : At p l e (rmK 34) s m args below meth c D G ad (MQI D G ad below args s res) 2 st [] 56 [.int k0] := by
  obtain ⟨hx, hb, hml, hown, hts, hr, hlk, hK, had, hSt⟩ := id C
  intro H locs ls hl hP hS
  unfold fX10_rule_s56 at hf
  refine lv_goto (tgt := 69) hx hb dX10_rule_56 (by decide) ?_
  exact wX10_rule_s69 C n k0 st res hf H locs ls (lv_sub hl [] rfl) hP hS
def fX10_rule_s35 (n : Nat)    (st : St) : Option (Int32 × St) := (fX7_keep n (st.1 15 4) st).bind (fun q => fX10_rule_s56 n q.1 q.2)
set_option maxHeartbeats 4000000 in
set_option maxRecDepth 100000 in
theorem wX10_rule_s35 (C : Cx p s m args meth c cX10_rule 2 wsL_law RX10 (some .int) D G ad) (n : Nat)      (st : St) (res : (Int32 × St))  (hf : fX10_rule_s35 n    st = some res) : At p l e (rmK 34) s m args below meth c D G ad (MQI D G ad below args s res) 2 st [(0, .ref (ad 0))] 35 [] := by
  obtain ⟨hx, hb, hml, hown, hts, hr, hlk, hK, had, hSt⟩ := id C
  intro H locs ls hl hP hS
  unfold fX10_rule_s35 at hf
  refine lv_aload_n hx hb dX10_rule_35 rfl (lv_at hl 0 rfl) ?_
  refine g_getR hx hb hts inlX10 hown hK hP 0 ct_0 rfl 1 (by decide) (hts _ wm_1_20) rfl dX10_rule_36 ?_
  refine lv_aload_n hx hb dX10_rule_39 rfl (lv_at hl 0 rfl) ?_
  refine g_getR hx hb hts inlX10 hown hK hP 0 ct_0 rfl 2 (by decide) (hts _ wm_2_0) rfl dX10_rule_40 ?_
  refine g_getR hx hb hts inlX9 hown hK hP 15 ct_15 rfl 1 (by decide) (hts _ wm_25_18) rfl dX10_rule_43 ?_
  refine lv_aload_n hx hb dX10_rule_46 rfl (lv_at hl 0 rfl) ?_
  refine g_getR hx hb hts inlX10 hown hK hP 0 ct_0 rfl 2 (by decide) (hts _ wm_2_0) rfl dX10_rule_47 ?_
  refine g_getI hx hb hts inlX9 hown hK hP 15 ct_15 rfl 4 (by decide) (hts _ wm_25_19) rfl dX10_rule_50 ?_
  obtain ⟨q, hq, hf⟩ := bd hf
  refine gcV_i (k := 1) (o := 11) (As := [.ref (ad 17), .int (st.1 15 4)]) (rest := []) hx hb hml hown hts hK hSt hP hS hl.1 (goodV wm_29_21 wm_29_22 wm_29_23 wm_1_19 wm_30_0) okX7_keep ct_11 rfl rfl (Nat.le_of_ble_eq_true rfl) (Nat.le_of_ble_eq_true rfl) rfl rfl (Nat.le_of_ble_eq_true rfl) dX10_rule_53 (kX7_keep l D G ad had n  (st.1 15 4) st q hq) (fun H locs hP hS => ?_)
  exact wX10_rule_s56 C n q.1 q.2 res hf H locs ls (lv_sub hl [] rfl) hP hS
def fX10_rule_s31 (n : Nat)   (v1 : Int32) (st : St) : Option (Int32 × St) := if v1 = 0 then fX10_rule_s59 n st else fX10_rule_s35 n st
set_option maxHeartbeats 4000000 in
set_option maxRecDepth 100000 in
theorem wX10_rule_s31 (C : Cx p s m args meth c cX10_rule 2 wsL_law RX10 (some .int) D G ad) (n : Nat)   (v1 : Int32)   (st : St) (res : (Int32 × St))  (hf : fX10_rule_s31 n   v1 st = some res) : At p l e (rmK 34) s m args below meth c D G ad (MQI D G ad below args s res) 2 st [(0, .ref (ad 0)), (1, .int v1)] 31 [] := by
  obtain ⟨hx, hb, hml, hown, hts, hr, hlk, hK, had, hSt⟩ := id C
  intro H locs ls hl hP hS
  unfold fX10_rule_s31 at hf
  refine lv_iload_n hx hb dX10_rule_31 rfl (lv_at hl 1 rfl) ?_
  refine lv_if_eq (tgt := 59) hx hb dX10_rule_32 (by decide) (fun q => ?_) (fun q => ?_)
  · exact wX10_rule_s59 C n st res (it hf q) H locs ls (lv_sub hl [0] rfl) hP hS
  · exact wX10_rule_s35 C n st res (ie hf q) H locs ls (lv_sub hl [0] rfl) hP hS
def fX10_rule_s22 (n : Nat)   (k0 : Int32) (st : St) : Option (Int32 × St) := fX10_rule_s31 n k0 (setI st 15 2 0)
set_option maxHeartbeats 4000000 in
set_option maxRecDepth 100000 in
theorem wX10_rule_s22 (C : Cx p s m args meth c cX10_rule 2 wsL_law RX10 (some .int) D G ad) (n : Nat)   (k0 : Int32)   (st : St) (res : (Int32 × St))  (hf : fX10_rule_s22 n   k0 st = some res) : At p l e (rmK 34) s m args below meth c D G ad (MQI D G ad below args s res) 2 st [(0, .ref (ad 0))] 22 [.int k0] := by
  obtain ⟨hx, hb, hml, hown, hts, hr, hlk, hK, had, hSt⟩ := id C
  intro H locs ls hl hP hS
  unfold fX10_rule_s22 at hf
  refine lv_istore_n (lv' := [(1, .int k0), (0, .ref (ad 0))]) hx hb dX10_rule_22 rfl hl (by decide) rfl (fun ls hl => ?_)
  refine lv_aload_n hx hb dX10_rule_23 rfl (lv_at hl 1 rfl) ?_
  refine g_getR hx hb hts inlX10 hown hK hP 0 ct_0 rfl 2 (by decide) (hts _ wm_2_0) rfl dX10_rule_24 ?_
  refine lv_iconst (v := 0) hx hb dX10_rule_27 (by decide) ?_
  refine g_putI hx hb hts inlX9 tyX9_ok nmX9 hown hK had hP hS 15 ct_15 rfl 2 (by decide) (hts _ wm_25_0) rfl rfl rfl rfl rfl dX10_rule_28 (fun H locs hP hS => ?_)
  exact wX10_rule_s31 C n k0 (setI st 15 2 0) res hf H locs ls (lv_sub hl [1, 0] rfl) hP hS
def fX10_rule_s15 (n : Nat)    (st : St) : Option (Int32 × St) := (fX9_read n st).bind (fun q => fX10_rule_s22 n q.1 q.2)
set_option maxHeartbeats 4000000 in
set_option maxRecDepth 100000 in
theorem wX10_rule_s15 (C : Cx p s m args meth c cX10_rule 2 wsL_law RX10 (some .int) D G ad) (n : Nat)      (st : St) (res : (Int32 × St))  (hf : fX10_rule_s15 n    st = some res) : At p l e (rmK 34) s m args below meth c D G ad (MQI D G ad below args s res) 2 st [(0, .ref (ad 0))] 15 [] := by
  obtain ⟨hx, hb, hml, hown, hts, hr, hlk, hK, had, hSt⟩ := id C
  intro H locs ls hl hP hS
  unfold fX10_rule_s15 at hf
  refine lv_aload_n hx hb dX10_rule_15 rfl (lv_at hl 0 rfl) ?_
  refine g_getR hx hb hts inlX10 hown hK hP 0 ct_0 rfl 2 (by decide) (hts _ wm_2_0) rfl dX10_rule_16 ?_
  obtain ⟨q, hq, hf⟩ := bd hf
  refine gcV_i (k := 33) (o := 15) (As := []) (rest := []) hx hb hml hown hts hK hSt hP hS hl.1 (goodV wm_25_21 wm_25_22 wm_25_23 wm_1_23 wm_26_0) okX9_read ct_15 rfl rfl (Nat.le_of_ble_eq_true rfl) (Nat.le_of_ble_eq_true rfl) rfl rfl (Nat.le_of_ble_eq_true rfl) dX10_rule_19 (kX9_read l D G ad had n   st q hq) (fun H locs hP hS => ?_)
  exact wX10_rule_s22 C n q.1 q.2 res hf H locs ls (lv_sub hl [0] rfl) hP hS
def fX10_rule_s12 (n : Nat)    (st : St) : Option (Int32 × St) := some ((-4), st)
set_option maxHeartbeats 4000000 in
set_option maxRecDepth 100000 in
theorem wX10_rule_s12 (C : Cx p s m args meth c cX10_rule 2 wsL_law RX10 (some .int) D G ad) (n : Nat)      (st : St) (res : (Int32 × St))  (hf : fX10_rule_s12 n    st = some res) : At p l e (rmK 34) s m args below meth c D G ad (MQI D G ad below args s res) 2 st [] 12 [] := by
  obtain ⟨hx, hb, hml, hown, hts, hr, hlk, hK, had, hSt⟩ := id C
  intro H locs ls hl hP hS
  unfold fX10_rule_s12 at hf
  refine lv_bipush (v := (-4)) hx hb dX10_rule_12 (by decide) ?_
  exact g_iret hx hb hr hlk hP hS dX10_rule_14 hf
def fX10_rule_s0 (n : Nat)    (st : St) : Option (Int32 × St) := if (st.1 11 3) < 12 then fX10_rule_s15 n st else fX10_rule_s12 n st
set_option maxHeartbeats 4000000 in
set_option maxRecDepth 100000 in
theorem wX10_rule_s0 (C : Cx p s m args meth c cX10_rule 2 wsL_law RX10 (some .int) D G ad) (n : Nat)      (st : St) (res : (Int32 × St))  (hf : fX10_rule_s0 n    st = some res) : At p l e (rmK 34) s m args below meth c D G ad (MQI D G ad below args s res) 2 st [(0, .ref (ad 0))] 0 [] := by
  obtain ⟨hx, hb, hml, hown, hts, hr, hlk, hK, had, hSt⟩ := id C
  intro H locs ls hl hP hS
  unfold fX10_rule_s0 at hf
  refine lv_aload_n hx hb dX10_rule_0 rfl (lv_at hl 0 rfl) ?_
  refine g_getR hx hb hts inlX10 hown hK hP 0 ct_0 rfl 1 (by decide) (hts _ wm_1_20) rfl dX10_rule_1 ?_
  refine g_getI hx hb hts inlX7 hown hK hP 11 ct_11 rfl 3 (by decide) (hts _ wm_25_17) rfl dX10_rule_4 ?_
  refine lv_bipush (v := 12) hx hb dX10_rule_7 (by decide) ?_
  refine lv_icmp_lt (tgt := 15) hx hb dX10_rule_9 (by decide) (fun q => ?_) (fun q => ?_)
  · exact wX10_rule_s15 C n st res (it hf q) H locs ls (lv_sub hl [0] rfl) hP hS
  · exact wX10_rule_s12 C n st res (ie hf q) H locs ls (lv_sub hl [] rfl) hP hS
def fX10_rule (n : Nat)   (st : St) : Option (Int32 × St) := fX10_rule_s0 n st
theorem okX10_rule : okY yX10_rule RX10 0 := by unfold okY; decide +kernel
end
set_option maxRecDepth 100000 in
theorem kX10_rule (l : Launch) (D : va_G) (G : G3) (ad : Nat → Nat) (had : Adr ad) (n : Nat)    (st : St) (res : (Int32 × St)) (hf : fX10_rule n   st = some res) {sz : Nat} : CtI l yX10_rule (wsU yX10_rule cX10_rule 2 (some .int)) (rmK 34) D G ad sz [.ref (ad 0)] st res := by
  refine Met.ofW (cc := cX10_rule) (maxL := 2) (ret := (some .int)) (by decide) rfl ?_
  intro p e s m args below meth c s₁ B hml hv
  obtain ⟨rfl, hsz, hP, hK, hSt⟩ := hv
  have hts := atoms_spec (ws := wsU yX10_rule cX10_rule 2 (some .int)) B.pre
  have C : Cx p s m _ meth c cX10_rule 2 wsL_law RX10 (some .int) D G ad := ⟨B.exec, B.bytes, hml, findClass_of_methodNamed B.named, fun w h => hts w (List.mem_cons_of_mem _ h), B.returns, B.notSynchronized, hK, had, hSt⟩
  subst hsz
  have hl := lv_entry ([.ref (ad 0)]) (n := 2) (Nat.le_of_ble_eq_true rfl)
  rw [lg_entry_eq]
  generalize (lg_sl ([.ref (ad 0)]) ++ List.replicate (2 - (lg_sl ([.ref (ad 0)])).length) Slot.unset).toArray = ls at hl ⊢
  exact wX10_rule_s0 C n     st res hf s.heap [] ls (lv_sub hl [0] rfl) hP va_S.rf
section
variable {p : Program} {l : Launch} {e : Env} {s : State} {m : MethodId} {args : Array Value} {below : List Frame} {meth : Method} {c : Code} {D : va_G} {G : G3} {ad : Nat → Nat}
def fX10_worth_s41 (n : Nat)   (k0 : Int64) (st : St) : Option (Int64 × St) := some (k0, st)
set_option maxHeartbeats 4000000 in
set_option maxRecDepth 100000 in
theorem wX10_worth_s41 (C : Cx p s m args meth c cX10_worth 3 wsL_law RX10 (some .long) D G ad) (n : Nat)   (k0 : Int64)   (st : St) (res : (Int64 × St))  (hf : fX10_worth_s41 n   k0 st = some res) : At p l e (rmK 4) s m args below meth c D G ad (MQJ D G ad below args s res) 3 st [] 41 [.long k0] := by
  obtain ⟨hx, hb, hml, hown, hts, hr, hlk, hK, had, hSt⟩ := id C
  intro H locs ls hl hP hS
  unfold fX10_worth_s41 at hf
  exact g_lret hx hb hr hlk hP hS dX10_worth_41 hf
def fX10_worth_s38 (n : Nat)    (st : St) : Option (Int64 × St) := fX10_worth_s41 n (-9223372036854775808) st
set_option maxHeartbeats 4000000 in
set_option maxRecDepth 100000 in
theorem wX10_worth_s38 (C : Cx p s m args meth c cX10_worth 3 wsL_law RX10 (some .long) D G ad) (n : Nat)      (st : St) (res : (Int64 × St))  (hf : fX10_worth_s38 n    st = some res) : At p l e (rmK 4) s m args below meth c D G ad (MQJ D G ad below args s res) 3 st [] 38 [] := by
  obtain ⟨hx, hb, hml, hown, hts, hr, hlk, hK, had, hSt⟩ := id C
  intro H locs ls hl hP hS
  unfold fX10_worth_s38 at hf
  refine lv_ldc2 hx hb hown (hts _ wm_14_6) dX10_worth_38 ?_
  exact wX10_worth_s41 C n (-9223372036854775808) st res hf H locs ls (lv_sub hl [] rfl) hP hS
def fX10_worth_s35 (n : Nat)   (k0 : Int64) (st : St) : Option (Int64 × St) := fX10_worth_s41 n k0 st
set_option maxHeartbeats 4000000 in
set_option maxRecDepth 100000 in
theorem wX10_worth_s35 (C : Cx p s m args meth c cX10_worth 3 wsL_law RX10 (some .long) D G ad) (n : Nat)   (k0 : Int64)   (st : St) (res : (Int64 × St))  (hf : fX10_worth_s35 n   k0 st = some res) : At p l e (rmK 4) s m args below meth c D G ad (MQJ D G ad below args s res) 3 st [] 35 [.long k0] := by
  obtain ⟨hx, hb, hml, hown, hts, hr, hlk, hK, had, hSt⟩ := id C
  intro H locs ls hl hP hS
  unfold fX10_worth_s35 at hf
  refine lv_goto (tgt := 41) hx hb dX10_worth_35 (by decide) ?_
  exact wX10_worth_s41 C n k0 st res hf H locs ls (lv_sub hl [] rfl) hP hS
def fX10_worth_s22 (n : Nat)   (v1 : Int32) (v2 : Int32) (st : St) : Option (Int64 × St) := (fX7_valueOf n 53 v1 v2 st).bind (fun q => fX10_worth_s35 n q.1 q.2)
set_option maxHeartbeats 4000000 in
set_option maxRecDepth 100000 in
theorem wX10_worth_s22 (C : Cx p s m args meth c cX10_worth 3 wsL_law RX10 (some .long) D G ad) (n : Nat)   (v1 : Int32) (v2 : Int32)   (st : St) (res : (Int64 × St))  (hf : fX10_worth_s22 n   v1 v2 st = some res) : At p l e (rmK 4) s m args below meth c D G ad (MQJ D G ad below args s res) 3 st [(0, .ref (ad 0)), (1, .int v1), (2, .int v2)] 22 [] := by
  obtain ⟨hx, hb, hml, hown, hts, hr, hlk, hK, had, hSt⟩ := id C
  intro H locs ls hl hP hS
  unfold fX10_worth_s22 at hf
  refine lv_aload_n hx hb dX10_worth_22 rfl (lv_at hl 0 rfl) ?_
  refine g_getR hx hb hts inlX10 hown hK hP 0 ct_0 rfl 1 (by decide) (hts _ wm_1_20) rfl dX10_worth_23 ?_
  refine lv_iload_n hx hb dX10_worth_26 rfl (lv_at hl 1 rfl) ?_
  refine lv_aload_n hx hb dX10_worth_27 rfl (lv_at hl 0 rfl) ?_
  refine g_getR hx hb hts inlX10 hown hK hP 0 ct_0 rfl 11 (by decide) (hts _ wm_3_7) rfl dX10_worth_28 ?_
  refine lv_iload_n hx hb dX10_worth_31 rfl (lv_at hl 2 rfl) ?_
  obtain ⟨q, hq, hf⟩ := bd hf
  refine gcV_j (k := 3) (o := 11) (As := [.int v1, .ref (ad 53), .int v2]) (rest := []) hx hb hml hown hts hK hSt hP hS hl.1 (goodV wm_32_3 wm_20_14 wm_20_15 wm_1_19 wm_20_16) okX7_valueOf ct_11 rfl rfl (Nat.le_of_ble_eq_true rfl) (Nat.le_of_ble_eq_true rfl) rfl rfl (Nat.le_of_ble_eq_true rfl) dX10_worth_32 (kX7_valueOf l D G ad had n 53 isFl_lit_53 v1 v2 st q hq) (fun H locs hP hS => ?_)
  exact wX10_worth_s35 C n q.1 q.2 res hf H locs ls (lv_sub hl [] rfl) hP hS
def fX10_worth_s19 (n : Nat)   (v1 : Int32) (v2 : Int32) (k0 : Int32) (st : St) : Option (Int64 × St) := if k0 = 0 then fX10_worth_s38 n st else fX10_worth_s22 n v1 v2 st
set_option maxHeartbeats 4000000 in
set_option maxRecDepth 100000 in
theorem wX10_worth_s19 (C : Cx p s m args meth c cX10_worth 3 wsL_law RX10 (some .long) D G ad) (n : Nat)   (v1 : Int32) (v2 : Int32) (k0 : Int32)   (st : St) (res : (Int64 × St))  (hf : fX10_worth_s19 n   v1 v2 k0 st = some res) : At p l e (rmK 4) s m args below meth c D G ad (MQJ D G ad below args s res) 3 st [(0, .ref (ad 0)), (1, .int v1), (2, .int v2)] 19 [.int k0] := by
  obtain ⟨hx, hb, hml, hown, hts, hr, hlk, hK, had, hSt⟩ := id C
  intro H locs ls hl hP hS
  unfold fX10_worth_s19 at hf
  refine lv_if_eq (tgt := 38) hx hb dX10_worth_19 (by decide) (fun q => ?_) (fun q => ?_)
  · exact wX10_worth_s38 C n st res (it hf q) H locs ls (lv_sub hl [] rfl) hP hS
  · exact wX10_worth_s22 C n v1 v2 st res (ie hf q) H locs ls (lv_sub hl [0, 1, 2] rfl) hP hS
def fX10_worth_s11 (n : Nat)   (v1 : Int32) (v2 : Int32) (st : St) : Option (Int64 × St) := (fX6_has n v2 st).bind (fun q => fX10_worth_s19 n v1 v2 q.1 q.2)
set_option maxHeartbeats 4000000 in
set_option maxRecDepth 100000 in
theorem wX10_worth_s11 (C : Cx p s m args meth c cX10_worth 3 wsL_law RX10 (some .long) D G ad) (n : Nat)   (v1 : Int32) (v2 : Int32)   (st : St) (res : (Int64 × St))  (hf : fX10_worth_s11 n   v1 v2 st = some res) : At p l e (rmK 4) s m args below meth c D G ad (MQJ D G ad below args s res) 3 st [(0, .ref (ad 0)), (1, .int v1), (2, .int v2)] 11 [] := by
  obtain ⟨hx, hb, hml, hown, hts, hr, hlk, hK, had, hSt⟩ := id C
  intro H locs ls hl hP hS
  unfold fX10_worth_s11 at hf
  refine lv_aload_n hx hb dX10_worth_11 rfl (lv_at hl 0 rfl) ?_
  refine g_getR hx hb hts inlX10 hown hK hP 0 ct_0 rfl 0 (by decide) (hts _ wm_1_16) rfl dX10_worth_12 ?_
  refine lv_iload_n hx hb dX10_worth_15 rfl (lv_at hl 2 rfl) ?_
  obtain ⟨q, hq, hf⟩ := bd hf
  refine gcV_i (k := 0) (o := 1) (As := [.int v2]) (rest := []) hx hb hml hown hts hK hSt hP hS hl.1 (goodV wm_9_12 wm_9_13 wm_9_14 wm_1_15 wm_9_15) okX6_has ct_1 rfl rfl (Nat.le_of_ble_eq_true rfl) (Nat.le_of_ble_eq_true rfl) rfl rfl (Nat.le_of_ble_eq_true rfl) dX10_worth_16 (kX6_has l D G ad had n  v2 st q hq) (fun H locs hP hS => ?_)
  exact wX10_worth_s19 C n v1 v2 q.1 q.2 res hf H locs ls (lv_sub hl [0, 1, 2] rfl) hP hS
def fX10_worth_s8 (n : Nat)   (v1 : Int32) (v2 : Int32) (k0 : Int32) (st : St) : Option (Int64 × St) := if k0 = 0 then fX10_worth_s38 n st else fX10_worth_s11 n v1 v2 st
set_option maxHeartbeats 4000000 in
set_option maxRecDepth 100000 in
theorem wX10_worth_s8 (C : Cx p s m args meth c cX10_worth 3 wsL_law RX10 (some .long) D G ad) (n : Nat)   (v1 : Int32) (v2 : Int32) (k0 : Int32)   (st : St) (res : (Int64 × St))  (hf : fX10_worth_s8 n   v1 v2 k0 st = some res) : At p l e (rmK 4) s m args below meth c D G ad (MQJ D G ad below args s res) 3 st [(0, .ref (ad 0)), (1, .int v1), (2, .int v2)] 8 [.int k0] := by
  obtain ⟨hx, hb, hml, hown, hts, hr, hlk, hK, had, hSt⟩ := id C
  intro H locs ls hl hP hS
  unfold fX10_worth_s8 at hf
  refine lv_if_eq (tgt := 38) hx hb dX10_worth_8 (by decide) (fun q => ?_) (fun q => ?_)
  · exact wX10_worth_s38 C n st res (it hf q) H locs ls (lv_sub hl [] rfl) hP hS
  · exact wX10_worth_s11 C n v1 v2 st res (ie hf q) H locs ls (lv_sub hl [0, 1, 2] rfl) hP hS
def fX10_worth_s0 (n : Nat)   (v1 : Int32) (v2 : Int32) (st : St) : Option (Int64 × St) := (fX7_has n v1 st).bind (fun q => fX10_worth_s8 n v1 v2 q.1 q.2)
set_option maxHeartbeats 4000000 in
set_option maxRecDepth 100000 in
theorem wX10_worth_s0 (C : Cx p s m args meth c cX10_worth 3 wsL_law RX10 (some .long) D G ad) (n : Nat)   (v1 : Int32) (v2 : Int32)   (st : St) (res : (Int64 × St))  (hf : fX10_worth_s0 n   v1 v2 st = some res) : At p l e (rmK 4) s m args below meth c D G ad (MQJ D G ad below args s res) 3 st [(0, .ref (ad 0)), (1, .int v1), (2, .int v2)] 0 [] := by
  obtain ⟨hx, hb, hml, hown, hts, hr, hlk, hK, had, hSt⟩ := id C
  intro H locs ls hl hP hS
  unfold fX10_worth_s0 at hf
  refine lv_aload_n hx hb dX10_worth_0 rfl (lv_at hl 0 rfl) ?_
  refine g_getR hx hb hts inlX10 hown hK hP 0 ct_0 rfl 1 (by decide) (hts _ wm_1_20) rfl dX10_worth_1 ?_
  refine lv_iload_n hx hb dX10_worth_4 rfl (lv_at hl 1 rfl) ?_
  obtain ⟨q, hq, hf⟩ := bd hf
  refine gcV_i (k := 0) (o := 11) (As := [.int v1]) (rest := []) hx hb hml hown hts hK hSt hP hS hl.1 (goodV wm_11_19 wm_11_20 wm_11_21 wm_1_19 wm_11_22) okX7_has ct_11 rfl rfl (Nat.le_of_ble_eq_true rfl) (Nat.le_of_ble_eq_true rfl) rfl rfl (Nat.le_of_ble_eq_true rfl) dX10_worth_5 (kX7_has l D G ad had n  v1 st q hq) (fun H locs hP hS => ?_)
  exact wX10_worth_s8 C n v1 v2 q.1 q.2 res hf H locs ls (lv_sub hl [0, 1, 2] rfl) hP hS
def fX10_worth (n : Nat)  (a1 : Int32) (a2 : Int32) (st : St) : Option (Int64 × St) := fX10_worth_s0 n a1 a2 st
theorem okX10_worth : okY yX10_worth RX10 2 := by unfold okY; decide +kernel
end
set_option maxRecDepth 100000 in
theorem kX10_worth (l : Launch) (D : va_G) (G : G3) (ad : Nat → Nat) (had : Adr ad) (n : Nat)   (a1 : Int32) (a2 : Int32) (st : St) (res : (Int64 × St)) (hf : fX10_worth n  a1 a2 st = some res) {sz : Nat} : CtJ l yX10_worth (wsU yX10_worth cX10_worth 3 (some .long)) (rmK 4) D G ad sz [.ref (ad 0), .int a1, .int a2] st res := by
  refine Met.ofW (cc := cX10_worth) (maxL := 3) (ret := (some .long)) (by decide) rfl ?_
  intro p e s m args below meth c s₁ B hml hv
  obtain ⟨rfl, hsz, hP, hK, hSt⟩ := hv
  have hts := atoms_spec (ws := wsU yX10_worth cX10_worth 3 (some .long)) B.pre
  have C : Cx p s m _ meth c cX10_worth 3 wsL_law RX10 (some .long) D G ad := ⟨B.exec, B.bytes, hml, findClass_of_methodNamed B.named, fun w h => hts w (List.mem_cons_of_mem _ h), B.returns, B.notSynchronized, hK, had, hSt⟩
  subst hsz
  have hl := lv_entry ([.ref (ad 0), .int a1, .int a2]) (n := 3) (Nat.le_of_ble_eq_true rfl)
  rw [lg_entry_eq]
  generalize (lg_sl ([.ref (ad 0), .int a1, .int a2]) ++ List.replicate (3 - (lg_sl ([.ref (ad 0), .int a1, .int a2])).length) Slot.unset).toArray = ls at hl ⊢
  exact wX10_worth_s0 C n  a1 a2   st res hf s.heap [] ls (lv_sub hl [0, 1, 2] rfl) hP va_S.rf
section
variable {p : Program} {l : Launch} {e : Env} {s : State} {m : MethodId} {args : Array Value} {below : List Frame} {meth : Method} {c : Code} {D : va_G} {G : G3} {ad : Nat → Nat}
def fX10_swings_s37 (n : Nat)   (k0 : Int32) (st : St) : Option (Int32 × St) := if zb k0 = true then (some (k0, st)) else none
set_option maxHeartbeats 4000000 in
set_option maxRecDepth 100000 in
theorem wX10_swings_s37 (C : Cx p s m args meth c cX10_swings 3 wsL_law RX10 (some .boolean) D G ad) (n : Nat)   (k0 : Int32)   (st : St) (res : (Int32 × St))  (hf : fX10_swings_s37 n   k0 st = some res) : At p l e (rmK 1) s m args below meth c D G ad (MQI D G ad below args s res) 3 st [] 37 [.int k0] := by
  obtain ⟨hx, hb, hml, hown, hts, hr, hlk, hK, had, hSt⟩ := id C
  intro H locs ls hl hP hS
  unfold fX10_swings_s37 at hf
  obtain ⟨gz, hf⟩ := gd hf
  exact g_zret hx hb hr hlk hP hS (zb_of gz) dX10_swings_37 hf
def fX10_swings_s36 (n : Nat)    (st : St) : Option (Int32 × St) := fX10_swings_s37 n 0 st
set_option maxHeartbeats 4000000 in
set_option maxRecDepth 100000 in
theorem wX10_swings_s36 (C : Cx p s m args meth c cX10_swings 3 wsL_law RX10 (some .boolean) D G ad) (n : Nat)      (st : St) (res : (Int32 × St))  (hf : fX10_swings_s36 n    st = some res) : At p l e (rmK 1) s m args below meth c D G ad (MQI D G ad below args s res) 3 st [] 36 [] := by
  obtain ⟨hx, hb, hml, hown, hts, hr, hlk, hK, had, hSt⟩ := id C
  intro H locs ls hl hP hS
  unfold fX10_swings_s36 at hf
  refine lv_iconst (v := 0) hx hb dX10_swings_36 (by decide) ?_
  exact wX10_swings_s37 C n 0 st res hf H locs ls (lv_sub hl [] rfl) hP hS
def fX10_swings_s32 (n : Nat)    (st : St) : Option (Int32 × St) := fX10_swings_s37 n 1 st
set_option maxHeartbeats 4000000 in
set_option maxRecDepth 100000 in
theorem wX10_swings_s32 (C : Cx p s m args meth c cX10_swings 3 wsL_law RX10 (some .boolean) D G ad) (n : Nat)      (st : St) (res : (Int32 × St))  (hf : fX10_swings_s32 n    st = some res) : At p l e (rmK 1) s m args below meth c D G ad (MQI D G ad below args s res) 3 st [] 32 [] := by
  obtain ⟨hx, hb, hml, hown, hts, hr, hlk, hK, had, hSt⟩ := id C
  intro H locs ls hl hP hS
  unfold fX10_swings_s32 at hf
  refine lv_iconst (v := 1) hx hb dX10_swings_32 (by decide) ?_
  refine lv_goto (tgt := 37) hx hb dX10_swings_33 (by decide) ?_
  exact wX10_swings_s37 C n 1 st res hf H locs ls (lv_sub hl [] rfl) hP hS
def fX10_swings_s21 (n : Nat)   (v2 : Int32) (st : St) : Option (Int32 × St) := if (st.1 53 10) < v2 then fX10_swings_s36 n st else fX10_swings_s32 n st
set_option maxHeartbeats 4000000 in
set_option maxRecDepth 100000 in
theorem wX10_swings_s21 (C : Cx p s m args meth c cX10_swings 3 wsL_law RX10 (some .boolean) D G ad) (n : Nat)   (v2 : Int32)   (st : St) (res : (Int32 × St))  (hf : fX10_swings_s21 n   v2 st = some res) : At p l e (rmK 1) s m args below meth c D G ad (MQI D G ad below args s res) 3 st [(0, .ref (ad 0)), (2, .int v2)] 21 [] := by
  obtain ⟨hx, hb, hml, hown, hts, hr, hlk, hK, had, hSt⟩ := id C
  intro H locs ls hl hP hS
  unfold fX10_swings_s21 at hf
  refine lv_iload_n hx hb dX10_swings_21 rfl (lv_at hl 1 rfl) ?_
  refine lv_aload_n hx hb dX10_swings_22 rfl (lv_at hl 0 rfl) ?_
  refine g_getR hx hb hts inlX10 hown hK hP 0 ct_0 rfl 11 (by decide) (hts _ wm_3_7) rfl dX10_swings_23 ?_
  refine g_getI hx hb hts inlX1 hown hK hP 53 ct_53 rfl 10 (by decide) (hts _ wm_9_10) rfl dX10_swings_26 ?_
  refine lv_icmp_gt (tgt := 36) hx hb dX10_swings_29 (by decide) (fun q => ?_) (fun q => ?_)
  · exact wX10_swings_s36 C n st res (it hf q) H locs ls (lv_sub hl [] rfl) hP hS
  · exact wX10_swings_s32 C n st res (ie hf q) H locs ls (lv_sub hl [] rfl) hP hS
def fX10_swings_s18 (n : Nat)   (v2 : Int32) (k0 : Int32) (st : St) : Option (Int32 × St) := if k0 = 0 then fX10_swings_s36 n st else fX10_swings_s21 n v2 st
set_option maxHeartbeats 4000000 in
set_option maxRecDepth 100000 in
theorem wX10_swings_s18 (C : Cx p s m args meth c cX10_swings 3 wsL_law RX10 (some .boolean) D G ad) (n : Nat)   (v2 : Int32) (k0 : Int32)   (st : St) (res : (Int32 × St))  (hf : fX10_swings_s18 n   v2 k0 st = some res) : At p l e (rmK 1) s m args below meth c D G ad (MQI D G ad below args s res) 3 st [(0, .ref (ad 0)), (2, .int v2)] 18 [.int k0] := by
  obtain ⟨hx, hb, hml, hown, hts, hr, hlk, hK, had, hSt⟩ := id C
  intro H locs ls hl hP hS
  unfold fX10_swings_s18 at hf
  refine lv_if_eq (tgt := 36) hx hb dX10_swings_18 (by decide) (fun q => ?_) (fun q => ?_)
  · exact wX10_swings_s36 C n st res (it hf q) H locs ls (lv_sub hl [] rfl) hP hS
  · exact wX10_swings_s21 C n v2 st res (ie hf q) H locs ls (lv_sub hl [0, 1] rfl) hP hS
def fX10_swings_s11 (n : Nat)   (v2 : Int32) (st : St) : Option (Int32 × St) := (fX10_within n v2 2 40 st).bind (fun q => fX10_swings_s18 n v2 q.1 q.2)
set_option maxHeartbeats 4000000 in
set_option maxRecDepth 100000 in
theorem wX10_swings_s11 (C : Cx p s m args meth c cX10_swings 3 wsL_law RX10 (some .boolean) D G ad) (n : Nat)   (v2 : Int32)   (st : St) (res : (Int32 × St))  (hf : fX10_swings_s11 n   v2 st = some res) : At p l e (rmK 1) s m args below meth c D G ad (MQI D G ad below args s res) 3 st [(0, .ref (ad 0)), (2, .int v2)] 11 [] := by
  obtain ⟨hx, hb, hml, hown, hts, hr, hlk, hK, had, hSt⟩ := id C
  intro H locs ls hl hP hS
  unfold fX10_swings_s11 at hf
  refine lv_iload_n hx hb dX10_swings_11 rfl (lv_at hl 1 rfl) ?_
  refine lv_iconst (v := 2) hx hb dX10_swings_12 (by decide) ?_
  refine lv_bipush (v := 40) hx hb dX10_swings_13 (by decide) ?_
  obtain ⟨q, hq, hf⟩ := bd hf
  refine gcS_i (k := 0) (As := [.int v2, .int 2, .int 40]) (rest := []) hx hb hml hown hts hK hSt hP hS hl.1 (goodS wm_9_17 wm_9_18 wm_1_2 wm_9_19) okX10_within (Nat.le_of_ble_eq_true rfl) (Nat.le_of_ble_eq_true rfl) rfl rfl (Nat.le_of_ble_eq_true rfl) dX10_swings_15 (kX10_within l D G ad had n  v2 2 40 st q hq) (fun H locs hP hS => ?_)
  exact wX10_swings_s18 C n v2 q.1 q.2 res hf H locs ls (lv_sub hl [0, 1] rfl) hP hS
def fX10_swings_s8 (n : Nat)   (v2 : Int32) (k0 : Int32) (st : St) : Option (Int32 × St) := if k0 = 0 then fX10_swings_s36 n st else fX10_swings_s11 n v2 st
set_option maxHeartbeats 4000000 in
set_option maxRecDepth 100000 in
theorem wX10_swings_s8 (C : Cx p s m args meth c cX10_swings 3 wsL_law RX10 (some .boolean) D G ad) (n : Nat)   (v2 : Int32) (k0 : Int32)   (st : St) (res : (Int32 × St))  (hf : fX10_swings_s8 n   v2 k0 st = some res) : At p l e (rmK 1) s m args below meth c D G ad (MQI D G ad below args s res) 3 st [(0, .ref (ad 0)), (2, .int v2)] 8 [.int k0] := by
  obtain ⟨hx, hb, hml, hown, hts, hr, hlk, hK, had, hSt⟩ := id C
  intro H locs ls hl hP hS
  unfold fX10_swings_s8 at hf
  refine lv_if_eq (tgt := 36) hx hb dX10_swings_8 (by decide) (fun q => ?_) (fun q => ?_)
  · exact wX10_swings_s36 C n st res (it hf q) H locs ls (lv_sub hl [] rfl) hP hS
  · exact wX10_swings_s11 C n v2 st res (ie hf q) H locs ls (lv_sub hl [0, 1] rfl) hP hS
def fX10_swings_s0 (n : Nat)   (v1 : Int32) (v2 : Int32) (st : St) : Option (Int32 × St) := (fX6_has n v1 st).bind (fun q => fX10_swings_s8 n v2 q.1 q.2)
set_option maxHeartbeats 4000000 in
set_option maxRecDepth 100000 in
theorem wX10_swings_s0 (C : Cx p s m args meth c cX10_swings 3 wsL_law RX10 (some .boolean) D G ad) (n : Nat)   (v1 : Int32) (v2 : Int32)   (st : St) (res : (Int32 × St))  (hf : fX10_swings_s0 n   v1 v2 st = some res) : At p l e (rmK 1) s m args below meth c D G ad (MQI D G ad below args s res) 3 st [(0, .ref (ad 0)), (1, .int v1), (2, .int v2)] 0 [] := by
  obtain ⟨hx, hb, hml, hown, hts, hr, hlk, hK, had, hSt⟩ := id C
  intro H locs ls hl hP hS
  unfold fX10_swings_s0 at hf
  refine lv_aload_n hx hb dX10_swings_0 rfl (lv_at hl 0 rfl) ?_
  refine g_getR hx hb hts inlX10 hown hK hP 0 ct_0 rfl 0 (by decide) (hts _ wm_1_16) rfl dX10_swings_1 ?_
  refine lv_iload_n hx hb dX10_swings_4 rfl (lv_at hl 1 rfl) ?_
  obtain ⟨q, hq, hf⟩ := bd hf
  refine gcV_i (k := 0) (o := 1) (As := [.int v1]) (rest := []) hx hb hml hown hts hK hSt hP hS hl.1 (goodV wm_9_12 wm_9_13 wm_9_14 wm_1_15 wm_9_15) okX6_has ct_1 rfl rfl (Nat.le_of_ble_eq_true rfl) (Nat.le_of_ble_eq_true rfl) rfl rfl (Nat.le_of_ble_eq_true rfl) dX10_swings_5 (kX6_has l D G ad had n  v1 st q hq) (fun H locs hP hS => ?_)
  exact wX10_swings_s8 C n v2 q.1 q.2 res hf H locs ls (lv_sub hl [0, 2] rfl) hP hS
def fX10_swings (n : Nat)  (a1 : Int32) (a2 : Int32) (st : St) : Option (Int32 × St) := fX10_swings_s0 n a1 a2 st
theorem okX10_swings : okY yX10_swings RX10 2 := by unfold okY; decide +kernel
end
set_option maxRecDepth 100000 in
theorem kX10_swings (l : Launch) (D : va_G) (G : G3) (ad : Nat → Nat) (had : Adr ad) (n : Nat)   (a1 : Int32) (a2 : Int32) (st : St) (res : (Int32 × St)) (hf : fX10_swings n  a1 a2 st = some res) {sz : Nat} : CtI l yX10_swings (wsU yX10_swings cX10_swings 3 (some .boolean)) (rmK 1) D G ad sz [.ref (ad 0), .int a1, .int a2] st res := by
  refine Met.ofW (cc := cX10_swings) (maxL := 3) (ret := (some .boolean)) (by decide) rfl ?_
  intro p e s m args below meth c s₁ B hml hv
  obtain ⟨rfl, hsz, hP, hK, hSt⟩ := hv
  have hts := atoms_spec (ws := wsU yX10_swings cX10_swings 3 (some .boolean)) B.pre
  have C : Cx p s m _ meth c cX10_swings 3 wsL_law RX10 (some .boolean) D G ad := ⟨B.exec, B.bytes, hml, findClass_of_methodNamed B.named, fun w h => hts w (List.mem_cons_of_mem _ h), B.returns, B.notSynchronized, hK, had, hSt⟩
  subst hsz
  have hl := lv_entry ([.ref (ad 0), .int a1, .int a2]) (n := 3) (Nat.le_of_ble_eq_true rfl)
  rw [lg_entry_eq]
  generalize (lg_sl ([.ref (ad 0), .int a1, .int a2]) ++ List.replicate (3 - (lg_sl ([.ref (ad 0), .int a1, .int a2])).length) Slot.unset).toArray = ls at hl ⊢
  exact wX10_swings_s0 C n  a1 a2   st res hf s.heap [] ls (lv_sub hl [0, 1, 2] rfl) hP va_S.rf
section
variable {p : Program} {l : Launch} {e : Env} {s : State} {m : MethodId} {args : Array Value} {below : List Frame} {meth : Method} {c : Code} {D : va_G} {G : G3} {ad : Nat → Nat}
def fX10_swing_s41 (n : Nat)   (k0 : Int64) (st : St) : Option (Int64 × St) := some (k0, st)
set_option maxHeartbeats 4000000 in
set_option maxRecDepth 100000 in
theorem wX10_swing_s41 (C : Cx p s m args meth c cX10_swing 4 wsL_law RX10 (some .long) D G ad) (n : Nat)   (k0 : Int64)   (st : St) (res : (Int64 × St))  (hf : fX10_swing_s41 n   k0 st = some res) : At p l e (rmK 2) s m args below meth c D G ad (MQJ D G ad below args s res) 4 st [] 41 [.long k0] := by
  obtain ⟨hx, hb, hml, hown, hts, hr, hlk, hK, had, hSt⟩ := id C
  intro H locs ls hl hP hS
  unfold fX10_swing_s41 at hf
  exact g_lret hx hb hr hlk hP hS dX10_swing_41 hf
def fX10_swing_s38 (n : Nat)    (st : St) : Option (Int64 × St) := fX10_swing_s41 n (-9223372036854775808) st
set_option maxHeartbeats 4000000 in
set_option maxRecDepth 100000 in
theorem wX10_swing_s38 (C : Cx p s m args meth c cX10_swing 4 wsL_law RX10 (some .long) D G ad) (n : Nat)      (st : St) (res : (Int64 × St))  (hf : fX10_swing_s38 n    st = some res) : At p l e (rmK 2) s m args below meth c D G ad (MQJ D G ad below args s res) 4 st [] 38 [] := by
  obtain ⟨hx, hb, hml, hown, hts, hr, hlk, hK, had, hSt⟩ := id C
  intro H locs ls hl hP hS
  unfold fX10_swing_s38 at hf
  refine lv_ldc2 hx hb hown (hts _ wm_14_6) dX10_swing_38 ?_
  exact wX10_swing_s41 C n (-9223372036854775808) st res hf H locs ls (lv_sub hl [] rfl) hP hS
def fX10_swing_s35 (n : Nat)   (k0 : Int64) (st : St) : Option (Int64 × St) := fX10_swing_s41 n k0 st
set_option maxHeartbeats 4000000 in
set_option maxRecDepth 100000 in
theorem wX10_swing_s35 (C : Cx p s m args meth c cX10_swing 4 wsL_law RX10 (some .long) D G ad) (n : Nat)   (k0 : Int64)   (st : St) (res : (Int64 × St))  (hf : fX10_swing_s35 n   k0 st = some res) : At p l e (rmK 2) s m args below meth c D G ad (MQJ D G ad below args s res) 4 st [] 35 [.long k0] := by
  obtain ⟨hx, hb, hml, hown, hts, hr, hlk, hK, had, hSt⟩ := id C
  intro H locs ls hl hP hS
  unfold fX10_swing_s35 at hf
  refine lv_goto (tgt := 41) hx hb dX10_swing_35 (by decide) ?_
  exact wX10_swing_s41 C n k0 st res hf H locs ls (lv_sub hl [] rfl) hP hS
def fX10_swing_s18 (n : Nat)   (v1 : Int32) (v2 : Int32) (v3 : Int32) (st : St) : Option (Int64 × St) := (fX5_spread n v1 v2 v3 (st.1 53 10) st).bind (fun q => fX10_swing_s35 n q.1 q.2)
set_option maxHeartbeats 4000000 in
set_option maxRecDepth 100000 in
theorem wX10_swing_s18 (C : Cx p s m args meth c cX10_swing 4 wsL_law RX10 (some .long) D G ad) (n : Nat)   (v1 : Int32) (v2 : Int32) (v3 : Int32)   (st : St) (res : (Int64 × St))  (hf : fX10_swing_s18 n   v1 v2 v3 st = some res) : At p l e (rmK 2) s m args below meth c D G ad (MQJ D G ad below args s res) 4 st [(0, .ref (ad 0)), (1, .int v1), (2, .int v2), (3, .int v3)] 18 [] := by
  obtain ⟨hx, hb, hml, hown, hts, hr, hlk, hK, had, hSt⟩ := id C
  intro H locs ls hl hP hS
  unfold fX10_swing_s18 at hf
  refine lv_aload_n hx hb dX10_swing_18 rfl (lv_at hl 0 rfl) ?_
  refine g_getR hx hb hts inlX10 hown hK hP 0 ct_0 rfl 4 (by decide) (hts _ wm_2_8) rfl dX10_swing_19 ?_
  refine lv_iload_n hx hb dX10_swing_22 rfl (lv_at hl 1 rfl) ?_
  refine lv_iload_n hx hb dX10_swing_23 rfl (lv_at hl 2 rfl) ?_
  refine lv_iload_n hx hb dX10_swing_24 rfl (lv_at hl 3 rfl) ?_
  refine lv_aload_n hx hb dX10_swing_25 rfl (lv_at hl 0 rfl) ?_
  refine g_getR hx hb hts inlX10 hown hK hP 0 ct_0 rfl 11 (by decide) (hts _ wm_3_7) rfl dX10_swing_26 ?_
  refine g_getI hx hb hts inlX1 hown hK hP 53 ct_53 rfl 10 (by decide) (hts _ wm_9_10) rfl dX10_swing_29 ?_
  obtain ⟨q, hq, hf⟩ := bd hf
  refine gcV_j (k := 1) (o := 21) (As := [.int v1, .int v2, .int v3, .int (st.1 53 10)]) (rest := []) hx hb hml hown hts hK hSt hP hS hl.1 (goodV wm_32_16 wm_32_17 wm_32_18 wm_2_7 wm_32_19) okX5_spread ct_21 rfl rfl (Nat.le_of_ble_eq_true rfl) (Nat.le_of_ble_eq_true rfl) rfl rfl (Nat.le_of_ble_eq_true rfl) dX10_swing_32 (kX5_spread l D G ad had n  v1 v2 v3 (st.1 53 10) st q hq) (fun H locs hP hS => ?_)
  exact wX10_swing_s35 C n q.1 q.2 res hf H locs ls (lv_sub hl [] rfl) hP hS
def fX10_swing_s15 (n : Nat)   (v1 : Int32) (v2 : Int32) (v3 : Int32) (k0 : Int32) (st : St) : Option (Int64 × St) := if k0 = 0 then fX10_swing_s38 n st else fX10_swing_s18 n v1 v2 v3 st
set_option maxHeartbeats 4000000 in
set_option maxRecDepth 100000 in
theorem wX10_swing_s15 (C : Cx p s m args meth c cX10_swing 4 wsL_law RX10 (some .long) D G ad) (n : Nat)   (v1 : Int32) (v2 : Int32) (v3 : Int32) (k0 : Int32)   (st : St) (res : (Int64 × St))  (hf : fX10_swing_s15 n   v1 v2 v3 k0 st = some res) : At p l e (rmK 2) s m args below meth c D G ad (MQJ D G ad below args s res) 4 st [(0, .ref (ad 0)), (1, .int v1), (2, .int v2), (3, .int v3)] 15 [.int k0] := by
  obtain ⟨hx, hb, hml, hown, hts, hr, hlk, hK, had, hSt⟩ := id C
  intro H locs ls hl hP hS
  unfold fX10_swing_s15 at hf
  refine lv_if_eq (tgt := 38) hx hb dX10_swing_15 (by decide) (fun q => ?_) (fun q => ?_)
  · exact wX10_swing_s38 C n st res (it hf q) H locs ls (lv_sub hl [] rfl) hP hS
  · exact wX10_swing_s18 C n v1 v2 v3 st res (ie hf q) H locs ls (lv_sub hl [0, 1, 2, 3] rfl) hP hS
def fX10_swing_s9 (n : Nat)   (v1 : Int32) (v2 : Int32) (v3 : Int32) (st : St) : Option (Int64 × St) := (fX10_within n v2 0 1 st).bind (fun q => fX10_swing_s15 n v1 v2 v3 q.1 q.2)
set_option maxHeartbeats 4000000 in
set_option maxRecDepth 100000 in
theorem wX10_swing_s9 (C : Cx p s m args meth c cX10_swing 4 wsL_law RX10 (some .long) D G ad) (n : Nat)   (v1 : Int32) (v2 : Int32) (v3 : Int32)   (st : St) (res : (Int64 × St))  (hf : fX10_swing_s9 n   v1 v2 v3 st = some res) : At p l e (rmK 2) s m args below meth c D G ad (MQJ D G ad below args s res) 4 st [(0, .ref (ad 0)), (1, .int v1), (2, .int v2), (3, .int v3)] 9 [] := by
  obtain ⟨hx, hb, hml, hown, hts, hr, hlk, hK, had, hSt⟩ := id C
  intro H locs ls hl hP hS
  unfold fX10_swing_s9 at hf
  refine lv_iload_n hx hb dX10_swing_9 rfl (lv_at hl 2 rfl) ?_
  refine lv_iconst (v := 0) hx hb dX10_swing_10 (by decide) ?_
  refine lv_iconst (v := 1) hx hb dX10_swing_11 (by decide) ?_
  obtain ⟨q, hq, hf⟩ := bd hf
  refine gcS_i (k := 0) (As := [.int v2, .int 0, .int 1]) (rest := []) hx hb hml hown hts hK hSt hP hS hl.1 (goodS wm_9_17 wm_9_18 wm_1_2 wm_9_19) okX10_within (Nat.le_of_ble_eq_true rfl) (Nat.le_of_ble_eq_true rfl) rfl rfl (Nat.le_of_ble_eq_true rfl) dX10_swing_12 (kX10_within l D G ad had n  v2 0 1 st q hq) (fun H locs hP hS => ?_)
  exact wX10_swing_s15 C n v1 v2 v3 q.1 q.2 res hf H locs ls (lv_sub hl [0, 1, 2, 3] rfl) hP hS
def fX10_swing_s6 (n : Nat)   (v1 : Int32) (v2 : Int32) (v3 : Int32) (k0 : Int32) (st : St) : Option (Int64 × St) := if k0 = 0 then fX10_swing_s38 n st else fX10_swing_s9 n v1 v2 v3 st
set_option maxHeartbeats 4000000 in
set_option maxRecDepth 100000 in
theorem wX10_swing_s6 (C : Cx p s m args meth c cX10_swing 4 wsL_law RX10 (some .long) D G ad) (n : Nat)   (v1 : Int32) (v2 : Int32) (v3 : Int32) (k0 : Int32)   (st : St) (res : (Int64 × St))  (hf : fX10_swing_s6 n   v1 v2 v3 k0 st = some res) : At p l e (rmK 2) s m args below meth c D G ad (MQJ D G ad below args s res) 4 st [(0, .ref (ad 0)), (1, .int v1), (2, .int v2), (3, .int v3)] 6 [.int k0] := by
  obtain ⟨hx, hb, hml, hown, hts, hr, hlk, hK, had, hSt⟩ := id C
  intro H locs ls hl hP hS
  unfold fX10_swing_s6 at hf
  refine lv_if_eq (tgt := 38) hx hb dX10_swing_6 (by decide) (fun q => ?_) (fun q => ?_)
  · exact wX10_swing_s38 C n st res (it hf q) H locs ls (lv_sub hl [] rfl) hP hS
  · exact wX10_swing_s9 C n v1 v2 v3 st res (ie hf q) H locs ls (lv_sub hl [0, 1, 2, 3] rfl) hP hS
def fX10_swing_s0 (n : Nat)   (v1 : Int32) (v2 : Int32) (v3 : Int32) (st : St) : Option (Int64 × St) := (fX10_swings n v1 v3 st).bind (fun q => fX10_swing_s6 n v1 v2 v3 q.1 q.2)
set_option maxHeartbeats 4000000 in
set_option maxRecDepth 100000 in
theorem wX10_swing_s0 (C : Cx p s m args meth c cX10_swing 4 wsL_law RX10 (some .long) D G ad) (n : Nat)   (v1 : Int32) (v2 : Int32) (v3 : Int32)   (st : St) (res : (Int64 × St))  (hf : fX10_swing_s0 n   v1 v2 v3 st = some res) : At p l e (rmK 2) s m args below meth c D G ad (MQJ D G ad below args s res) 4 st [(0, .ref (ad 0)), (1, .int v1), (2, .int v2), (3, .int v3)] 0 [] := by
  obtain ⟨hx, hb, hml, hown, hts, hr, hlk, hK, had, hSt⟩ := id C
  intro H locs ls hl hP hS
  unfold fX10_swing_s0 at hf
  refine lv_aload_n hx hb dX10_swing_0 rfl (lv_at hl 0 rfl) ?_
  refine lv_iload_n hx hb dX10_swing_1 rfl (lv_at hl 1 rfl) ?_
  refine lv_iload_n hx hb dX10_swing_2 rfl (lv_at hl 3 rfl) ?_
  obtain ⟨q, hq, hf⟩ := bd hf
  refine gcV_i (k := 1) (o := 0) (As := [.int v1, .int v3]) (rest := []) hx hb hml hown hts hK hSt hP hS hl.1 (goodV wm_32_12 wm_32_13 wm_32_14 wm_1_2 wm_32_15) okX10_swings ct_0 rfl rfl (Nat.le_of_ble_eq_true rfl) (Nat.le_of_ble_eq_true rfl) rfl rfl (Nat.le_of_ble_eq_true rfl) dX10_swing_3 (kX10_swings l D G ad had n  v1 v3 st q hq) (fun H locs hP hS => ?_)
  exact wX10_swing_s6 C n v1 v2 v3 q.1 q.2 res hf H locs ls (lv_sub hl [0, 1, 2, 3] rfl) hP hS
def fX10_swing (n : Nat)  (a1 : Int32) (a2 : Int32) (a3 : Int32) (st : St) : Option (Int64 × St) := fX10_swing_s0 n a1 a2 a3 st
theorem okX10_swing : okY yX10_swing RX10 3 := by unfold okY; decide +kernel
end
set_option maxRecDepth 100000 in
theorem kX10_swing (l : Launch) (D : va_G) (G : G3) (ad : Nat → Nat) (had : Adr ad) (n : Nat)   (a1 : Int32) (a2 : Int32) (a3 : Int32) (st : St) (res : (Int64 × St)) (hf : fX10_swing n  a1 a2 a3 st = some res) {sz : Nat} : CtJ l yX10_swing (wsU yX10_swing cX10_swing 4 (some .long)) (rmK 2) D G ad sz [.ref (ad 0), .int a1, .int a2, .int a3] st res := by
  refine Met.ofW (cc := cX10_swing) (maxL := 4) (ret := (some .long)) (by decide) rfl ?_
  intro p e s m args below meth c s₁ B hml hv
  obtain ⟨rfl, hsz, hP, hK, hSt⟩ := hv
  have hts := atoms_spec (ws := wsU yX10_swing cX10_swing 4 (some .long)) B.pre
  have C : Cx p s m _ meth c cX10_swing 4 wsL_law RX10 (some .long) D G ad := ⟨B.exec, B.bytes, hml, findClass_of_methodNamed B.named, fun w h => hts w (List.mem_cons_of_mem _ h), B.returns, B.notSynchronized, hK, had, hSt⟩
  subst hsz
  have hl := lv_entry ([.ref (ad 0), .int a1, .int a2, .int a3]) (n := 4) (Nat.le_of_ble_eq_true rfl)
  rw [lg_entry_eq]
  generalize (lg_sl ([.ref (ad 0), .int a1, .int a2, .int a3]) ++ List.replicate (4 - (lg_sl ([.ref (ad 0), .int a1, .int a2, .int a3])).length) Slot.unset).toArray = ls at hl ⊢
  exact wX10_swing_s0 C n  a1 a2 a3   st res hf s.heap [] ls (lv_sub hl [0, 1, 2, 3] rfl) hP va_S.rf
section
variable {p : Program} {l : Launch} {e : Env} {s : State} {m : MethodId} {args : Array Value} {below : List Frame} {meth : Method} {c : Code} {D : va_G} {G : G3} {ad : Nat → Nat}
def fX10_gain_s18 (n : Nat)    (st : St) : Option (Int64 × St) := some ((-9223372036854775808), st)
set_option maxHeartbeats 4000000 in
set_option maxRecDepth 100000 in
theorem wX10_gain_s18 (C : Cx p s m args meth c cX10_gain 6 wsL_law RX10 (some .long) D G ad) (n : Nat)      (st : St) (res : (Int64 × St))  (hf : fX10_gain_s18 n    st = some res) : At p l e (rmK 2) s m args below meth c D G ad (MQJ D G ad below args s res) 6 st [] 18 [] := by
  obtain ⟨hx, hb, hml, hown, hts, hr, hlk, hK, had, hSt⟩ := id C
  intro H locs ls hl hP hS
  unfold fX10_gain_s18 at hf
  refine lv_ldc2 hx hb hown (hts _ wm_14_6) dX10_gain_18 ?_
  exact g_lret hx hb hr hlk hP hS dX10_gain_21 hf
def fX10_gain_s86 (n : Nat)   (k0 : Int64) (st : St) : Option (Int64 × St) := some (k0, st)
set_option maxHeartbeats 4000000 in
set_option maxRecDepth 100000 in
theorem wX10_gain_s86 (C : Cx p s m args meth c cX10_gain 6 wsL_law RX10 (some .long) D G ad) (n : Nat)   (k0 : Int64)   (st : St) (res : (Int64 × St))  (hf : fX10_gain_s86 n   k0 st = some res) : At p l e (rmK 2) s m args below meth c D G ad (MQJ D G ad below args s res) 6 st [] 86 [.long k0] := by
  obtain ⟨hx, hb, hml, hown, hts, hr, hlk, hK, had, hSt⟩ := id C
  intro H locs ls hl hP hS
  unfold fX10_gain_s86 at hf
  exact g_lret hx hb hr hlk hP hS dX10_gain_86 hf
def fX10_gain_s78 (n : Nat)   (v3 : Int32) (st : St) : Option (Int64 × St) := (fX2_tell n 36 v3 st).bind (fun q => fX10_gain_s86 n q.1 q.2)
set_option maxHeartbeats 4000000 in
set_option maxRecDepth 100000 in
theorem wX10_gain_s78 (C : Cx p s m args meth c cX10_gain 6 wsL_law RX10 (some .long) D G ad) (n : Nat)   (v3 : Int32)   (st : St) (res : (Int64 × St))  (hf : fX10_gain_s78 n   v3 st = some res) : At p l e (rmK 2) s m args below meth c D G ad (MQJ D G ad below args s res) 6 st [(0, .ref (ad 0)), (3, .int v3)] 78 [] := by
  obtain ⟨hx, hb, hml, hown, hts, hr, hlk, hK, had, hSt⟩ := id C
  intro H locs ls hl hP hS
  unfold fX10_gain_s78 at hf
  refine lv_aload_n hx hb dX10_gain_78 rfl (lv_at hl 0 rfl) ?_
  refine g_getR hx hb hts inlX10 hown hK hP 0 ct_0 rfl 6 (by decide) (hts _ wm_2_16) rfl dX10_gain_79 ?_
  refine lv_iload_n hx hb dX10_gain_82 rfl (lv_at hl 1 rfl) ?_
  obtain ⟨q, hq, hf⟩ := bd hf
  refine gcV_j (k := 0) (o := 36) (As := [.int v3]) (rest := []) hx hb hml hown hts hK hSt hP hS hl.1 (goodV wm_33_22 wm_33_23 wm_34_0 wm_2_15 wm_34_1) okX2_tell ct_36 rfl rfl (Nat.le_of_ble_eq_true rfl) (Nat.le_of_ble_eq_true rfl) rfl rfl (Nat.le_of_ble_eq_true rfl) dX10_gain_83 (kX2_tell l D G ad had n 36 isFr_lit_36 v3 st q hq) (fun H locs hP hS => ?_)
  exact wX10_gain_s86 C n q.1 q.2 res hf H locs ls (lv_sub hl [] rfl) hP hS
def fX10_gain_s73 (n : Nat)   (v3 : Int32) (v4 : Int64) (k1 : Int64) (st : St) : Option (Int64 × St) := (fX2_become n 36 k1 v4 st).bind (fun q => fX10_gain_s78 n v3 q.2)
set_option maxHeartbeats 4000000 in
set_option maxRecDepth 100000 in
theorem wX10_gain_s73 (C : Cx p s m args meth c cX10_gain 6 wsL_law RX10 (some .long) D G ad) (n : Nat)   (v3 : Int32) (v4 : Int64) (k1 : Int64)   (st : St) (res : (Int64 × St))  (hf : fX10_gain_s73 n   v3 v4 k1 st = some res) : At p l e (rmK 2) s m args below meth c D G ad (MQJ D G ad below args s res) 6 st [(0, .ref (ad 0)), (3, .int v3), (4, .long v4)] 73 [.long k1, .ref (ad 36)] := by
  obtain ⟨hx, hb, hml, hown, hts, hr, hlk, hK, had, hSt⟩ := id C
  intro H locs ls hl hP hS
  unfold fX10_gain_s73 at hf
  refine lv_lload hx hb dX10_gain_73 (lv_at hl 2 rfl) ?_
  obtain ⟨q, hq, hf⟩ := bd hf
  refine gcV_v (k := 1) (o := 36) (As := [.long k1, .long v4]) (rest := []) hx hb hml hown hts hK hSt hP hS hl.1 (goodV wm_33_5 wm_33_6 wm_33_7 wm_2_15 wm_33_8) okX2_become ct_36 rfl rfl (Nat.le_of_ble_eq_true rfl) (Nat.le_of_ble_eq_true rfl) rfl rfl (Nat.le_of_ble_eq_true rfl) dX10_gain_75 (kX2_become l D G ad had n 36 isFr_lit_36 k1 v4 st q hq) (fun H locs hP hS => ?_)
  exact wX10_gain_s78 C n v3 q.2 res hf H locs ls (lv_sub hl [0, 1] rfl) hP hS
def fX10_gain_s52 (n : Nat)   (v1 : Int32) (v2 : Int32) (v3 : Int32) (v4 : Int64) (st : St) : Option (Int64 × St) := (fX5_spread n v1 1 v2 (st.1 53 10) st).bind (fun q => fX10_gain_s73 n v3 v4 q.1 q.2)
set_option maxHeartbeats 4000000 in
set_option maxRecDepth 100000 in
theorem wX10_gain_s52 (C : Cx p s m args meth c cX10_gain 6 wsL_law RX10 (some .long) D G ad) (n : Nat)   (v1 : Int32) (v2 : Int32) (v3 : Int32) (v4 : Int64)   (st : St) (res : (Int64 × St))  (hf : fX10_gain_s52 n   v1 v2 v3 v4 st = some res) : At p l e (rmK 2) s m args below meth c D G ad (MQJ D G ad below args s res) 6 st [(0, .ref (ad 0)), (1, .int v1), (2, .int v2), (3, .int v3), (4, .long v4)] 52 [] := by
  obtain ⟨hx, hb, hml, hown, hts, hr, hlk, hK, had, hSt⟩ := id C
  intro H locs ls hl hP hS
  unfold fX10_gain_s52 at hf
  refine lv_aload_n hx hb dX10_gain_52 rfl (lv_at hl 0 rfl) ?_
  refine g_getR hx hb hts inlX10 hown hK hP 0 ct_0 rfl 6 (by decide) (hts _ wm_2_16) rfl dX10_gain_53 ?_
  refine lv_aload_n hx hb dX10_gain_56 rfl (lv_at hl 0 rfl) ?_
  refine g_getR hx hb hts inlX10 hown hK hP 0 ct_0 rfl 4 (by decide) (hts _ wm_2_8) rfl dX10_gain_57 ?_
  refine lv_iload_n hx hb dX10_gain_60 rfl (lv_at hl 1 rfl) ?_
  refine lv_iconst (v := 1) hx hb dX10_gain_61 (by decide) ?_
  refine lv_iload_n hx hb dX10_gain_62 rfl (lv_at hl 2 rfl) ?_
  refine lv_aload_n hx hb dX10_gain_63 rfl (lv_at hl 0 rfl) ?_
  refine g_getR hx hb hts inlX10 hown hK hP 0 ct_0 rfl 11 (by decide) (hts _ wm_3_7) rfl dX10_gain_64 ?_
  refine g_getI hx hb hts inlX1 hown hK hP 53 ct_53 rfl 10 (by decide) (hts _ wm_9_10) rfl dX10_gain_67 ?_
  obtain ⟨q, hq, hf⟩ := bd hf
  refine gcV_j (k := 1) (o := 21) (As := [.int v1, .int 1, .int v2, .int (st.1 53 10)]) (rest := [.ref (ad 36)]) hx hb hml hown hts hK hSt hP hS hl.1 (goodV wm_32_16 wm_32_17 wm_32_18 wm_2_7 wm_32_19) okX5_spread ct_21 rfl rfl (Nat.le_of_ble_eq_true rfl) (Nat.le_of_ble_eq_true rfl) rfl rfl (Nat.le_of_ble_eq_true rfl) dX10_gain_70 (kX5_spread l D G ad had n  v1 1 v2 (st.1 53 10) st q hq) (fun H locs hP hS => ?_)
  exact wX10_gain_s73 C n v3 v4 q.1 q.2 res hf H locs ls (lv_sub hl [0, 3, 4] rfl) hP hS
def fX10_gain_s48 (n : Nat)    (st : St) : Option (Int64 × St) := some ((-9223372036854775808), st)
set_option maxHeartbeats 4000000 in
set_option maxRecDepth 100000 in
theorem wX10_gain_s48 (C : Cx p s m args meth c cX10_gain 6 wsL_law RX10 (some .long) D G ad) (n : Nat)      (st : St) (res : (Int64 × St))  (hf : fX10_gain_s48 n    st = some res) : At p l e (rmK 2) s m args below meth c D G ad (MQJ D G ad below args s res) 6 st [] 48 [] := by
  obtain ⟨hx, hb, hml, hown, hts, hr, hlk, hK, had, hSt⟩ := id C
  intro H locs ls hl hP hS
  unfold fX10_gain_s48 at hf
  refine lv_ldc2 hx hb hown (hts _ wm_14_6) dX10_gain_48 ?_
  exact g_lret hx hb hr hlk hP hS dX10_gain_51 hf
def fX10_gain_s39 (n : Nat)   (v1 : Int32) (v2 : Int32) (v3 : Int32) (k0 : Int64) (st : St) : Option (Int64 × St) := if k0 = 0 then fX10_gain_s48 n st else fX10_gain_s52 n v1 v2 v3 k0 st
set_option maxHeartbeats 4000000 in
set_option maxRecDepth 100000 in
theorem wX10_gain_s39 (C : Cx p s m args meth c cX10_gain 6 wsL_law RX10 (some .long) D G ad) (n : Nat)   (v1 : Int32) (v2 : Int32) (v3 : Int32) (k0 : Int64)   (st : St) (res : (Int64 × St))  (hf : fX10_gain_s39 n   v1 v2 v3 k0 st = some res) : At p l e (rmK 2) s m args below meth c D G ad (MQJ D G ad below args s res) 6 st [(0, .ref (ad 0)), (1, .int v1), (2, .int v2), (3, .int v3)] 39 [.long k0] := by
  obtain ⟨hx, hb, hml, hown, hts, hr, hlk, hK, had, hSt⟩ := id C
  intro H locs ls hl hP hS
  unfold fX10_gain_s39 at hf
  refine lv_lstore (lv' := [(4, .long k0), (0, .ref (ad 0)), (1, .int v1), (2, .int v2), (3, .int v3)]) hx hb dX10_gain_39 hl (by decide) rfl (fun ls hl => ?_)
  refine lv_lload hx hb dX10_gain_41 (lv_at hl 0 rfl) ?_
  refine lv_lconst (v := 0) hx hb dX10_gain_43 (by decide) ?_
  refine g_lcmp_ne (tgt := 52) hx hb dX10_gain_44 dX10_gain_45 (by decide) (fun q => ?_) (fun q => ?_)
  · exact wX10_gain_s52 C n v1 v2 v3 k0 st res (ie hf q) H locs ls (lv_sub hl [1, 2, 3, 4, 0] rfl) hP hS
  · exact wX10_gain_s48 C n st res (it hf q) H locs ls (lv_sub hl [] rfl) hP hS
def fX10_gain_s22 (n : Nat)   (v1 : Int32) (v2 : Int32) (v3 : Int32) (st : St) : Option (Int64 × St) := (fX5_spread n v1 0 v2 (st.1 53 10) st).bind (fun q => fX10_gain_s39 n v1 v2 v3 q.1 q.2)
set_option maxHeartbeats 4000000 in
set_option maxRecDepth 100000 in
theorem wX10_gain_s22 (C : Cx p s m args meth c cX10_gain 6 wsL_law RX10 (some .long) D G ad) (n : Nat)   (v1 : Int32) (v2 : Int32) (v3 : Int32)   (st : St) (res : (Int64 × St))  (hf : fX10_gain_s22 n   v1 v2 v3 st = some res) : At p l e (rmK 2) s m args below meth c D G ad (MQJ D G ad below args s res) 6 st [(0, .ref (ad 0)), (1, .int v1), (2, .int v2), (3, .int v3)] 22 [] := by
  obtain ⟨hx, hb, hml, hown, hts, hr, hlk, hK, had, hSt⟩ := id C
  intro H locs ls hl hP hS
  unfold fX10_gain_s22 at hf
  refine lv_aload_n hx hb dX10_gain_22 rfl (lv_at hl 0 rfl) ?_
  refine g_getR hx hb hts inlX10 hown hK hP 0 ct_0 rfl 4 (by decide) (hts _ wm_2_8) rfl dX10_gain_23 ?_
  refine lv_iload_n hx hb dX10_gain_26 rfl (lv_at hl 1 rfl) ?_
  refine lv_iconst (v := 0) hx hb dX10_gain_27 (by decide) ?_
  refine lv_iload_n hx hb dX10_gain_28 rfl (lv_at hl 2 rfl) ?_
  refine lv_aload_n hx hb dX10_gain_29 rfl (lv_at hl 0 rfl) ?_
  refine g_getR hx hb hts inlX10 hown hK hP 0 ct_0 rfl 11 (by decide) (hts _ wm_3_7) rfl dX10_gain_30 ?_
  refine g_getI hx hb hts inlX1 hown hK hP 53 ct_53 rfl 10 (by decide) (hts _ wm_9_10) rfl dX10_gain_33 ?_
  obtain ⟨q, hq, hf⟩ := bd hf
  refine gcV_j (k := 1) (o := 21) (As := [.int v1, .int 0, .int v2, .int (st.1 53 10)]) (rest := []) hx hb hml hown hts hK hSt hP hS hl.1 (goodV wm_32_16 wm_32_17 wm_32_18 wm_2_7 wm_32_19) okX5_spread ct_21 rfl rfl (Nat.le_of_ble_eq_true rfl) (Nat.le_of_ble_eq_true rfl) rfl rfl (Nat.le_of_ble_eq_true rfl) dX10_gain_36 (kX5_spread l D G ad had n  v1 0 v2 (st.1 53 10) st q hq) (fun H locs hP hS => ?_)
  exact wX10_gain_s39 C n v1 v2 v3 q.1 q.2 res hf H locs ls (lv_sub hl [0, 1, 2, 3] rfl) hP hS
def fX10_gain_s15 (n : Nat)   (v1 : Int32) (v2 : Int32) (v3 : Int32) (k0 : Int32) (st : St) : Option (Int64 × St) := if k0 = 0 then fX10_gain_s18 n st else fX10_gain_s22 n v1 v2 v3 st
set_option maxHeartbeats 4000000 in
set_option maxRecDepth 100000 in
theorem wX10_gain_s15 (C : Cx p s m args meth c cX10_gain 6 wsL_law RX10 (some .long) D G ad) (n : Nat)   (v1 : Int32) (v2 : Int32) (v3 : Int32) (k0 : Int32)   (st : St) (res : (Int64 × St))  (hf : fX10_gain_s15 n   v1 v2 v3 k0 st = some res) : At p l e (rmK 2) s m args below meth c D G ad (MQJ D G ad below args s res) 6 st [(0, .ref (ad 0)), (1, .int v1), (2, .int v2), (3, .int v3)] 15 [.int k0] := by
  obtain ⟨hx, hb, hml, hown, hts, hr, hlk, hK, had, hSt⟩ := id C
  intro H locs ls hl hP hS
  unfold fX10_gain_s15 at hf
  refine lv_if_ne (tgt := 22) hx hb dX10_gain_15 (by decide) (fun q => ?_) (fun q => ?_)
  · exact wX10_gain_s22 C n v1 v2 v3 st res (ie hf q) H locs ls (lv_sub hl [0, 1, 2, 3] rfl) hP hS
  · exact wX10_gain_s18 C n st res (it hf q) H locs ls (lv_sub hl [] rfl) hP hS
def fX10_gain_s9 (n : Nat)   (v1 : Int32) (v2 : Int32) (v3 : Int32) (st : St) : Option (Int64 × St) := (fX10_within n v3 0 1 st).bind (fun q => fX10_gain_s15 n v1 v2 v3 q.1 q.2)
set_option maxHeartbeats 4000000 in
set_option maxRecDepth 100000 in
theorem wX10_gain_s9 (C : Cx p s m args meth c cX10_gain 6 wsL_law RX10 (some .long) D G ad) (n : Nat)   (v1 : Int32) (v2 : Int32) (v3 : Int32)   (st : St) (res : (Int64 × St))  (hf : fX10_gain_s9 n   v1 v2 v3 st = some res) : At p l e (rmK 2) s m args below meth c D G ad (MQJ D G ad below args s res) 6 st [(0, .ref (ad 0)), (1, .int v1), (2, .int v2), (3, .int v3)] 9 [] := by
  obtain ⟨hx, hb, hml, hown, hts, hr, hlk, hK, had, hSt⟩ := id C
  intro H locs ls hl hP hS
  unfold fX10_gain_s9 at hf
  refine lv_iload_n hx hb dX10_gain_9 rfl (lv_at hl 3 rfl) ?_
  refine lv_iconst (v := 0) hx hb dX10_gain_10 (by decide) ?_
  refine lv_iconst (v := 1) hx hb dX10_gain_11 (by decide) ?_
  obtain ⟨q, hq, hf⟩ := bd hf
  refine gcS_i (k := 0) (As := [.int v3, .int 0, .int 1]) (rest := []) hx hb hml hown hts hK hSt hP hS hl.1 (goodS wm_9_17 wm_9_18 wm_1_2 wm_9_19) okX10_within (Nat.le_of_ble_eq_true rfl) (Nat.le_of_ble_eq_true rfl) rfl rfl (Nat.le_of_ble_eq_true rfl) dX10_gain_12 (kX10_within l D G ad had n  v3 0 1 st q hq) (fun H locs hP hS => ?_)
  exact wX10_gain_s15 C n v1 v2 v3 q.1 q.2 res hf H locs ls (lv_sub hl [0, 1, 2, 3] rfl) hP hS
def fX10_gain_s6 (n : Nat)   (v1 : Int32) (v2 : Int32) (v3 : Int32) (k0 : Int32) (st : St) : Option (Int64 × St) := if k0 = 0 then fX10_gain_s18 n st else fX10_gain_s9 n v1 v2 v3 st
set_option maxHeartbeats 4000000 in
set_option maxRecDepth 100000 in
theorem wX10_gain_s6 (C : Cx p s m args meth c cX10_gain 6 wsL_law RX10 (some .long) D G ad) (n : Nat)   (v1 : Int32) (v2 : Int32) (v3 : Int32) (k0 : Int32)   (st : St) (res : (Int64 × St))  (hf : fX10_gain_s6 n   v1 v2 v3 k0 st = some res) : At p l e (rmK 2) s m args below meth c D G ad (MQJ D G ad below args s res) 6 st [(0, .ref (ad 0)), (1, .int v1), (2, .int v2), (3, .int v3)] 6 [.int k0] := by
  obtain ⟨hx, hb, hml, hown, hts, hr, hlk, hK, had, hSt⟩ := id C
  intro H locs ls hl hP hS
  unfold fX10_gain_s6 at hf
  refine lv_if_eq (tgt := 18) hx hb dX10_gain_6 (by decide) (fun q => ?_) (fun q => ?_)
  · exact wX10_gain_s18 C n st res (it hf q) H locs ls (lv_sub hl [] rfl) hP hS
  · exact wX10_gain_s9 C n v1 v2 v3 st res (ie hf q) H locs ls (lv_sub hl [0, 1, 2, 3] rfl) hP hS
def fX10_gain_s0 (n : Nat)   (v1 : Int32) (v2 : Int32) (v3 : Int32) (st : St) : Option (Int64 × St) := (fX10_swings n v1 v2 st).bind (fun q => fX10_gain_s6 n v1 v2 v3 q.1 q.2)
set_option maxHeartbeats 4000000 in
set_option maxRecDepth 100000 in
theorem wX10_gain_s0 (C : Cx p s m args meth c cX10_gain 6 wsL_law RX10 (some .long) D G ad) (n : Nat)   (v1 : Int32) (v2 : Int32) (v3 : Int32)   (st : St) (res : (Int64 × St))  (hf : fX10_gain_s0 n   v1 v2 v3 st = some res) : At p l e (rmK 2) s m args below meth c D G ad (MQJ D G ad below args s res) 6 st [(0, .ref (ad 0)), (1, .int v1), (2, .int v2), (3, .int v3)] 0 [] := by
  obtain ⟨hx, hb, hml, hown, hts, hr, hlk, hK, had, hSt⟩ := id C
  intro H locs ls hl hP hS
  unfold fX10_gain_s0 at hf
  refine lv_aload_n hx hb dX10_gain_0 rfl (lv_at hl 0 rfl) ?_
  refine lv_iload_n hx hb dX10_gain_1 rfl (lv_at hl 1 rfl) ?_
  refine lv_iload_n hx hb dX10_gain_2 rfl (lv_at hl 2 rfl) ?_
  obtain ⟨q, hq, hf⟩ := bd hf
  refine gcV_i (k := 1) (o := 0) (As := [.int v1, .int v2]) (rest := []) hx hb hml hown hts hK hSt hP hS hl.1 (goodV wm_32_12 wm_32_13 wm_32_14 wm_1_2 wm_32_15) okX10_swings ct_0 rfl rfl (Nat.le_of_ble_eq_true rfl) (Nat.le_of_ble_eq_true rfl) rfl rfl (Nat.le_of_ble_eq_true rfl) dX10_gain_3 (kX10_swings l D G ad had n  v1 v2 st q hq) (fun H locs hP hS => ?_)
  exact wX10_gain_s6 C n v1 v2 v3 q.1 q.2 res hf H locs ls (lv_sub hl [0, 1, 2, 3] rfl) hP hS
def fX10_gain (n : Nat)  (a1 : Int32) (a2 : Int32) (a3 : Int32) (st : St) : Option (Int64 × St) := fX10_gain_s0 n a1 a2 a3 st
theorem okX10_gain : okY yX10_gain RX10 3 := by unfold okY; decide +kernel
end
set_option maxRecDepth 100000 in
theorem kX10_gain (l : Launch) (D : va_G) (G : G3) (ad : Nat → Nat) (had : Adr ad) (n : Nat)   (a1 : Int32) (a2 : Int32) (a3 : Int32) (st : St) (res : (Int64 × St)) (hf : fX10_gain n  a1 a2 a3 st = some res) {sz : Nat} : CtJ l yX10_gain (wsU yX10_gain cX10_gain 6 (some .long)) (rmK 2) D G ad sz [.ref (ad 0), .int a1, .int a2, .int a3] st res := by
  refine Met.ofW (cc := cX10_gain) (maxL := 6) (ret := (some .long)) (by decide) rfl ?_
  intro p e s m args below meth c s₁ B hml hv
  obtain ⟨rfl, hsz, hP, hK, hSt⟩ := hv
  have hts := atoms_spec (ws := wsU yX10_gain cX10_gain 6 (some .long)) B.pre
  have C : Cx p s m _ meth c cX10_gain 6 wsL_law RX10 (some .long) D G ad := ⟨B.exec, B.bytes, hml, findClass_of_methodNamed B.named, fun w h => hts w (List.mem_cons_of_mem _ h), B.returns, B.notSynchronized, hK, had, hSt⟩
  subst hsz
  have hl := lv_entry ([.ref (ad 0), .int a1, .int a2, .int a3]) (n := 6) (Nat.le_of_ble_eq_true rfl)
  rw [lg_entry_eq]
  generalize (lg_sl ([.ref (ad 0), .int a1, .int a2, .int a3]) ++ List.replicate (6 - (lg_sl ([.ref (ad 0), .int a1, .int a2, .int a3])).length) Slot.unset).toArray = ls at hl ⊢
  exact wX10_gain_s0 C n  a1 a2 a3   st res hf s.heap [] ls (lv_sub hl [0, 1, 2, 3] rfl) hP va_S.rf
section
variable {p : Program} {l : Launch} {e : Env} {s : State} {m : MethodId} {args : Array Value} {below : List Frame} {meth : Method} {c : Code} {D : va_G} {G : G3} {ad : Nat → Nat}
def fX10_isShare_s35 (n : Nat)   (k0 : Int32) (st : St) : Option (Int32 × St) := if zb k0 = true then (some (k0, st)) else none
set_option maxHeartbeats 4000000 in
set_option maxRecDepth 100000 in
theorem wX10_isShare_s35 (C : Cx p s m args meth c cX10_isShare 1 wsL_law RX10 (some .boolean) D G ad) (n : Nat)   (k0 : Int32)   (st : St) (res : (Int32 × St))  (hf : fX10_isShare_s35 n   k0 st = some res) : At p l e (rmK 1) s m args below meth c D G ad (MQI D G ad below args s res) 1 st [] 35 [.int k0] := by
  obtain ⟨hx, hb, hml, hown, hts, hr, hlk, hK, had, hSt⟩ := id C
  intro H locs ls hl hP hS
  unfold fX10_isShare_s35 at hf
  obtain ⟨gz, hf⟩ := gd hf
  exact g_zret hx hb hr hlk hP hS (zb_of gz) dX10_isShare_35 hf
def fX10_isShare_s34 (n : Nat)    (st : St) : Option (Int32 × St) := fX10_isShare_s35 n 0 st
set_option maxHeartbeats 4000000 in
set_option maxRecDepth 100000 in
theorem wX10_isShare_s34 (C : Cx p s m args meth c cX10_isShare 1 wsL_law RX10 (some .boolean) D G ad) (n : Nat)      (st : St) (res : (Int32 × St))  (hf : fX10_isShare_s34 n    st = some res) : At p l e (rmK 1) s m args below meth c D G ad (MQI D G ad below args s res) 1 st [] 34 [] := by
  obtain ⟨hx, hb, hml, hown, hts, hr, hlk, hK, had, hSt⟩ := id C
  intro H locs ls hl hP hS
  unfold fX10_isShare_s34 at hf
  refine lv_iconst (v := 0) hx hb dX10_isShare_34 (by decide) ?_
  exact wX10_isShare_s35 C n 0 st res hf H locs ls (lv_sub hl [] rfl) hP hS
def fX10_isShare_s30 (n : Nat)    (st : St) : Option (Int32 × St) := fX10_isShare_s35 n 1 st
set_option maxHeartbeats 4000000 in
set_option maxRecDepth 100000 in
theorem wX10_isShare_s30 (C : Cx p s m args meth c cX10_isShare 1 wsL_law RX10 (some .boolean) D G ad) (n : Nat)      (st : St) (res : (Int32 × St))  (hf : fX10_isShare_s30 n    st = some res) : At p l e (rmK 1) s m args below meth c D G ad (MQI D G ad below args s res) 1 st [] 30 [] := by
  obtain ⟨hx, hb, hml, hown, hts, hr, hlk, hK, had, hSt⟩ := id C
  intro H locs ls hl hP hS
  unfold fX10_isShare_s30 at hf
  refine lv_iconst (v := 1) hx hb dX10_isShare_30 (by decide) ?_
  refine lv_goto (tgt := 35) hx hb dX10_isShare_31 (by decide) ?_
  exact wX10_isShare_s35 C n 1 st res hf H locs ls (lv_sub hl [] rfl) hP hS
def fX10_isShare_s17 (n : Nat)   (v0 : Int32) (st : St) : Option (Int32 × St) := if (2 * (v0 - v0 / 100 * 100)) < (v0 / 100) then fX10_isShare_s34 n st else fX10_isShare_s30 n st
set_option maxHeartbeats 4000000 in
set_option maxRecDepth 100000 in
theorem wX10_isShare_s17 (C : Cx p s m args meth c cX10_isShare 1 wsL_law RX10 (some .boolean) D G ad) (n : Nat)   (v0 : Int32)   (st : St) (res : (Int32 × St))  (hf : fX10_isShare_s17 n   v0 st = some res) : At p l e (rmK 1) s m args below meth c D G ad (MQI D G ad below args s res) 1 st [(0, .int v0)] 17 [] := by
  obtain ⟨hx, hb, hml, hown, hts, hr, hlk, hK, had, hSt⟩ := id C
  intro H locs ls hl hP hS
  unfold fX10_isShare_s17 at hf
  refine lv_iload_n hx hb dX10_isShare_17 rfl (lv_at hl 0 rfl) ?_
  refine lv_bipush (v := 100) hx hb dX10_isShare_18 (by decide) ?_
  refine lv_idiv hx hb dX10_isShare_20 (by decide) ?_
  refine lv_iconst (v := 2) hx hb dX10_isShare_21 (by decide) ?_
  refine lv_iload_n hx hb dX10_isShare_22 rfl (lv_at hl 0 rfl) ?_
  refine lv_bipush (v := 100) hx hb dX10_isShare_23 (by decide) ?_
  refine lv_irem hx hb dX10_isShare_25 (by decide) ?_
  refine lv_imul hx hb dX10_isShare_26 ?_
  refine lv_icmp_gt (tgt := 34) hx hb dX10_isShare_27 (by decide) (fun q => ?_) (fun q => ?_)
  · exact wX10_isShare_s34 C n st res (it hf q) H locs ls (lv_sub hl [] rfl) hP hS
  · exact wX10_isShare_s30 C n st res (ie hf q) H locs ls (lv_sub hl [] rfl) hP hS
def fX10_isShare_s14 (n : Nat)   (v0 : Int32) (k0 : Int32) (st : St) : Option (Int32 × St) := if k0 = 0 then fX10_isShare_s34 n st else fX10_isShare_s17 n v0 st
set_option maxHeartbeats 4000000 in
set_option maxRecDepth 100000 in
theorem wX10_isShare_s14 (C : Cx p s m args meth c cX10_isShare 1 wsL_law RX10 (some .boolean) D G ad) (n : Nat)   (v0 : Int32) (k0 : Int32)   (st : St) (res : (Int32 × St))  (hf : fX10_isShare_s14 n   v0 k0 st = some res) : At p l e (rmK 1) s m args below meth c D G ad (MQI D G ad below args s res) 1 st [(0, .int v0)] 14 [.int k0] := by
  obtain ⟨hx, hb, hml, hown, hts, hr, hlk, hK, had, hSt⟩ := id C
  intro H locs ls hl hP hS
  unfold fX10_isShare_s14 at hf
  refine lv_if_eq (tgt := 34) hx hb dX10_isShare_14 (by decide) (fun q => ?_) (fun q => ?_)
  · exact wX10_isShare_s34 C n st res (it hf q) H locs ls (lv_sub hl [] rfl) hP hS
  · exact wX10_isShare_s17 C n v0 st res (ie hf q) H locs ls (lv_sub hl [0] rfl) hP hS
def fX10_isShare_s4 (n : Nat)   (v0 : Int32) (st : St) : Option (Int32 × St) := (fX10_within n (v0 - v0 / 100 * 100) 1 20 st).bind (fun q => fX10_isShare_s14 n v0 q.1 q.2)
set_option maxHeartbeats 4000000 in
set_option maxRecDepth 100000 in
theorem wX10_isShare_s4 (C : Cx p s m args meth c cX10_isShare 1 wsL_law RX10 (some .boolean) D G ad) (n : Nat)   (v0 : Int32)   (st : St) (res : (Int32 × St))  (hf : fX10_isShare_s4 n   v0 st = some res) : At p l e (rmK 1) s m args below meth c D G ad (MQI D G ad below args s res) 1 st [(0, .int v0)] 4 [] := by
  obtain ⟨hx, hb, hml, hown, hts, hr, hlk, hK, had, hSt⟩ := id C
  intro H locs ls hl hP hS
  unfold fX10_isShare_s4 at hf
  refine lv_iload_n hx hb dX10_isShare_4 rfl (lv_at hl 0 rfl) ?_
  refine lv_bipush (v := 100) hx hb dX10_isShare_5 (by decide) ?_
  refine lv_irem hx hb dX10_isShare_7 (by decide) ?_
  refine lv_iconst (v := 1) hx hb dX10_isShare_8 (by decide) ?_
  refine lv_bipush (v := 20) hx hb dX10_isShare_9 (by decide) ?_
  obtain ⟨q, hq, hf⟩ := bd hf
  refine gcS_i (k := 0) (As := [.int (v0 - v0 / 100 * 100), .int 1, .int 20]) (rest := []) hx hb hml hown hts hK hSt hP hS hl.1 (goodS wm_9_17 wm_9_18 wm_1_2 wm_9_19) okX10_within (Nat.le_of_ble_eq_true rfl) (Nat.le_of_ble_eq_true rfl) rfl rfl (Nat.le_of_ble_eq_true rfl) dX10_isShare_11 (kX10_within l D G ad had n  (v0 - v0 / 100 * 100) 1 20 st q hq) (fun H locs hP hS => ?_)
  exact wX10_isShare_s14 C n v0 q.1 q.2 res hf H locs ls (lv_sub hl [0] rfl) hP hS
def fX10_isShare_s0 (n : Nat)   (v0 : Int32) (st : St) : Option (Int32 × St) := if v0 < 0 then fX10_isShare_s34 n st else fX10_isShare_s4 n v0 st
set_option maxHeartbeats 4000000 in
set_option maxRecDepth 100000 in
theorem wX10_isShare_s0 (C : Cx p s m args meth c cX10_isShare 1 wsL_law RX10 (some .boolean) D G ad) (n : Nat)   (v0 : Int32)   (st : St) (res : (Int32 × St))  (hf : fX10_isShare_s0 n   v0 st = some res) : At p l e (rmK 1) s m args below meth c D G ad (MQI D G ad below args s res) 1 st [(0, .int v0)] 0 [] := by
  obtain ⟨hx, hb, hml, hown, hts, hr, hlk, hK, had, hSt⟩ := id C
  intro H locs ls hl hP hS
  unfold fX10_isShare_s0 at hf
  refine lv_iload_n hx hb dX10_isShare_0 rfl (lv_at hl 0 rfl) ?_
  refine lv_if_lt (tgt := 34) hx hb dX10_isShare_1 (by decide) (fun q => ?_) (fun q => ?_)
  · exact wX10_isShare_s34 C n st res (it hf q) H locs ls (lv_sub hl [] rfl) hP hS
  · exact wX10_isShare_s4 C n v0 st res (ie hf q) H locs ls (lv_sub hl [0] rfl) hP hS
def fX10_isShare (n : Nat)  (a0 : Int32) (st : St) : Option (Int32 × St) := fX10_isShare_s0 n a0 st
theorem okX10_isShare : okY yX10_isShare RX10 1 := by unfold okY; decide +kernel
end
set_option maxRecDepth 100000 in
theorem kX10_isShare (l : Launch) (D : va_G) (G : G3) (ad : Nat → Nat) (had : Adr ad) (n : Nat)   (a0 : Int32) (st : St) (res : (Int32 × St)) (hf : fX10_isShare n  a0 st = some res) {sz : Nat} : CtI l yX10_isShare (wsU yX10_isShare cX10_isShare 1 (some .boolean)) (rmK 1) D G ad sz [.int a0] st res := by
  refine Met.ofW (cc := cX10_isShare) (maxL := 1) (ret := (some .boolean)) (by decide) rfl ?_
  intro p e s m args below meth c s₁ B hml hv
  obtain ⟨rfl, hsz, hP, hK, hSt⟩ := hv
  have hts := atoms_spec (ws := wsU yX10_isShare cX10_isShare 1 (some .boolean)) B.pre
  have C : Cx p s m _ meth c cX10_isShare 1 wsL_law RX10 (some .boolean) D G ad := ⟨B.exec, B.bytes, hml, findClass_of_methodNamed B.named, fun w h => hts w (List.mem_cons_of_mem _ h), B.returns, B.notSynchronized, hK, had, hSt⟩
  subst hsz
  have hl := lv_entry ([.int a0]) (n := 1) (Nat.le_of_ble_eq_true rfl)
  rw [lg_entry_eq]
  generalize (lg_sl ([.int a0]) ++ List.replicate (1 - (lg_sl ([.int a0])).length) Slot.unset).toArray = ls at hl ⊢
  exact wX10_isShare_s0 C n  a0   st res hf s.heap [] ls (lv_sub hl [0] rfl) hP va_S.rf
section
variable {p : Program} {l : Launch} {e : Env} {s : State} {m : MethodId} {args : Array Value} {below : List Frame} {meth : Method} {c : Code} {D : va_G} {G : G3} {ad : Nat → Nat}
def fX10_straight_s24 (n : Nat)    (st : St) : Option (Int32 × St) := some ((-2), st)
set_option maxHeartbeats 4000000 in
set_option maxRecDepth 100000 in
theorem wX10_straight_s24 (C : Cx p s m args meth c cX10_straight 4 wsL_law RX10 (some .int) D G ad) (n : Nat)      (st : St) (res : (Int32 × St))  (hf : fX10_straight_s24 n    st = some res) : At p l e (rmK 2) s m args below meth c D G ad (MQI D G ad below args s res) 4 st [] 24 [] := by
  obtain ⟨hx, hb, hml, hown, hts, hr, hlk, hK, had, hSt⟩ := id C
  intro H locs ls hl hP hS
  unfold fX10_straight_s24 at hf
  refine lv_bipush (v := (-2)) hx hb dX10_straight_24 (by decide) ?_
  exact g_iret hx hb hr hlk hP hS dX10_straight_26 hf
def fX10_straight_s80 (n : Nat)    (st : St) : Option (Int32 × St) := some (0, st)
set_option maxHeartbeats 4000000 in
set_option maxRecDepth 100000 in
theorem wX10_straight_s80 (C : Cx p s m args meth c cX10_straight 4 wsL_law RX10 (some .int) D G ad) (n : Nat)      (st : St) (res : (Int32 × St))  (hf : fX10_straight_s80 n    st = some res) : At p l e (rmK 2) s m args below meth c D G ad (MQI D G ad below args s res) 4 st [] 80 [] := by
  obtain ⟨hx, hb, hml, hown, hts, hr, hlk, hK, had, hSt⟩ := id C
  intro H locs ls hl hP hS
  unfold fX10_straight_s80 at hf
  refine lv_iconst (v := 0) hx hb dX10_straight_80 (by decide) ?_
  exact g_iret hx hb hr hlk hP hS dX10_straight_81 hf
def fX10_straight_s67 (n : Nat)   (v3 : Int32) (st : St) : Option (Int32 × St) := (fX2_become n 27 v3.toInt64 1 st).bind (fun q => fX10_straight_s80 n q.2)
set_option maxHeartbeats 4000000 in
set_option maxRecDepth 100000 in
theorem wX10_straight_s67 (C : Cx p s m args meth c cX10_straight 4 wsL_law RX10 (some .int) D G ad) (n : Nat)   (v3 : Int32)   (st : St) (res : (Int32 × St))  (hf : fX10_straight_s67 n   v3 st = some res) : At p l e (rmK 2) s m args below meth c D G ad (MQI D G ad below args s res) 4 st [(0, .ref (ad 0)), (3, .int v3)] 67 [] := by
  obtain ⟨hx, hb, hml, hown, hts, hr, hlk, hK, had, hSt⟩ := id C
  intro H locs ls hl hP hS
  unfold fX10_straight_s67 at hf
  refine lv_aload_n hx hb dX10_straight_67 rfl (lv_at hl 0 rfl) ?_
  refine g_getR hx hb hts inlX10 hown hK hP 0 ct_0 rfl 5 (by decide) (hts _ wm_2_12) rfl dX10_straight_68 ?_
  refine g_getR hx hb hts inlX4 hown hK hP 24 ct_24 rfl 2 (by decide) (hts _ wm_34_18) rfl dX10_straight_71 ?_
  refine lv_iload_n hx hb dX10_straight_74 rfl (lv_at hl 1 rfl) ?_
  refine lv_i2l hx hb dX10_straight_75 rfl ?_
  refine lv_lconst (v := 1) hx hb dX10_straight_76 (by decide) ?_
  obtain ⟨q, hq, hf⟩ := bd hf
  refine gcV_v (k := 1) (o := 27) (As := [.long v3.toInt64, .long 1]) (rest := []) hx hb hml hown hts hK hSt hP hS hl.1 (goodV wm_33_5 wm_33_6 wm_33_7 wm_2_15 wm_33_8) okX2_become ct_27 rfl rfl (Nat.le_of_ble_eq_true rfl) (Nat.le_of_ble_eq_true rfl) rfl rfl (Nat.le_of_ble_eq_true rfl) dX10_straight_77 (kX2_become l D G ad had n 27 isFr_lit_27 v3.toInt64 1 st q hq) (fun H locs hP hS => ?_)
  exact wX10_straight_s80 C n q.2 res hf H locs ls (lv_sub hl [] rfl) hP hS
def fX10_straight_s47 (n : Nat)   (v2 : Int32) (v3 : Int32) (st : St) : Option (Int32 × St) := (fX2_become n 26 ((v2 / 100).toInt64) ((v2 - v2 / 100 * 100).toInt64) st).bind (fun q => fX10_straight_s67 n v3 q.2)
set_option maxHeartbeats 4000000 in
set_option maxRecDepth 100000 in
theorem wX10_straight_s47 (C : Cx p s m args meth c cX10_straight 4 wsL_law RX10 (some .int) D G ad) (n : Nat)   (v2 : Int32) (v3 : Int32)   (st : St) (res : (Int32 × St))  (hf : fX10_straight_s47 n   v2 v3 st = some res) : At p l e (rmK 2) s m args below meth c D G ad (MQI D G ad below args s res) 4 st [(0, .ref (ad 0)), (2, .int v2), (3, .int v3)] 47 [] := by
  obtain ⟨hx, hb, hml, hown, hts, hr, hlk, hK, had, hSt⟩ := id C
  intro H locs ls hl hP hS
  unfold fX10_straight_s47 at hf
  refine lv_aload_n hx hb dX10_straight_47 rfl (lv_at hl 0 rfl) ?_
  refine g_getR hx hb hts inlX10 hown hK hP 0 ct_0 rfl 5 (by decide) (hts _ wm_2_12) rfl dX10_straight_48 ?_
  refine g_getR hx hb hts inlX4 hown hK hP 24 ct_24 rfl 1 (by decide) (hts _ wm_34_17) rfl dX10_straight_51 ?_
  refine lv_iload_n hx hb dX10_straight_54 rfl (lv_at hl 1 rfl) ?_
  refine lv_bipush (v := 100) hx hb dX10_straight_55 (by decide) ?_
  refine lv_idiv hx hb dX10_straight_57 (by decide) ?_
  refine lv_i2l hx hb dX10_straight_58 rfl ?_
  refine lv_iload_n hx hb dX10_straight_59 rfl (lv_at hl 1 rfl) ?_
  refine lv_bipush (v := 100) hx hb dX10_straight_60 (by decide) ?_
  refine lv_irem hx hb dX10_straight_62 (by decide) ?_
  refine lv_i2l hx hb dX10_straight_63 rfl ?_
  obtain ⟨q, hq, hf⟩ := bd hf
  refine gcV_v (k := 1) (o := 26) (As := [.long ((v2 / 100).toInt64), .long ((v2 - v2 / 100 * 100).toInt64)]) (rest := []) hx hb hml hown hts hK hSt hP hS hl.1 (goodV wm_33_5 wm_33_6 wm_33_7 wm_2_15 wm_33_8) okX2_become ct_26 rfl rfl (Nat.le_of_ble_eq_true rfl) (Nat.le_of_ble_eq_true rfl) rfl rfl (Nat.le_of_ble_eq_true rfl) dX10_straight_64 (kX2_become l D G ad had n 26 isFr_lit_26 ((v2 / 100).toInt64) ((v2 - v2 / 100 * 100).toInt64) st q hq) (fun H locs hP hS => ?_)
  exact wX10_straight_s67 C n v3 q.2 res hf H locs ls (lv_sub hl [0, 2] rfl) hP hS
def fX10_straight_s27 (n : Nat)   (v1 : Int32) (v2 : Int32) (v3 : Int32) (st : St) : Option (Int32 × St) := (fX2_become n 25 ((v1 / 100).toInt64) ((v1 - v1 / 100 * 100).toInt64) st).bind (fun q => fX10_straight_s47 n v2 v3 q.2)
set_option maxHeartbeats 4000000 in
set_option maxRecDepth 100000 in
theorem wX10_straight_s27 (C : Cx p s m args meth c cX10_straight 4 wsL_law RX10 (some .int) D G ad) (n : Nat)   (v1 : Int32) (v2 : Int32) (v3 : Int32)   (st : St) (res : (Int32 × St))  (hf : fX10_straight_s27 n   v1 v2 v3 st = some res) : At p l e (rmK 2) s m args below meth c D G ad (MQI D G ad below args s res) 4 st [(0, .ref (ad 0)), (1, .int v1), (2, .int v2), (3, .int v3)] 27 [] := by
  obtain ⟨hx, hb, hml, hown, hts, hr, hlk, hK, had, hSt⟩ := id C
  intro H locs ls hl hP hS
  unfold fX10_straight_s27 at hf
  refine lv_aload_n hx hb dX10_straight_27 rfl (lv_at hl 0 rfl) ?_
  refine g_getR hx hb hts inlX10 hown hK hP 0 ct_0 rfl 5 (by decide) (hts _ wm_2_12) rfl dX10_straight_28 ?_
  refine g_getR hx hb hts inlX4 hown hK hP 24 ct_24 rfl 0 (by decide) (hts _ wm_34_16) rfl dX10_straight_31 ?_
  refine lv_iload_n hx hb dX10_straight_34 rfl (lv_at hl 1 rfl) ?_
  refine lv_bipush (v := 100) hx hb dX10_straight_35 (by decide) ?_
  refine lv_idiv hx hb dX10_straight_37 (by decide) ?_
  refine lv_i2l hx hb dX10_straight_38 rfl ?_
  refine lv_iload_n hx hb dX10_straight_39 rfl (lv_at hl 1 rfl) ?_
  refine lv_bipush (v := 100) hx hb dX10_straight_40 (by decide) ?_
  refine lv_irem hx hb dX10_straight_42 (by decide) ?_
  refine lv_i2l hx hb dX10_straight_43 rfl ?_
  obtain ⟨q, hq, hf⟩ := bd hf
  refine gcV_v (k := 1) (o := 25) (As := [.long ((v1 / 100).toInt64), .long ((v1 - v1 / 100 * 100).toInt64)]) (rest := []) hx hb hml hown hts hK hSt hP hS hl.1 (goodV wm_33_5 wm_33_6 wm_33_7 wm_2_15 wm_33_8) okX2_become ct_25 rfl rfl (Nat.le_of_ble_eq_true rfl) (Nat.le_of_ble_eq_true rfl) rfl rfl (Nat.le_of_ble_eq_true rfl) dX10_straight_44 (kX2_become l D G ad had n 25 isFr_lit_25 ((v1 / 100).toInt64) ((v1 - v1 / 100 * 100).toInt64) st q hq) (fun H locs hP hS => ?_)
  exact wX10_straight_s47 C n v2 v3 q.2 res hf H locs ls (lv_sub hl [0, 2, 3] rfl) hP hS
def fX10_straight_s21 (n : Nat)   (v1 : Int32) (v2 : Int32) (v3 : Int32) (k0 : Int32) (st : St) : Option (Int32 × St) := if k0 = 0 then fX10_straight_s24 n st else fX10_straight_s27 n v1 v2 v3 st
set_option maxHeartbeats 4000000 in
set_option maxRecDepth 100000 in
theorem wX10_straight_s21 (C : Cx p s m args meth c cX10_straight 4 wsL_law RX10 (some .int) D G ad) (n : Nat)   (v1 : Int32) (v2 : Int32) (v3 : Int32) (k0 : Int32)   (st : St) (res : (Int32 × St))  (hf : fX10_straight_s21 n   v1 v2 v3 k0 st = some res) : At p l e (rmK 2) s m args below meth c D G ad (MQI D G ad below args s res) 4 st [(0, .ref (ad 0)), (1, .int v1), (2, .int v2), (3, .int v3)] 21 [.int k0] := by
  obtain ⟨hx, hb, hml, hown, hts, hr, hlk, hK, had, hSt⟩ := id C
  intro H locs ls hl hP hS
  unfold fX10_straight_s21 at hf
  refine lv_if_ne (tgt := 27) hx hb dX10_straight_21 (by decide) (fun q => ?_) (fun q => ?_)
  · exact wX10_straight_s27 C n v1 v2 v3 st res (ie hf q) H locs ls (lv_sub hl [0, 1, 2, 3] rfl) hP hS
  · exact wX10_straight_s24 C n st res (it hf q) H locs ls (lv_sub hl [] rfl) hP hS
def fX10_straight_s14 (n : Nat)   (v1 : Int32) (v2 : Int32) (v3 : Int32) (st : St) : Option (Int32 × St) := (fX10_within n v3 1 8 st).bind (fun q => fX10_straight_s21 n v1 v2 v3 q.1 q.2)
set_option maxHeartbeats 4000000 in
set_option maxRecDepth 100000 in
theorem wX10_straight_s14 (C : Cx p s m args meth c cX10_straight 4 wsL_law RX10 (some .int) D G ad) (n : Nat)   (v1 : Int32) (v2 : Int32) (v3 : Int32)   (st : St) (res : (Int32 × St))  (hf : fX10_straight_s14 n   v1 v2 v3 st = some res) : At p l e (rmK 2) s m args below meth c D G ad (MQI D G ad below args s res) 4 st [(0, .ref (ad 0)), (1, .int v1), (2, .int v2), (3, .int v3)] 14 [] := by
  obtain ⟨hx, hb, hml, hown, hts, hr, hlk, hK, had, hSt⟩ := id C
  intro H locs ls hl hP hS
  unfold fX10_straight_s14 at hf
  refine lv_iload_n hx hb dX10_straight_14 rfl (lv_at hl 3 rfl) ?_
  refine lv_iconst (v := 1) hx hb dX10_straight_15 (by decide) ?_
  refine lv_bipush (v := 8) hx hb dX10_straight_16 (by decide) ?_
  obtain ⟨q, hq, hf⟩ := bd hf
  refine gcS_i (k := 0) (As := [.int v3, .int 1, .int 8]) (rest := []) hx hb hml hown hts hK hSt hP hS hl.1 (goodS wm_9_17 wm_9_18 wm_1_2 wm_9_19) okX10_within (Nat.le_of_ble_eq_true rfl) (Nat.le_of_ble_eq_true rfl) rfl rfl (Nat.le_of_ble_eq_true rfl) dX10_straight_18 (kX10_within l D G ad had n  v3 1 8 st q hq) (fun H locs hP hS => ?_)
  exact wX10_straight_s21 C n v1 v2 v3 q.1 q.2 res hf H locs ls (lv_sub hl [0, 1, 2, 3] rfl) hP hS
def fX10_straight_s11 (n : Nat)   (v1 : Int32) (v2 : Int32) (v3 : Int32) (k0 : Int32) (st : St) : Option (Int32 × St) := if k0 = 0 then fX10_straight_s24 n st else fX10_straight_s14 n v1 v2 v3 st
set_option maxHeartbeats 4000000 in
set_option maxRecDepth 100000 in
theorem wX10_straight_s11 (C : Cx p s m args meth c cX10_straight 4 wsL_law RX10 (some .int) D G ad) (n : Nat)   (v1 : Int32) (v2 : Int32) (v3 : Int32) (k0 : Int32)   (st : St) (res : (Int32 × St))  (hf : fX10_straight_s11 n   v1 v2 v3 k0 st = some res) : At p l e (rmK 2) s m args below meth c D G ad (MQI D G ad below args s res) 4 st [(0, .ref (ad 0)), (1, .int v1), (2, .int v2), (3, .int v3)] 11 [.int k0] := by
  obtain ⟨hx, hb, hml, hown, hts, hr, hlk, hK, had, hSt⟩ := id C
  intro H locs ls hl hP hS
  unfold fX10_straight_s11 at hf
  refine lv_if_eq (tgt := 24) hx hb dX10_straight_11 (by decide) (fun q => ?_) (fun q => ?_)
  · exact wX10_straight_s24 C n st res (it hf q) H locs ls (lv_sub hl [] rfl) hP hS
  · exact wX10_straight_s14 C n v1 v2 v3 st res (ie hf q) H locs ls (lv_sub hl [0, 1, 2, 3] rfl) hP hS
def fX10_straight_s7 (n : Nat)   (v1 : Int32) (v2 : Int32) (v3 : Int32) (st : St) : Option (Int32 × St) := (fX10_isShare n v2 st).bind (fun q => fX10_straight_s11 n v1 v2 v3 q.1 q.2)
set_option maxHeartbeats 4000000 in
set_option maxRecDepth 100000 in
theorem wX10_straight_s7 (C : Cx p s m args meth c cX10_straight 4 wsL_law RX10 (some .int) D G ad) (n : Nat)   (v1 : Int32) (v2 : Int32) (v3 : Int32)   (st : St) (res : (Int32 × St))  (hf : fX10_straight_s7 n   v1 v2 v3 st = some res) : At p l e (rmK 2) s m args below meth c D G ad (MQI D G ad below args s res) 4 st [(0, .ref (ad 0)), (1, .int v1), (2, .int v2), (3, .int v3)] 7 [] := by
  obtain ⟨hx, hb, hml, hown, hts, hr, hlk, hK, had, hSt⟩ := id C
  intro H locs ls hl hP hS
  unfold fX10_straight_s7 at hf
  refine lv_iload_n hx hb dX10_straight_7 rfl (lv_at hl 2 rfl) ?_
  obtain ⟨q, hq, hf⟩ := bd hf
  refine gcS_i (k := 1) (As := [.int v2]) (rest := []) hx hb hml hown hts hK hSt hP hS hl.1 (goodS wm_34_19 wm_34_20 wm_1_2 wm_34_21) okX10_isShare (Nat.le_of_ble_eq_true rfl) (Nat.le_of_ble_eq_true rfl) rfl rfl (Nat.le_of_ble_eq_true rfl) dX10_straight_8 (kX10_isShare l D G ad had n  v2 st q hq) (fun H locs hP hS => ?_)
  exact wX10_straight_s11 C n v1 v2 v3 q.1 q.2 res hf H locs ls (lv_sub hl [0, 1, 2, 3] rfl) hP hS
def fX10_straight_s4 (n : Nat)   (v1 : Int32) (v2 : Int32) (v3 : Int32) (k0 : Int32) (st : St) : Option (Int32 × St) := if k0 = 0 then fX10_straight_s24 n st else fX10_straight_s7 n v1 v2 v3 st
set_option maxHeartbeats 4000000 in
set_option maxRecDepth 100000 in
theorem wX10_straight_s4 (C : Cx p s m args meth c cX10_straight 4 wsL_law RX10 (some .int) D G ad) (n : Nat)   (v1 : Int32) (v2 : Int32) (v3 : Int32) (k0 : Int32)   (st : St) (res : (Int32 × St))  (hf : fX10_straight_s4 n   v1 v2 v3 k0 st = some res) : At p l e (rmK 2) s m args below meth c D G ad (MQI D G ad below args s res) 4 st [(0, .ref (ad 0)), (1, .int v1), (2, .int v2), (3, .int v3)] 4 [.int k0] := by
  obtain ⟨hx, hb, hml, hown, hts, hr, hlk, hK, had, hSt⟩ := id C
  intro H locs ls hl hP hS
  unfold fX10_straight_s4 at hf
  refine lv_if_eq (tgt := 24) hx hb dX10_straight_4 (by decide) (fun q => ?_) (fun q => ?_)
  · exact wX10_straight_s24 C n st res (it hf q) H locs ls (lv_sub hl [] rfl) hP hS
  · exact wX10_straight_s7 C n v1 v2 v3 st res (ie hf q) H locs ls (lv_sub hl [0, 1, 2, 3] rfl) hP hS
def fX10_straight_s0 (n : Nat)   (v1 : Int32) (v2 : Int32) (v3 : Int32) (st : St) : Option (Int32 × St) := (fX10_isShare n v1 st).bind (fun q => fX10_straight_s4 n v1 v2 v3 q.1 q.2)
set_option maxHeartbeats 4000000 in
set_option maxRecDepth 100000 in
theorem wX10_straight_s0 (C : Cx p s m args meth c cX10_straight 4 wsL_law RX10 (some .int) D G ad) (n : Nat)   (v1 : Int32) (v2 : Int32) (v3 : Int32)   (st : St) (res : (Int32 × St))  (hf : fX10_straight_s0 n   v1 v2 v3 st = some res) : At p l e (rmK 2) s m args below meth c D G ad (MQI D G ad below args s res) 4 st [(0, .ref (ad 0)), (1, .int v1), (2, .int v2), (3, .int v3)] 0 [] := by
  obtain ⟨hx, hb, hml, hown, hts, hr, hlk, hK, had, hSt⟩ := id C
  intro H locs ls hl hP hS
  unfold fX10_straight_s0 at hf
  refine lv_iload_n hx hb dX10_straight_0 rfl (lv_at hl 1 rfl) ?_
  obtain ⟨q, hq, hf⟩ := bd hf
  refine gcS_i (k := 1) (As := [.int v1]) (rest := []) hx hb hml hown hts hK hSt hP hS hl.1 (goodS wm_34_19 wm_34_20 wm_1_2 wm_34_21) okX10_isShare (Nat.le_of_ble_eq_true rfl) (Nat.le_of_ble_eq_true rfl) rfl rfl (Nat.le_of_ble_eq_true rfl) dX10_straight_1 (kX10_isShare l D G ad had n  v1 st q hq) (fun H locs hP hS => ?_)
  exact wX10_straight_s4 C n v1 v2 v3 q.1 q.2 res hf H locs ls (lv_sub hl [0, 1, 2, 3] rfl) hP hS
def fX10_straight (n : Nat)  (a1 : Int32) (a2 : Int32) (a3 : Int32) (st : St) : Option (Int32 × St) := fX10_straight_s0 n a1 a2 a3 st
theorem okX10_straight : okY yX10_straight RX10 3 := by unfold okY; decide +kernel
end
set_option maxRecDepth 100000 in
theorem kX10_straight (l : Launch) (D : va_G) (G : G3) (ad : Nat → Nat) (had : Adr ad) (n : Nat)   (a1 : Int32) (a2 : Int32) (a3 : Int32) (st : St) (res : (Int32 × St)) (hf : fX10_straight n  a1 a2 a3 st = some res) {sz : Nat} : CtI l yX10_straight (wsU yX10_straight cX10_straight 4 (some .int)) (rmK 2) D G ad sz [.ref (ad 0), .int a1, .int a2, .int a3] st res := by
  refine Met.ofW (cc := cX10_straight) (maxL := 4) (ret := (some .int)) (by decide) rfl ?_
  intro p e s m args below meth c s₁ B hml hv
  obtain ⟨rfl, hsz, hP, hK, hSt⟩ := hv
  have hts := atoms_spec (ws := wsU yX10_straight cX10_straight 4 (some .int)) B.pre
  have C : Cx p s m _ meth c cX10_straight 4 wsL_law RX10 (some .int) D G ad := ⟨B.exec, B.bytes, hml, findClass_of_methodNamed B.named, fun w h => hts w (List.mem_cons_of_mem _ h), B.returns, B.notSynchronized, hK, had, hSt⟩
  subst hsz
  have hl := lv_entry ([.ref (ad 0), .int a1, .int a2, .int a3]) (n := 4) (Nat.le_of_ble_eq_true rfl)
  rw [lg_entry_eq]
  generalize (lg_sl ([.ref (ad 0), .int a1, .int a2, .int a3]) ++ List.replicate (4 - (lg_sl ([.ref (ad 0), .int a1, .int a2, .int a3])).length) Slot.unset).toArray = ls at hl ⊢
  exact wX10_straight_s0 C n  a1 a2 a3   st res hf s.heap [] ls (lv_sub hl [0, 1, 2, 3] rfl) hP va_S.rf
section
variable {p : Program} {l : Launch} {e : Env} {s : State} {m : MethodId} {args : Array Value} {below : List Frame} {meth : Method} {c : Code} {D : va_G} {G : G3} {ad : Nat → Nat}
def fX10_echo_s19 (n : Nat)    (st : St) : Option (Int64 × St) := some ((-9223372036854775808), st)
set_option maxHeartbeats 4000000 in
set_option maxRecDepth 100000 in
theorem wX10_echo_s19 (C : Cx p s m args meth c cX10_echo 4 wsL_law RX10 (some .long) D G ad) (n : Nat)      (st : St) (res : (Int64 × St))  (hf : fX10_echo_s19 n    st = some res) : At p l e (rmK 4) s m args below meth c D G ad (MQJ D G ad below args s res) 4 st [] 19 [] := by
  obtain ⟨hx, hb, hml, hown, hts, hr, hlk, hK, had, hSt⟩ := id C
  intro H locs ls hl hP hS
  unfold fX10_echo_s19 at hf
  refine lv_ldc2 hx hb hown (hts _ wm_14_6) dX10_echo_19 ?_
  exact g_lret hx hb hr hlk hP hS dX10_echo_22 hf
def fX10_echo_s62 (n : Nat)   (k0 : Int64) (st : St) : Option (Int64 × St) := some (k0, st)
set_option maxHeartbeats 4000000 in
set_option maxRecDepth 100000 in
theorem wX10_echo_s62 (C : Cx p s m args meth c cX10_echo 4 wsL_law RX10 (some .long) D G ad) (n : Nat)   (k0 : Int64)   (st : St) (res : (Int64 × St))  (hf : fX10_echo_s62 n   k0 st = some res) : At p l e (rmK 4) s m args below meth c D G ad (MQJ D G ad below args s res) 4 st [] 62 [.long k0] := by
  obtain ⟨hx, hb, hml, hown, hts, hr, hlk, hK, had, hSt⟩ := id C
  intro H locs ls hl hP hS
  unfold fX10_echo_s62 at hf
  exact g_lret hx hb hr hlk hP hS dX10_echo_62 hf
def fX10_echo_s51 (n : Nat)   (v2 : Int32) (st : St) : Option (Int64 × St) := (fX2_tell n 32 v2 st).bind (fun q => fX10_echo_s62 n q.1 q.2)
set_option maxHeartbeats 4000000 in
set_option maxRecDepth 100000 in
theorem wX10_echo_s51 (C : Cx p s m args meth c cX10_echo 4 wsL_law RX10 (some .long) D G ad) (n : Nat)   (v2 : Int32)   (st : St) (res : (Int64 × St))  (hf : fX10_echo_s51 n   v2 st = some res) : At p l e (rmK 4) s m args below meth c D G ad (MQJ D G ad below args s res) 4 st [(0, .ref (ad 0)), (2, .int v2)] 51 [] := by
  obtain ⟨hx, hb, hml, hown, hts, hr, hlk, hK, had, hSt⟩ := id C
  intro H locs ls hl hP hS
  unfold fX10_echo_s51 at hf
  refine lv_aload_n hx hb dX10_echo_51 rfl (lv_at hl 0 rfl) ?_
  refine g_getR hx hb hts inlX10 hown hK hP 0 ct_0 rfl 5 (by decide) (hts _ wm_2_12) rfl dX10_echo_52 ?_
  refine g_getR hx hb hts inlX4 hown hK hP 24 ct_24 rfl 7 (by decide) (hts _ wm_35_9) rfl dX10_echo_55 ?_
  refine lv_iload_n hx hb dX10_echo_58 rfl (lv_at hl 1 rfl) ?_
  obtain ⟨q, hq, hf⟩ := bd hf
  refine gcV_j (k := 0) (o := 32) (As := [.int v2]) (rest := []) hx hb hml hown hts hK hSt hP hS hl.1 (goodV wm_33_22 wm_33_23 wm_34_0 wm_2_15 wm_34_1) okX2_tell ct_32 rfl rfl (Nat.le_of_ble_eq_true rfl) (Nat.le_of_ble_eq_true rfl) rfl rfl (Nat.le_of_ble_eq_true rfl) dX10_echo_59 (kX2_tell l D G ad had n 32 isFr_lit_32 v2 st q hq) (fun H locs hP hS => ?_)
  exact wX10_echo_s62 C n q.1 q.2 res hf H locs ls (lv_sub hl [] rfl) hP hS
def fX10_echo_s45 (n : Nat) (K32 : Int32 → Int32 → Int32 → St → Option (Int64 × St))  (v1 : Int32) (v2 : Int32) (v3 : Int32) (st : St) : Option (Int64 × St) := K32 v1 v2 (v3 + 1) st
set_option maxHeartbeats 4000000 in
set_option maxRecDepth 100000 in
theorem wX10_echo_s45 (C : Cx p s m args meth c cX10_echo 4 wsL_law RX10 (some .long) D G ad) (n : Nat) (K32 : Int32 → Int32 → Int32 → St → Option (Int64 × St))  (v1 : Int32) (v2 : Int32) (v3 : Int32)   (st : St) (res : (Int64 × St)) (hK32 : ∀ (v1 : Int32) (v2 : Int32) (v3 : Int32) (st : St), K32 v1 v2 v3 st = some res → At p l e (rmK 4) s m args below meth c D G ad (MQJ D G ad below args s res) 4 st [(0, .ref (ad 0)), (1, .int v1), (2, .int v2), (3, .int v3)] 32 []) (hf : fX10_echo_s45 n K32  v1 v2 v3 st = some res) : At p l e (rmK 4) s m args below meth c D G ad (MQJ D G ad below args s res) 4 st [(0, .ref (ad 0)), (1, .int v1), (2, .int v2), (3, .int v3)] 45 [] := by
  obtain ⟨hx, hb, hml, hown, hts, hr, hlk, hK, had, hSt⟩ := id C
  intro H locs ls hl hP hS
  unfold fX10_echo_s45 at hf
  refine lv_iinc (v := v3 + 1) (lv' := [(3, .int (v3 + 1)), (0, .ref (ad 0)), (1, .int v1), (2, .int v2)]) hx hb dX10_echo_45 hl (k := 3) rfl rfl (by decide) rfl (fun ls hl => ?_)
  refine lv_goto (tgt := 32) hx hb dX10_echo_48 (by decide) ?_
  exact hK32 v1 v2 (v3 + 1)  st hf H locs ls (lv_sub hl [1, 2, 3, 0] rfl) hP hS
def fX10_echo_s37 (n : Nat) (K32 : Int32 → Int32 → Int32 → St → Option (Int64 × St))  (v1 : Int32) (v2 : Int32) (v3 : Int32) (st : St) : Option (Int64 × St) := (fX4_pass n v3 st).bind (fun q => fX10_echo_s45 n K32 v1 v2 v3 q.2)
set_option maxHeartbeats 4000000 in
set_option maxRecDepth 100000 in
theorem wX10_echo_s37 (C : Cx p s m args meth c cX10_echo 4 wsL_law RX10 (some .long) D G ad) (n : Nat) (K32 : Int32 → Int32 → Int32 → St → Option (Int64 × St))  (v1 : Int32) (v2 : Int32) (v3 : Int32)   (st : St) (res : (Int64 × St)) (hK32 : ∀ (v1 : Int32) (v2 : Int32) (v3 : Int32) (st : St), K32 v1 v2 v3 st = some res → At p l e (rmK 4) s m args below meth c D G ad (MQJ D G ad below args s res) 4 st [(0, .ref (ad 0)), (1, .int v1), (2, .int v2), (3, .int v3)] 32 []) (hf : fX10_echo_s37 n K32  v1 v2 v3 st = some res) : At p l e (rmK 4) s m args below meth c D G ad (MQJ D G ad below args s res) 4 st [(0, .ref (ad 0)), (1, .int v1), (2, .int v2), (3, .int v3)] 37 [] := by
  obtain ⟨hx, hb, hml, hown, hts, hr, hlk, hK, had, hSt⟩ := id C
  intro H locs ls hl hP hS
  unfold fX10_echo_s37 at hf
  refine lv_aload_n hx hb dX10_echo_37 rfl (lv_at hl 0 rfl) ?_
  refine g_getR hx hb hts inlX10 hown hK hP 0 ct_0 rfl 5 (by decide) (hts _ wm_2_12) rfl dX10_echo_38 ?_
  refine lv_iload_n hx hb dX10_echo_41 rfl (lv_at hl 3 rfl) ?_
  obtain ⟨q, hq, hf⟩ := bd hf
  refine gcV_v (k := 3) (o := 24) (As := [.int v3]) (rest := []) hx hb hml hown hts hK hSt hP hS hl.1 (goodV wm_35_15 wm_35_16 wm_35_17 wm_2_11 wm_35_18) okX4_pass ct_24 rfl rfl (Nat.le_of_ble_eq_true rfl) (Nat.le_of_ble_eq_true rfl) rfl rfl (Nat.le_of_ble_eq_true rfl) dX10_echo_42 (kX4_pass l D G ad had n  v3 st q hq) (fun H locs hP hS => ?_)
  exact wX10_echo_s45 C n K32 v1 v2 v3 q.2 res hK32 hf H locs ls (lv_sub hl [0, 1, 2, 3] rfl) hP hS
def fX10_echo_s32 (n : Nat) (K32 : Int32 → Int32 → Int32 → St → Option (Int64 × St))  (v1 : Int32) (v2 : Int32) (v3 : Int32) (st : St) : Option (Int64 × St) := if v1 < v3 then fX10_echo_s51 n v2 st else fX10_echo_s37 n K32 v1 v2 v3 st
set_option maxHeartbeats 4000000 in
set_option maxRecDepth 100000 in
theorem wX10_echo_s32 (C : Cx p s m args meth c cX10_echo 4 wsL_law RX10 (some .long) D G ad) (n : Nat) (K32 : Int32 → Int32 → Int32 → St → Option (Int64 × St))  (v1 : Int32) (v2 : Int32) (v3 : Int32)   (st : St) (res : (Int64 × St)) (hK32 : ∀ (v1 : Int32) (v2 : Int32) (v3 : Int32) (st : St), K32 v1 v2 v3 st = some res → At p l e (rmK 4) s m args below meth c D G ad (MQJ D G ad below args s res) 4 st [(0, .ref (ad 0)), (1, .int v1), (2, .int v2), (3, .int v3)] 32 []) (hf : fX10_echo_s32 n K32  v1 v2 v3 st = some res) : At p l e (rmK 4) s m args below meth c D G ad (MQJ D G ad below args s res) 4 st [(0, .ref (ad 0)), (1, .int v1), (2, .int v2), (3, .int v3)] 32 [] := by
  obtain ⟨hx, hb, hml, hown, hts, hr, hlk, hK, had, hSt⟩ := id C
  intro H locs ls hl hP hS
  unfold fX10_echo_s32 at hf
  refine lv_iload_n hx hb dX10_echo_32 rfl (lv_at hl 3 rfl) ?_
  refine lv_iload_n hx hb dX10_echo_33 rfl (lv_at hl 1 rfl) ?_
  refine lv_icmp_gt (tgt := 51) hx hb dX10_echo_34 (by decide) (fun q => ?_) (fun q => ?_)
  · exact wX10_echo_s51 C n v2 st res (it hf q) H locs ls (lv_sub hl [0, 2] rfl) hP hS
  · exact wX10_echo_s37 C n K32 v1 v2 v3 st res hK32 (ie hf q) H locs ls (lv_sub hl [0, 1, 2, 3] rfl) hP hS
def fX10_echo_L32 (n : Nat)   : Nat → Int32 → Int32 → Int32 → St → Option (Int64 × St)
  | 0, _, _, _, _ => none
  | k + 1, v1, v2, v3, st => fX10_echo_s32 n (fX10_echo_L32 n k)  v1 v2 v3 st
theorem wX10_echo_L32 (C : Cx p s m args meth c cX10_echo 4 wsL_law RX10 (some .long) D G ad) (n : Nat)    (res : (Int64 × St))  : ∀ (k : Nat) (v1 : Int32) (v2 : Int32) (v3 : Int32)  (st : St), fX10_echo_L32 n k v1 v2 v3 st = some res → At p l e (rmK 4) s m args below meth c D G ad (MQJ D G ad below args s res) 4 st [(0, .ref (ad 0)), (1, .int v1), (2, .int v2), (3, .int v3)] 32 [] := by
  intro k
  induction k with
  | zero => intro v1 v2 v3  st h; exact absurd h (by intro q; cases q)
  | succ k ih => intro v1 v2 v3  st h; exact wX10_echo_s32 C n (fX10_echo_L32 n k)  v1 v2 v3   st res ih h
def fX10_echo_s30 (n : Nat)   (v1 : Int32) (v2 : Int32) (st : St) : Option (Int64 × St) := fX10_echo_L32 n n v1 v2 0 st
set_option maxHeartbeats 4000000 in
set_option maxRecDepth 100000 in
theorem wX10_echo_s30 (C : Cx p s m args meth c cX10_echo 4 wsL_law RX10 (some .long) D G ad) (n : Nat)   (v1 : Int32) (v2 : Int32)   (st : St) (res : (Int64 × St))  (hf : fX10_echo_s30 n   v1 v2 st = some res) : At p l e (rmK 4) s m args below meth c D G ad (MQJ D G ad below args s res) 4 st [(0, .ref (ad 0)), (1, .int v1), (2, .int v2)] 30 [] := by
  obtain ⟨hx, hb, hml, hown, hts, hr, hlk, hK, had, hSt⟩ := id C
  intro H locs ls hl hP hS
  unfold fX10_echo_s30 at hf
  refine lv_iconst (v := 0) hx hb dX10_echo_30 (by decide) ?_
  refine lv_istore_n (lv' := [(3, .int 0), (0, .ref (ad 0)), (1, .int v1), (2, .int v2)]) hx hb dX10_echo_31 rfl hl (by decide) rfl (fun ls hl => ?_)
  exact wX10_echo_L32 C n res n v1 v2 0 st hf H locs ls (lv_sub hl [1, 2, 3, 0] rfl) hP hS
def fX10_echo_s23 (n : Nat)   (v1 : Int32) (v2 : Int32) (st : St) : Option (Int64 × St) := (fX4_begin n st).bind (fun q => fX10_echo_s30 n v1 v2 q.2)
set_option maxHeartbeats 4000000 in
set_option maxRecDepth 100000 in
theorem wX10_echo_s23 (C : Cx p s m args meth c cX10_echo 4 wsL_law RX10 (some .long) D G ad) (n : Nat)   (v1 : Int32) (v2 : Int32)   (st : St) (res : (Int64 × St))  (hf : fX10_echo_s23 n   v1 v2 st = some res) : At p l e (rmK 4) s m args below meth c D G ad (MQJ D G ad below args s res) 4 st [(0, .ref (ad 0)), (1, .int v1), (2, .int v2)] 23 [] := by
  obtain ⟨hx, hb, hml, hown, hts, hr, hlk, hK, had, hSt⟩ := id C
  intro H locs ls hl hP hS
  unfold fX10_echo_s23 at hf
  refine lv_aload_n hx hb dX10_echo_23 rfl (lv_at hl 0 rfl) ?_
  refine g_getR hx hb hts inlX10 hown hK hP 0 ct_0 rfl 5 (by decide) (hts _ wm_2_12) rfl dX10_echo_24 ?_
  obtain ⟨q, hq, hf⟩ := bd hf
  refine gcV_v (k := 2) (o := 24) (As := []) (rest := []) hx hb hml hown hts hK hSt hP hS hl.1 (goodV wm_35_10 wm_35_11 wm_35_12 wm_2_11 wm_35_13) okX4_begin ct_24 rfl rfl (Nat.le_of_ble_eq_true rfl) (Nat.le_of_ble_eq_true rfl) rfl rfl (Nat.le_of_ble_eq_true rfl) dX10_echo_27 (kX4_begin l D G ad had n   st q hq) (fun H locs hP hS => ?_)
  exact wX10_echo_s30 C n v1 v2 q.2 res hf H locs ls (lv_sub hl [0, 1, 2] rfl) hP hS
def fX10_echo_s16 (n : Nat)   (v1 : Int32) (v2 : Int32) (k0 : Int32) (st : St) : Option (Int64 × St) := if k0 = 0 then fX10_echo_s19 n st else fX10_echo_s23 n v1 v2 st
set_option maxHeartbeats 4000000 in
set_option maxRecDepth 100000 in
theorem wX10_echo_s16 (C : Cx p s m args meth c cX10_echo 4 wsL_law RX10 (some .long) D G ad) (n : Nat)   (v1 : Int32) (v2 : Int32) (k0 : Int32)   (st : St) (res : (Int64 × St))  (hf : fX10_echo_s16 n   v1 v2 k0 st = some res) : At p l e (rmK 4) s m args below meth c D G ad (MQJ D G ad below args s res) 4 st [(0, .ref (ad 0)), (1, .int v1), (2, .int v2)] 16 [.int k0] := by
  obtain ⟨hx, hb, hml, hown, hts, hr, hlk, hK, had, hSt⟩ := id C
  intro H locs ls hl hP hS
  unfold fX10_echo_s16 at hf
  refine lv_if_ne (tgt := 23) hx hb dX10_echo_16 (by decide) (fun q => ?_) (fun q => ?_)
  · exact wX10_echo_s23 C n v1 v2 st res (ie hf q) H locs ls (lv_sub hl [0, 1, 2] rfl) hP hS
  · exact wX10_echo_s19 C n st res (it hf q) H locs ls (lv_sub hl [] rfl) hP hS
def fX10_echo_s10 (n : Nat)   (v1 : Int32) (v2 : Int32) (st : St) : Option (Int64 × St) := (fX10_within n v2 0 1 st).bind (fun q => fX10_echo_s16 n v1 v2 q.1 q.2)
set_option maxHeartbeats 4000000 in
set_option maxRecDepth 100000 in
theorem wX10_echo_s10 (C : Cx p s m args meth c cX10_echo 4 wsL_law RX10 (some .long) D G ad) (n : Nat)   (v1 : Int32) (v2 : Int32)   (st : St) (res : (Int64 × St))  (hf : fX10_echo_s10 n   v1 v2 st = some res) : At p l e (rmK 4) s m args below meth c D G ad (MQJ D G ad below args s res) 4 st [(0, .ref (ad 0)), (1, .int v1), (2, .int v2)] 10 [] := by
  obtain ⟨hx, hb, hml, hown, hts, hr, hlk, hK, had, hSt⟩ := id C
  intro H locs ls hl hP hS
  unfold fX10_echo_s10 at hf
  refine lv_iload_n hx hb dX10_echo_10 rfl (lv_at hl 2 rfl) ?_
  refine lv_iconst (v := 0) hx hb dX10_echo_11 (by decide) ?_
  refine lv_iconst (v := 1) hx hb dX10_echo_12 (by decide) ?_
  obtain ⟨q, hq, hf⟩ := bd hf
  refine gcS_i (k := 0) (As := [.int v2, .int 0, .int 1]) (rest := []) hx hb hml hown hts hK hSt hP hS hl.1 (goodS wm_9_17 wm_9_18 wm_1_2 wm_9_19) okX10_within (Nat.le_of_ble_eq_true rfl) (Nat.le_of_ble_eq_true rfl) rfl rfl (Nat.le_of_ble_eq_true rfl) dX10_echo_13 (kX10_within l D G ad had n  v2 0 1 st q hq) (fun H locs hP hS => ?_)
  exact wX10_echo_s16 C n v1 v2 q.1 q.2 res hf H locs ls (lv_sub hl [0, 1, 2] rfl) hP hS
def fX10_echo_s7 (n : Nat)   (v1 : Int32) (v2 : Int32) (k0 : Int32) (st : St) : Option (Int64 × St) := if k0 = 0 then fX10_echo_s19 n st else fX10_echo_s10 n v1 v2 st
set_option maxHeartbeats 4000000 in
set_option maxRecDepth 100000 in
theorem wX10_echo_s7 (C : Cx p s m args meth c cX10_echo 4 wsL_law RX10 (some .long) D G ad) (n : Nat)   (v1 : Int32) (v2 : Int32) (k0 : Int32)   (st : St) (res : (Int64 × St))  (hf : fX10_echo_s7 n   v1 v2 k0 st = some res) : At p l e (rmK 4) s m args below meth c D G ad (MQJ D G ad below args s res) 4 st [(0, .ref (ad 0)), (1, .int v1), (2, .int v2)] 7 [.int k0] := by
  obtain ⟨hx, hb, hml, hown, hts, hr, hlk, hK, had, hSt⟩ := id C
  intro H locs ls hl hP hS
  unfold fX10_echo_s7 at hf
  refine lv_if_eq (tgt := 19) hx hb dX10_echo_7 (by decide) (fun q => ?_) (fun q => ?_)
  · exact wX10_echo_s19 C n st res (it hf q) H locs ls (lv_sub hl [] rfl) hP hS
  · exact wX10_echo_s10 C n v1 v2 st res (ie hf q) H locs ls (lv_sub hl [0, 1, 2] rfl) hP hS
def fX10_echo_s0 (n : Nat)   (v1 : Int32) (v2 : Int32) (st : St) : Option (Int64 × St) := (fX10_within n v1 0 30 st).bind (fun q => fX10_echo_s7 n v1 v2 q.1 q.2)
set_option maxHeartbeats 4000000 in
set_option maxRecDepth 100000 in
theorem wX10_echo_s0 (C : Cx p s m args meth c cX10_echo 4 wsL_law RX10 (some .long) D G ad) (n : Nat)   (v1 : Int32) (v2 : Int32)   (st : St) (res : (Int64 × St))  (hf : fX10_echo_s0 n   v1 v2 st = some res) : At p l e (rmK 4) s m args below meth c D G ad (MQJ D G ad below args s res) 4 st [(0, .ref (ad 0)), (1, .int v1), (2, .int v2)] 0 [] := by
  obtain ⟨hx, hb, hml, hown, hts, hr, hlk, hK, had, hSt⟩ := id C
  intro H locs ls hl hP hS
  unfold fX10_echo_s0 at hf
  refine lv_iload_n hx hb dX10_echo_0 rfl (lv_at hl 1 rfl) ?_
  refine lv_iconst (v := 0) hx hb dX10_echo_1 (by decide) ?_
  refine lv_bipush (v := 30) hx hb dX10_echo_2 (by decide) ?_
  obtain ⟨q, hq, hf⟩ := bd hf
  refine gcS_i (k := 0) (As := [.int v1, .int 0, .int 30]) (rest := []) hx hb hml hown hts hK hSt hP hS hl.1 (goodS wm_9_17 wm_9_18 wm_1_2 wm_9_19) okX10_within (Nat.le_of_ble_eq_true rfl) (Nat.le_of_ble_eq_true rfl) rfl rfl (Nat.le_of_ble_eq_true rfl) dX10_echo_4 (kX10_within l D G ad had n  v1 0 30 st q hq) (fun H locs hP hS => ?_)
  exact wX10_echo_s7 C n v1 v2 q.1 q.2 res hf H locs ls (lv_sub hl [0, 1, 2] rfl) hP hS
def fX10_echo (n : Nat)  (a1 : Int32) (a2 : Int32) (st : St) : Option (Int64 × St) := fX10_echo_s0 n a1 a2 st
theorem okX10_echo : okY yX10_echo RX10 2 := by unfold okY; decide +kernel
end
set_option maxRecDepth 100000 in
theorem kX10_echo (l : Launch) (D : va_G) (G : G3) (ad : Nat → Nat) (had : Adr ad) (n : Nat)   (a1 : Int32) (a2 : Int32) (st : St) (res : (Int64 × St)) (hf : fX10_echo n  a1 a2 st = some res) {sz : Nat} : CtJ l yX10_echo (wsU yX10_echo cX10_echo 4 (some .long)) (rmK 4) D G ad sz [.ref (ad 0), .int a1, .int a2] st res := by
  refine Met.ofW (cc := cX10_echo) (maxL := 4) (ret := (some .long)) (by decide) rfl ?_
  intro p e s m args below meth c s₁ B hml hv
  obtain ⟨rfl, hsz, hP, hK, hSt⟩ := hv
  have hts := atoms_spec (ws := wsU yX10_echo cX10_echo 4 (some .long)) B.pre
  have C : Cx p s m _ meth c cX10_echo 4 wsL_law RX10 (some .long) D G ad := ⟨B.exec, B.bytes, hml, findClass_of_methodNamed B.named, fun w h => hts w (List.mem_cons_of_mem _ h), B.returns, B.notSynchronized, hK, had, hSt⟩
  subst hsz
  have hl := lv_entry ([.ref (ad 0), .int a1, .int a2]) (n := 4) (Nat.le_of_ble_eq_true rfl)
  rw [lg_entry_eq]
  generalize (lg_sl ([.ref (ad 0), .int a1, .int a2]) ++ List.replicate (4 - (lg_sl ([.ref (ad 0), .int a1, .int a2])).length) Slot.unset).toArray = ls at hl ⊢
  exact wX10_echo_s0 C n  a1 a2   st res hf s.heap [] ls (lv_sub hl [0, 1, 2] rfl) hP va_S.rf
section
variable {p : Program} {l : Launch} {e : Env} {s : State} {m : MethodId} {args : Array Value} {below : List Frame} {meth : Method} {c : Code} {D : va_G} {G : G3} {ad : Nat → Nat}
def fX10_pole_s27 (n : Nat)    (st : St) : Option (Int64 × St) := some ((-9223372036854775808), st)
set_option maxHeartbeats 4000000 in
set_option maxRecDepth 100000 in
theorem wX10_pole_s27 (C : Cx p s m args meth c cX10_pole 4 wsL_law RX10 (some .long) D G ad) (n : Nat)      (st : St) (res : (Int64 × St))  (hf : fX10_pole_s27 n    st = some res) : At p l e (rmK 5) s m args below meth c D G ad (MQJ D G ad below args s res) 4 st [] 27 [] := by
  obtain ⟨hx, hb, hml, hown, hts, hr, hlk, hK, had, hSt⟩ := id C
  intro H locs ls hl hP hS
  unfold fX10_pole_s27 at hf
  refine lv_ldc2 hx hb hown (hts _ wm_14_6) dX10_pole_27 ?_
  exact g_lret hx hb hr hlk hP hS dX10_pole_30 hf
def fX10_pole_s79 (n : Nat)   (k0 : Int64) (st : St) : Option (Int64 × St) := some (k0, st)
set_option maxHeartbeats 4000000 in
set_option maxRecDepth 100000 in
theorem wX10_pole_s79 (C : Cx p s m args meth c cX10_pole 4 wsL_law RX10 (some .long) D G ad) (n : Nat)   (k0 : Int64)   (st : St) (res : (Int64 × St))  (hf : fX10_pole_s79 n   k0 st = some res) : At p l e (rmK 5) s m args below meth c D G ad (MQJ D G ad below args s res) 4 st [] 79 [.long k0] := by
  obtain ⟨hx, hb, hml, hown, hts, hr, hlk, hK, had, hSt⟩ := id C
  intro H locs ls hl hP hS
  unfold fX10_pole_s79 at hf
  exact g_lret hx hb hr hlk hP hS dX10_pole_79 hf
def fX10_pole_s75 (n : Nat)   (v3 : Int32) (q0 : Nat) (st : St) : Option (Int64 × St) := (fX2_tell n q0 v3 st).bind (fun q => fX10_pole_s79 n q.1 q.2)
set_option maxHeartbeats 4000000 in
set_option maxRecDepth 100000 in
theorem wX10_pole_s75 (C : Cx p s m args meth c cX10_pole 4 wsL_law RX10 (some .long) D G ad) (n : Nat)   (v3 : Int32) (q0 : Nat)  (hq0 : isFr q0) (st : St) (res : (Int64 × St))  (hf : fX10_pole_s75 n   v3 q0 st = some res) : At p l e (rmK 5) s m args below meth c D G ad (MQJ D G ad below args s res) 4 st [(3, .int v3)] 75 [.ref (ad q0)] := by
  obtain ⟨hx, hb, hml, hown, hts, hr, hlk, hK, had, hSt⟩ := id C
  intro H locs ls hl hP hS
  unfold fX10_pole_s75 at hf
  refine lv_iload_n hx hb dX10_pole_75 rfl (lv_at hl 0 rfl) ?_
  obtain ⟨q, hq, hf⟩ := bd hf
  refine gcV_j (k := 0) (o := q0) (As := [.int v3]) (rest := []) hx hb hml hown hts hK hSt hP hS hl.1 (goodV wm_33_22 wm_33_23 wm_34_0 wm_2_15 wm_34_1) okX2_tell (fr_0 hq0) rfl rfl (Nat.le_of_ble_eq_true rfl) (Nat.le_of_ble_eq_true rfl) rfl rfl (Nat.le_of_ble_eq_true rfl) dX10_pole_76 (kX2_tell l D G ad had n q0 hq0 v3 st q hq) (fun H locs hP hS => ?_)
  exact wX10_pole_s79 C n q.1 q.2 res hf H locs ls (lv_sub hl [] rfl) hP hS
def fX10_pole_s68 (n : Nat)   (v3 : Int32) (st : St) : Option (Int64 × St) := fX10_pole_s75 n v3 34 st
set_option maxHeartbeats 4000000 in
set_option maxRecDepth 100000 in
theorem wX10_pole_s68 (C : Cx p s m args meth c cX10_pole 4 wsL_law RX10 (some .long) D G ad) (n : Nat)   (v3 : Int32)   (st : St) (res : (Int64 × St))  (hf : fX10_pole_s68 n   v3 st = some res) : At p l e (rmK 5) s m args below meth c D G ad (MQJ D G ad below args s res) 4 st [(0, .ref (ad 0)), (3, .int v3)] 68 [] := by
  obtain ⟨hx, hb, hml, hown, hts, hr, hlk, hK, had, hSt⟩ := id C
  intro H locs ls hl hP hS
  unfold fX10_pole_s68 at hf
  refine lv_aload_n hx hb dX10_pole_68 rfl (lv_at hl 0 rfl) ?_
  refine g_getR hx hb hts inlX10 hown hK hP 0 ct_0 rfl 5 (by decide) (hts _ wm_2_12) rfl dX10_pole_69 ?_
  refine g_getR hx hb hts inlX4 hown hK hP 24 ct_24 rfl 9 (by decide) (hts _ wm_37_18) rfl dX10_pole_72 ?_
  exact wX10_pole_s75 C n v3 34 isFr_lit_34 st res hf H locs ls (lv_sub hl [1] rfl) hP hS
def fX10_pole_s58 (n : Nat)   (v3 : Int32) (st : St) : Option (Int64 × St) := fX10_pole_s75 n v3 35 st
set_option maxHeartbeats 4000000 in
set_option maxRecDepth 100000 in
theorem wX10_pole_s58 (C : Cx p s m args meth c cX10_pole 4 wsL_law RX10 (some .long) D G ad) (n : Nat)   (v3 : Int32)   (st : St) (res : (Int64 × St))  (hf : fX10_pole_s58 n   v3 st = some res) : At p l e (rmK 5) s m args below meth c D G ad (MQJ D G ad below args s res) 4 st [(0, .ref (ad 0)), (3, .int v3)] 58 [] := by
  obtain ⟨hx, hb, hml, hown, hts, hr, hlk, hK, had, hSt⟩ := id C
  intro H locs ls hl hP hS
  unfold fX10_pole_s58 at hf
  refine lv_aload_n hx hb dX10_pole_58 rfl (lv_at hl 0 rfl) ?_
  refine g_getR hx hb hts inlX10 hown hK hP 0 ct_0 rfl 5 (by decide) (hts _ wm_2_12) rfl dX10_pole_59 ?_
  refine g_getR hx hb hts inlX4 hown hK hP 24 ct_24 rfl 10 (by decide) (hts _ wm_37_17) rfl dX10_pole_62 ?_
  refine lv_goto (tgt := 75) hx hb dX10_pole_65 (by decide) ?_
  exact wX10_pole_s75 C n v3 35 isFr_lit_35 st res hf H locs ls (lv_sub hl [1] rfl) hP hS
def fX10_pole_s54 (n : Nat)   (v1 : Int32) (v3 : Int32) (st : St) : Option (Int64 × St) := if v1 = 0 then fX10_pole_s58 n v3 st else fX10_pole_s68 n v3 st
set_option maxHeartbeats 4000000 in
set_option maxRecDepth 100000 in
theorem wX10_pole_s54 (C : Cx p s m args meth c cX10_pole 4 wsL_law RX10 (some .long) D G ad) (n : Nat)   (v1 : Int32) (v3 : Int32)   (st : St) (res : (Int64 × St))  (hf : fX10_pole_s54 n   v1 v3 st = some res) : At p l e (rmK 5) s m args below meth c D G ad (MQJ D G ad below args s res) 4 st [(0, .ref (ad 0)), (1, .int v1), (3, .int v3)] 54 [] := by
  obtain ⟨hx, hb, hml, hown, hts, hr, hlk, hK, had, hSt⟩ := id C
  intro H locs ls hl hP hS
  unfold fX10_pole_s54 at hf
  refine lv_iload_n hx hb dX10_pole_54 rfl (lv_at hl 1 rfl) ?_
  refine lv_if_ne (tgt := 68) hx hb dX10_pole_55 (by decide) (fun q => ?_) (fun q => ?_)
  · exact wX10_pole_s68 C n v3 st res (ie hf q) H locs ls (lv_sub hl [0, 2] rfl) hP hS
  · exact wX10_pole_s58 C n v3 st res (it hf q) H locs ls (lv_sub hl [0, 2] rfl) hP hS
def fX10_pole_s46 (n : Nat)   (v1 : Int32) (v2 : Int32) (v3 : Int32) (st : St) : Option (Int64 × St) := (fX4_below n v2 st).bind (fun q => fX10_pole_s54 n v1 v3 q.2)
set_option maxHeartbeats 4000000 in
set_option maxRecDepth 100000 in
theorem wX10_pole_s46 (C : Cx p s m args meth c cX10_pole 4 wsL_law RX10 (some .long) D G ad) (n : Nat)   (v1 : Int32) (v2 : Int32) (v3 : Int32)   (st : St) (res : (Int64 × St))  (hf : fX10_pole_s46 n   v1 v2 v3 st = some res) : At p l e (rmK 5) s m args below meth c D G ad (MQJ D G ad below args s res) 4 st [(0, .ref (ad 0)), (1, .int v1), (2, .int v2), (3, .int v3)] 46 [] := by
  obtain ⟨hx, hb, hml, hown, hts, hr, hlk, hK, had, hSt⟩ := id C
  intro H locs ls hl hP hS
  unfold fX10_pole_s46 at hf
  refine lv_aload_n hx hb dX10_pole_46 rfl (lv_at hl 0 rfl) ?_
  refine g_getR hx hb hts inlX10 hown hK hP 0 ct_0 rfl 5 (by decide) (hts _ wm_2_12) rfl dX10_pole_47 ?_
  refine lv_iload_n hx hb dX10_pole_50 rfl (lv_at hl 2 rfl) ?_
  obtain ⟨q, hq, hf⟩ := bd hf
  refine gcV_v (k := 3) (o := 24) (As := [.int v2]) (rest := []) hx hb hml hown hts hK hSt hP hS hl.1 (goodV wm_38_5 wm_38_2 wm_38_3 wm_2_11 wm_38_4) okX4_below ct_24 rfl rfl (Nat.le_of_ble_eq_true rfl) (Nat.le_of_ble_eq_true rfl) rfl rfl (Nat.le_of_ble_eq_true rfl) dX10_pole_51 (kX4_below l D G ad had n  v2 st q hq) (fun H locs hP hS => ?_)
  exact wX10_pole_s54 C n v1 v3 q.2 res hf H locs ls (lv_sub hl [0, 1, 3] rfl) hP hS
def fX10_pole_s43 (n : Nat)   (v1 : Int32) (v3 : Int32) (st : St) : Option (Int64 × St) := fX10_pole_s54 n v1 v3 st
set_option maxHeartbeats 4000000 in
set_option maxRecDepth 100000 in
theorem wX10_pole_s43 (C : Cx p s m args meth c cX10_pole 4 wsL_law RX10 (some .long) D G ad) (n : Nat)   (v1 : Int32) (v3 : Int32)   (st : St) (res : (Int64 × St))  (hf : fX10_pole_s43 n   v1 v3 st = some res) : At p l e (rmK 5) s m args below meth c D G ad (MQJ D G ad below args s res) 4 st [(0, .ref (ad 0)), (1, .int v1), (3, .int v3)] 43 [] := by
  obtain ⟨hx, hb, hml, hown, hts, hr, hlk, hK, had, hSt⟩ := id C
  intro H locs ls hl hP hS
  unfold fX10_pole_s43 at hf
  refine lv_goto (tgt := 54) hx hb dX10_pole_43 (by decide) ?_
  exact wX10_pole_s54 C n v1 v3 st res hf H locs ls (lv_sub hl [0, 1, 2] rfl) hP hS
def fX10_pole_s35 (n : Nat)   (v1 : Int32) (v2 : Int32) (v3 : Int32) (st : St) : Option (Int64 × St) := (fX4_above n v2 st).bind (fun q => fX10_pole_s43 n v1 v3 q.2)
set_option maxHeartbeats 4000000 in
set_option maxRecDepth 100000 in
theorem wX10_pole_s35 (C : Cx p s m args meth c cX10_pole 4 wsL_law RX10 (some .long) D G ad) (n : Nat)   (v1 : Int32) (v2 : Int32) (v3 : Int32)   (st : St) (res : (Int64 × St))  (hf : fX10_pole_s35 n   v1 v2 v3 st = some res) : At p l e (rmK 5) s m args below meth c D G ad (MQJ D G ad below args s res) 4 st [(0, .ref (ad 0)), (1, .int v1), (2, .int v2), (3, .int v3)] 35 [] := by
  obtain ⟨hx, hb, hml, hown, hts, hr, hlk, hK, had, hSt⟩ := id C
  intro H locs ls hl hP hS
  unfold fX10_pole_s35 at hf
  refine lv_aload_n hx hb dX10_pole_35 rfl (lv_at hl 0 rfl) ?_
  refine g_getR hx hb hts inlX10 hown hK hP 0 ct_0 rfl 5 (by decide) (hts _ wm_2_12) rfl dX10_pole_36 ?_
  refine lv_iload_n hx hb dX10_pole_39 rfl (lv_at hl 2 rfl) ?_
  obtain ⟨q, hq, hf⟩ := bd hf
  refine gcV_v (k := 4) (o := 24) (As := [.int v2]) (rest := []) hx hb hml hown hts hK hSt hP hS hl.1 (goodV wm_37_19 wm_37_20 wm_37_21 wm_2_11 wm_37_22) okX4_above ct_24 rfl rfl (Nat.le_of_ble_eq_true rfl) (Nat.le_of_ble_eq_true rfl) rfl rfl (Nat.le_of_ble_eq_true rfl) dX10_pole_40 (kX4_above l D G ad had n  v2 st q hq) (fun H locs hP hS => ?_)
  exact wX10_pole_s43 C n v1 v3 q.2 res hf H locs ls (lv_sub hl [0, 1, 3] rfl) hP hS
def fX10_pole_s31 (n : Nat)   (v1 : Int32) (v2 : Int32) (v3 : Int32) (st : St) : Option (Int64 × St) := if v1 = 0 then fX10_pole_s35 n v1 v2 v3 st else fX10_pole_s46 n v1 v2 v3 st
set_option maxHeartbeats 4000000 in
set_option maxRecDepth 100000 in
theorem wX10_pole_s31 (C : Cx p s m args meth c cX10_pole 4 wsL_law RX10 (some .long) D G ad) (n : Nat)   (v1 : Int32) (v2 : Int32) (v3 : Int32)   (st : St) (res : (Int64 × St))  (hf : fX10_pole_s31 n   v1 v2 v3 st = some res) : At p l e (rmK 5) s m args below meth c D G ad (MQJ D G ad below args s res) 4 st [(0, .ref (ad 0)), (1, .int v1), (2, .int v2), (3, .int v3)] 31 [] := by
  obtain ⟨hx, hb, hml, hown, hts, hr, hlk, hK, had, hSt⟩ := id C
  intro H locs ls hl hP hS
  unfold fX10_pole_s31 at hf
  refine lv_iload_n hx hb dX10_pole_31 rfl (lv_at hl 1 rfl) ?_
  refine lv_if_ne (tgt := 46) hx hb dX10_pole_32 (by decide) (fun q => ?_) (fun q => ?_)
  · exact wX10_pole_s46 C n v1 v2 v3 st res (ie hf q) H locs ls (lv_sub hl [0, 1, 2, 3] rfl) hP hS
  · exact wX10_pole_s35 C n v1 v2 v3 st res (it hf q) H locs ls (lv_sub hl [0, 1, 2, 3] rfl) hP hS
def fX10_pole_s24 (n : Nat)   (v1 : Int32) (v2 : Int32) (v3 : Int32) (k0 : Int32) (st : St) : Option (Int64 × St) := if k0 = 0 then fX10_pole_s27 n st else fX10_pole_s31 n v1 v2 v3 st
set_option maxHeartbeats 4000000 in
set_option maxRecDepth 100000 in
theorem wX10_pole_s24 (C : Cx p s m args meth c cX10_pole 4 wsL_law RX10 (some .long) D G ad) (n : Nat)   (v1 : Int32) (v2 : Int32) (v3 : Int32) (k0 : Int32)   (st : St) (res : (Int64 × St))  (hf : fX10_pole_s24 n   v1 v2 v3 k0 st = some res) : At p l e (rmK 5) s m args below meth c D G ad (MQJ D G ad below args s res) 4 st [(0, .ref (ad 0)), (1, .int v1), (2, .int v2), (3, .int v3)] 24 [.int k0] := by
  obtain ⟨hx, hb, hml, hown, hts, hr, hlk, hK, had, hSt⟩ := id C
  intro H locs ls hl hP hS
  unfold fX10_pole_s24 at hf
  refine lv_if_ne (tgt := 31) hx hb dX10_pole_24 (by decide) (fun q => ?_) (fun q => ?_)
  · exact wX10_pole_s31 C n v1 v2 v3 st res (ie hf q) H locs ls (lv_sub hl [0, 1, 2, 3] rfl) hP hS
  · exact wX10_pole_s27 C n st res (it hf q) H locs ls (lv_sub hl [] rfl) hP hS
def fX10_pole_s18 (n : Nat)   (v1 : Int32) (v2 : Int32) (v3 : Int32) (st : St) : Option (Int64 × St) := (fX10_within n v3 0 1 st).bind (fun q => fX10_pole_s24 n v1 v2 v3 q.1 q.2)
set_option maxHeartbeats 4000000 in
set_option maxRecDepth 100000 in
theorem wX10_pole_s18 (C : Cx p s m args meth c cX10_pole 4 wsL_law RX10 (some .long) D G ad) (n : Nat)   (v1 : Int32) (v2 : Int32) (v3 : Int32)   (st : St) (res : (Int64 × St))  (hf : fX10_pole_s18 n   v1 v2 v3 st = some res) : At p l e (rmK 5) s m args below meth c D G ad (MQJ D G ad below args s res) 4 st [(0, .ref (ad 0)), (1, .int v1), (2, .int v2), (3, .int v3)] 18 [] := by
  obtain ⟨hx, hb, hml, hown, hts, hr, hlk, hK, had, hSt⟩ := id C
  intro H locs ls hl hP hS
  unfold fX10_pole_s18 at hf
  refine lv_iload_n hx hb dX10_pole_18 rfl (lv_at hl 3 rfl) ?_
  refine lv_iconst (v := 0) hx hb dX10_pole_19 (by decide) ?_
  refine lv_iconst (v := 1) hx hb dX10_pole_20 (by decide) ?_
  obtain ⟨q, hq, hf⟩ := bd hf
  refine gcS_i (k := 0) (As := [.int v3, .int 0, .int 1]) (rest := []) hx hb hml hown hts hK hSt hP hS hl.1 (goodS wm_9_17 wm_9_18 wm_1_2 wm_9_19) okX10_within (Nat.le_of_ble_eq_true rfl) (Nat.le_of_ble_eq_true rfl) rfl rfl (Nat.le_of_ble_eq_true rfl) dX10_pole_21 (kX10_within l D G ad had n  v3 0 1 st q hq) (fun H locs hP hS => ?_)
  exact wX10_pole_s24 C n v1 v2 v3 q.1 q.2 res hf H locs ls (lv_sub hl [0, 1, 2, 3] rfl) hP hS
def fX10_pole_s15 (n : Nat)   (v1 : Int32) (v2 : Int32) (v3 : Int32) (k0 : Int32) (st : St) : Option (Int64 × St) := if k0 = 0 then fX10_pole_s27 n st else fX10_pole_s18 n v1 v2 v3 st
set_option maxHeartbeats 4000000 in
set_option maxRecDepth 100000 in
theorem wX10_pole_s15 (C : Cx p s m args meth c cX10_pole 4 wsL_law RX10 (some .long) D G ad) (n : Nat)   (v1 : Int32) (v2 : Int32) (v3 : Int32) (k0 : Int32)   (st : St) (res : (Int64 × St))  (hf : fX10_pole_s15 n   v1 v2 v3 k0 st = some res) : At p l e (rmK 5) s m args below meth c D G ad (MQJ D G ad below args s res) 4 st [(0, .ref (ad 0)), (1, .int v1), (2, .int v2), (3, .int v3)] 15 [.int k0] := by
  obtain ⟨hx, hb, hml, hown, hts, hr, hlk, hK, had, hSt⟩ := id C
  intro H locs ls hl hP hS
  unfold fX10_pole_s15 at hf
  refine lv_if_eq (tgt := 27) hx hb dX10_pole_15 (by decide) (fun q => ?_) (fun q => ?_)
  · exact wX10_pole_s27 C n st res (it hf q) H locs ls (lv_sub hl [] rfl) hP hS
  · exact wX10_pole_s18 C n v1 v2 v3 st res (ie hf q) H locs ls (lv_sub hl [0, 1, 2, 3] rfl) hP hS
def fX10_pole_s9 (n : Nat)   (v1 : Int32) (v2 : Int32) (v3 : Int32) (st : St) : Option (Int64 × St) := (fX10_within n v2 0 2 st).bind (fun q => fX10_pole_s15 n v1 v2 v3 q.1 q.2)
set_option maxHeartbeats 4000000 in
set_option maxRecDepth 100000 in
theorem wX10_pole_s9 (C : Cx p s m args meth c cX10_pole 4 wsL_law RX10 (some .long) D G ad) (n : Nat)   (v1 : Int32) (v2 : Int32) (v3 : Int32)   (st : St) (res : (Int64 × St))  (hf : fX10_pole_s9 n   v1 v2 v3 st = some res) : At p l e (rmK 5) s m args below meth c D G ad (MQJ D G ad below args s res) 4 st [(0, .ref (ad 0)), (1, .int v1), (2, .int v2), (3, .int v3)] 9 [] := by
  obtain ⟨hx, hb, hml, hown, hts, hr, hlk, hK, had, hSt⟩ := id C
  intro H locs ls hl hP hS
  unfold fX10_pole_s9 at hf
  refine lv_iload_n hx hb dX10_pole_9 rfl (lv_at hl 2 rfl) ?_
  refine lv_iconst (v := 0) hx hb dX10_pole_10 (by decide) ?_
  refine lv_iconst (v := 2) hx hb dX10_pole_11 (by decide) ?_
  obtain ⟨q, hq, hf⟩ := bd hf
  refine gcS_i (k := 0) (As := [.int v2, .int 0, .int 2]) (rest := []) hx hb hml hown hts hK hSt hP hS hl.1 (goodS wm_9_17 wm_9_18 wm_1_2 wm_9_19) okX10_within (Nat.le_of_ble_eq_true rfl) (Nat.le_of_ble_eq_true rfl) rfl rfl (Nat.le_of_ble_eq_true rfl) dX10_pole_12 (kX10_within l D G ad had n  v2 0 2 st q hq) (fun H locs hP hS => ?_)
  exact wX10_pole_s15 C n v1 v2 v3 q.1 q.2 res hf H locs ls (lv_sub hl [0, 1, 2, 3] rfl) hP hS
def fX10_pole_s6 (n : Nat)   (v1 : Int32) (v2 : Int32) (v3 : Int32) (k0 : Int32) (st : St) : Option (Int64 × St) := if k0 = 0 then fX10_pole_s27 n st else fX10_pole_s9 n v1 v2 v3 st
set_option maxHeartbeats 4000000 in
set_option maxRecDepth 100000 in
theorem wX10_pole_s6 (C : Cx p s m args meth c cX10_pole 4 wsL_law RX10 (some .long) D G ad) (n : Nat)   (v1 : Int32) (v2 : Int32) (v3 : Int32) (k0 : Int32)   (st : St) (res : (Int64 × St))  (hf : fX10_pole_s6 n   v1 v2 v3 k0 st = some res) : At p l e (rmK 5) s m args below meth c D G ad (MQJ D G ad below args s res) 4 st [(0, .ref (ad 0)), (1, .int v1), (2, .int v2), (3, .int v3)] 6 [.int k0] := by
  obtain ⟨hx, hb, hml, hown, hts, hr, hlk, hK, had, hSt⟩ := id C
  intro H locs ls hl hP hS
  unfold fX10_pole_s6 at hf
  refine lv_if_eq (tgt := 27) hx hb dX10_pole_6 (by decide) (fun q => ?_) (fun q => ?_)
  · exact wX10_pole_s27 C n st res (it hf q) H locs ls (lv_sub hl [] rfl) hP hS
  · exact wX10_pole_s9 C n v1 v2 v3 st res (ie hf q) H locs ls (lv_sub hl [0, 1, 2, 3] rfl) hP hS
def fX10_pole_s0 (n : Nat)   (v1 : Int32) (v2 : Int32) (v3 : Int32) (st : St) : Option (Int64 × St) := (fX10_within n v1 0 1 st).bind (fun q => fX10_pole_s6 n v1 v2 v3 q.1 q.2)
set_option maxHeartbeats 4000000 in
set_option maxRecDepth 100000 in
theorem wX10_pole_s0 (C : Cx p s m args meth c cX10_pole 4 wsL_law RX10 (some .long) D G ad) (n : Nat)   (v1 : Int32) (v2 : Int32) (v3 : Int32)   (st : St) (res : (Int64 × St))  (hf : fX10_pole_s0 n   v1 v2 v3 st = some res) : At p l e (rmK 5) s m args below meth c D G ad (MQJ D G ad below args s res) 4 st [(0, .ref (ad 0)), (1, .int v1), (2, .int v2), (3, .int v3)] 0 [] := by
  obtain ⟨hx, hb, hml, hown, hts, hr, hlk, hK, had, hSt⟩ := id C
  intro H locs ls hl hP hS
  unfold fX10_pole_s0 at hf
  refine lv_iload_n hx hb dX10_pole_0 rfl (lv_at hl 1 rfl) ?_
  refine lv_iconst (v := 0) hx hb dX10_pole_1 (by decide) ?_
  refine lv_iconst (v := 1) hx hb dX10_pole_2 (by decide) ?_
  obtain ⟨q, hq, hf⟩ := bd hf
  refine gcS_i (k := 0) (As := [.int v1, .int 0, .int 1]) (rest := []) hx hb hml hown hts hK hSt hP hS hl.1 (goodS wm_9_17 wm_9_18 wm_1_2 wm_9_19) okX10_within (Nat.le_of_ble_eq_true rfl) (Nat.le_of_ble_eq_true rfl) rfl rfl (Nat.le_of_ble_eq_true rfl) dX10_pole_3 (kX10_within l D G ad had n  v1 0 1 st q hq) (fun H locs hP hS => ?_)
  exact wX10_pole_s6 C n v1 v2 v3 q.1 q.2 res hf H locs ls (lv_sub hl [0, 1, 2, 3] rfl) hP hS
def fX10_pole (n : Nat)  (a1 : Int32) (a2 : Int32) (a3 : Int32) (st : St) : Option (Int64 × St) := fX10_pole_s0 n a1 a2 a3 st
theorem okX10_pole : okY yX10_pole RX10 3 := by unfold okY; decide +kernel
end
set_option maxRecDepth 100000 in
theorem kX10_pole (l : Launch) (D : va_G) (G : G3) (ad : Nat → Nat) (had : Adr ad) (n : Nat)   (a1 : Int32) (a2 : Int32) (a3 : Int32) (st : St) (res : (Int64 × St)) (hf : fX10_pole n  a1 a2 a3 st = some res) {sz : Nat} : CtJ l yX10_pole (wsU yX10_pole cX10_pole 4 (some .long)) (rmK 5) D G ad sz [.ref (ad 0), .int a1, .int a2, .int a3] st res := by
  refine Met.ofW (cc := cX10_pole) (maxL := 4) (ret := (some .long)) (by decide) rfl ?_
  intro p e s m args below meth c s₁ B hml hv
  obtain ⟨rfl, hsz, hP, hK, hSt⟩ := hv
  have hts := atoms_spec (ws := wsU yX10_pole cX10_pole 4 (some .long)) B.pre
  have C : Cx p s m _ meth c cX10_pole 4 wsL_law RX10 (some .long) D G ad := ⟨B.exec, B.bytes, hml, findClass_of_methodNamed B.named, fun w h => hts w (List.mem_cons_of_mem _ h), B.returns, B.notSynchronized, hK, had, hSt⟩
  subst hsz
  have hl := lv_entry ([.ref (ad 0), .int a1, .int a2, .int a3]) (n := 4) (Nat.le_of_ble_eq_true rfl)
  rw [lg_entry_eq]
  generalize (lg_sl ([.ref (ad 0), .int a1, .int a2, .int a3]) ++ List.replicate (4 - (lg_sl ([.ref (ad 0), .int a1, .int a2, .int a3])).length) Slot.unset).toArray = ls at hl ⊢
  exact wX10_pole_s0 C n  a1 a2 a3   st res hf s.heap [] ls (lv_sub hl [0, 1, 2, 3] rfl) hP va_S.rf
section
variable {p : Program} {l : Launch} {e : Env} {s : State} {m : MethodId} {args : Array Value} {below : List Frame} {meth : Method} {c : Code} {D : va_G} {G : G3} {ad : Nat → Nat}
def fX10_loud_s19 (n : Nat)    (st : St) : Option (Int64 × St) := some ((-9223372036854775808), st)
set_option maxHeartbeats 4000000 in
set_option maxRecDepth 100000 in
theorem wX10_loud_s19 (C : Cx p s m args meth c cX10_loud 3 wsL_law RX10 (some .long) D G ad) (n : Nat)      (st : St) (res : (Int64 × St))  (hf : fX10_loud_s19 n    st = some res) : At p l e (rmK 5) s m args below meth c D G ad (MQJ D G ad below args s res) 3 st [] 19 [] := by
  obtain ⟨hx, hb, hml, hown, hts, hr, hlk, hK, had, hSt⟩ := id C
  intro H locs ls hl hP hS
  unfold fX10_loud_s19 at hf
  refine lv_ldc2 hx hb hown (hts _ wm_14_6) dX10_loud_19 ?_
  exact g_lret hx hb hr hlk hP hS dX10_loud_22 hf
def fX10_loud_s42 (n : Nat)   (k0 : Int64) (st : St) : Option (Int64 × St) := some (k0, st)
set_option maxHeartbeats 4000000 in
set_option maxRecDepth 100000 in
theorem wX10_loud_s42 (C : Cx p s m args meth c cX10_loud 3 wsL_law RX10 (some .long) D G ad) (n : Nat)   (k0 : Int64)   (st : St) (res : (Int64 × St))  (hf : fX10_loud_s42 n   k0 st = some res) : At p l e (rmK 5) s m args below meth c D G ad (MQJ D G ad below args s res) 3 st [] 42 [.long k0] := by
  obtain ⟨hx, hb, hml, hown, hts, hr, hlk, hK, had, hSt⟩ := id C
  intro H locs ls hl hP hS
  unfold fX10_loud_s42 at hf
  exact g_lret hx hb hr hlk hP hS dX10_loud_42 hf
def fX10_loud_s31 (n : Nat)   (v2 : Int32) (st : St) : Option (Int64 × St) := (fX2_tell n 35 v2 st).bind (fun q => fX10_loud_s42 n q.1 q.2)
set_option maxHeartbeats 4000000 in
set_option maxRecDepth 100000 in
theorem wX10_loud_s31 (C : Cx p s m args meth c cX10_loud 3 wsL_law RX10 (some .long) D G ad) (n : Nat)   (v2 : Int32)   (st : St) (res : (Int64 × St))  (hf : fX10_loud_s31 n   v2 st = some res) : At p l e (rmK 5) s m args below meth c D G ad (MQJ D G ad below args s res) 3 st [(0, .ref (ad 0)), (2, .int v2)] 31 [] := by
  obtain ⟨hx, hb, hml, hown, hts, hr, hlk, hK, had, hSt⟩ := id C
  intro H locs ls hl hP hS
  unfold fX10_loud_s31 at hf
  refine lv_aload_n hx hb dX10_loud_31 rfl (lv_at hl 0 rfl) ?_
  refine g_getR hx hb hts inlX10 hown hK hP 0 ct_0 rfl 5 (by decide) (hts _ wm_2_12) rfl dX10_loud_32 ?_
  refine g_getR hx hb hts inlX4 hown hK hP 24 ct_24 rfl 10 (by decide) (hts _ wm_37_17) rfl dX10_loud_35 ?_
  refine lv_iload_n hx hb dX10_loud_38 rfl (lv_at hl 1 rfl) ?_
  obtain ⟨q, hq, hf⟩ := bd hf
  refine gcV_j (k := 0) (o := 35) (As := [.int v2]) (rest := []) hx hb hml hown hts hK hSt hP hS hl.1 (goodV wm_33_22 wm_33_23 wm_34_0 wm_2_15 wm_34_1) okX2_tell ct_35 rfl rfl (Nat.le_of_ble_eq_true rfl) (Nat.le_of_ble_eq_true rfl) rfl rfl (Nat.le_of_ble_eq_true rfl) dX10_loud_39 (kX2_tell l D G ad had n 35 isFr_lit_35 v2 st q hq) (fun H locs hP hS => ?_)
  exact wX10_loud_s42 C n q.1 q.2 res hf H locs ls (lv_sub hl [] rfl) hP hS
def fX10_loud_s23 (n : Nat)   (v1 : Int32) (v2 : Int32) (st : St) : Option (Int64 × St) := (fX4_loudness n v1 st).bind (fun q => fX10_loud_s31 n v2 q.2)
set_option maxHeartbeats 4000000 in
set_option maxRecDepth 100000 in
theorem wX10_loud_s23 (C : Cx p s m args meth c cX10_loud 3 wsL_law RX10 (some .long) D G ad) (n : Nat)   (v1 : Int32) (v2 : Int32)   (st : St) (res : (Int64 × St))  (hf : fX10_loud_s23 n   v1 v2 st = some res) : At p l e (rmK 5) s m args below meth c D G ad (MQJ D G ad below args s res) 3 st [(0, .ref (ad 0)), (1, .int v1), (2, .int v2)] 23 [] := by
  obtain ⟨hx, hb, hml, hown, hts, hr, hlk, hK, had, hSt⟩ := id C
  intro H locs ls hl hP hS
  unfold fX10_loud_s23 at hf
  refine lv_aload_n hx hb dX10_loud_23 rfl (lv_at hl 0 rfl) ?_
  refine g_getR hx hb hts inlX10 hown hK hP 0 ct_0 rfl 5 (by decide) (hts _ wm_2_12) rfl dX10_loud_24 ?_
  refine lv_iload_n hx hb dX10_loud_27 rfl (lv_at hl 1 rfl) ?_
  obtain ⟨q, hq, hf⟩ := bd hf
  refine gcV_v (k := 4) (o := 24) (As := [.int v1]) (rest := []) hx hb hml hown hts hK hSt hP hS hl.1 (goodV wm_38_18 wm_38_19 wm_38_20 wm_2_11 wm_38_21) okX4_loudness ct_24 rfl rfl (Nat.le_of_ble_eq_true rfl) (Nat.le_of_ble_eq_true rfl) rfl rfl (Nat.le_of_ble_eq_true rfl) dX10_loud_28 (kX4_loudness l D G ad had n  v1 st q hq) (fun H locs hP hS => ?_)
  exact wX10_loud_s31 C n v2 q.2 res hf H locs ls (lv_sub hl [0, 2] rfl) hP hS
def fX10_loud_s16 (n : Nat)   (v1 : Int32) (v2 : Int32) (k0 : Int32) (st : St) : Option (Int64 × St) := if k0 = 0 then fX10_loud_s19 n st else fX10_loud_s23 n v1 v2 st
set_option maxHeartbeats 4000000 in
set_option maxRecDepth 100000 in
theorem wX10_loud_s16 (C : Cx p s m args meth c cX10_loud 3 wsL_law RX10 (some .long) D G ad) (n : Nat)   (v1 : Int32) (v2 : Int32) (k0 : Int32)   (st : St) (res : (Int64 × St))  (hf : fX10_loud_s16 n   v1 v2 k0 st = some res) : At p l e (rmK 5) s m args below meth c D G ad (MQJ D G ad below args s res) 3 st [(0, .ref (ad 0)), (1, .int v1), (2, .int v2)] 16 [.int k0] := by
  obtain ⟨hx, hb, hml, hown, hts, hr, hlk, hK, had, hSt⟩ := id C
  intro H locs ls hl hP hS
  unfold fX10_loud_s16 at hf
  refine lv_if_ne (tgt := 23) hx hb dX10_loud_16 (by decide) (fun q => ?_) (fun q => ?_)
  · exact wX10_loud_s23 C n v1 v2 st res (ie hf q) H locs ls (lv_sub hl [0, 1, 2] rfl) hP hS
  · exact wX10_loud_s19 C n st res (it hf q) H locs ls (lv_sub hl [] rfl) hP hS
def fX10_loud_s10 (n : Nat)   (v1 : Int32) (v2 : Int32) (st : St) : Option (Int64 × St) := (fX10_within n v2 0 1 st).bind (fun q => fX10_loud_s16 n v1 v2 q.1 q.2)
set_option maxHeartbeats 4000000 in
set_option maxRecDepth 100000 in
theorem wX10_loud_s10 (C : Cx p s m args meth c cX10_loud 3 wsL_law RX10 (some .long) D G ad) (n : Nat)   (v1 : Int32) (v2 : Int32)   (st : St) (res : (Int64 × St))  (hf : fX10_loud_s10 n   v1 v2 st = some res) : At p l e (rmK 5) s m args below meth c D G ad (MQJ D G ad below args s res) 3 st [(0, .ref (ad 0)), (1, .int v1), (2, .int v2)] 10 [] := by
  obtain ⟨hx, hb, hml, hown, hts, hr, hlk, hK, had, hSt⟩ := id C
  intro H locs ls hl hP hS
  unfold fX10_loud_s10 at hf
  refine lv_iload_n hx hb dX10_loud_10 rfl (lv_at hl 2 rfl) ?_
  refine lv_iconst (v := 0) hx hb dX10_loud_11 (by decide) ?_
  refine lv_iconst (v := 1) hx hb dX10_loud_12 (by decide) ?_
  obtain ⟨q, hq, hf⟩ := bd hf
  refine gcS_i (k := 0) (As := [.int v2, .int 0, .int 1]) (rest := []) hx hb hml hown hts hK hSt hP hS hl.1 (goodS wm_9_17 wm_9_18 wm_1_2 wm_9_19) okX10_within (Nat.le_of_ble_eq_true rfl) (Nat.le_of_ble_eq_true rfl) rfl rfl (Nat.le_of_ble_eq_true rfl) dX10_loud_13 (kX10_within l D G ad had n  v2 0 1 st q hq) (fun H locs hP hS => ?_)
  exact wX10_loud_s16 C n v1 v2 q.1 q.2 res hf H locs ls (lv_sub hl [0, 1, 2] rfl) hP hS
def fX10_loud_s7 (n : Nat)   (v1 : Int32) (v2 : Int32) (k0 : Int32) (st : St) : Option (Int64 × St) := if k0 = 0 then fX10_loud_s19 n st else fX10_loud_s10 n v1 v2 st
set_option maxHeartbeats 4000000 in
set_option maxRecDepth 100000 in
theorem wX10_loud_s7 (C : Cx p s m args meth c cX10_loud 3 wsL_law RX10 (some .long) D G ad) (n : Nat)   (v1 : Int32) (v2 : Int32) (k0 : Int32)   (st : St) (res : (Int64 × St))  (hf : fX10_loud_s7 n   v1 v2 k0 st = some res) : At p l e (rmK 5) s m args below meth c D G ad (MQJ D G ad below args s res) 3 st [(0, .ref (ad 0)), (1, .int v1), (2, .int v2)] 7 [.int k0] := by
  obtain ⟨hx, hb, hml, hown, hts, hr, hlk, hK, had, hSt⟩ := id C
  intro H locs ls hl hP hS
  unfold fX10_loud_s7 at hf
  refine lv_if_eq (tgt := 19) hx hb dX10_loud_7 (by decide) (fun q => ?_) (fun q => ?_)
  · exact wX10_loud_s19 C n st res (it hf q) H locs ls (lv_sub hl [] rfl) hP hS
  · exact wX10_loud_s10 C n v1 v2 st res (ie hf q) H locs ls (lv_sub hl [0, 1, 2] rfl) hP hS
def fX10_loud_s0 (n : Nat)   (v1 : Int32) (v2 : Int32) (st : St) : Option (Int64 × St) := (fX10_within n v1 1 30 st).bind (fun q => fX10_loud_s7 n v1 v2 q.1 q.2)
set_option maxHeartbeats 4000000 in
set_option maxRecDepth 100000 in
theorem wX10_loud_s0 (C : Cx p s m args meth c cX10_loud 3 wsL_law RX10 (some .long) D G ad) (n : Nat)   (v1 : Int32) (v2 : Int32)   (st : St) (res : (Int64 × St))  (hf : fX10_loud_s0 n   v1 v2 st = some res) : At p l e (rmK 5) s m args below meth c D G ad (MQJ D G ad below args s res) 3 st [(0, .ref (ad 0)), (1, .int v1), (2, .int v2)] 0 [] := by
  obtain ⟨hx, hb, hml, hown, hts, hr, hlk, hK, had, hSt⟩ := id C
  intro H locs ls hl hP hS
  unfold fX10_loud_s0 at hf
  refine lv_iload_n hx hb dX10_loud_0 rfl (lv_at hl 1 rfl) ?_
  refine lv_iconst (v := 1) hx hb dX10_loud_1 (by decide) ?_
  refine lv_bipush (v := 30) hx hb dX10_loud_2 (by decide) ?_
  obtain ⟨q, hq, hf⟩ := bd hf
  refine gcS_i (k := 0) (As := [.int v1, .int 1, .int 30]) (rest := []) hx hb hml hown hts hK hSt hP hS hl.1 (goodS wm_9_17 wm_9_18 wm_1_2 wm_9_19) okX10_within (Nat.le_of_ble_eq_true rfl) (Nat.le_of_ble_eq_true rfl) rfl rfl (Nat.le_of_ble_eq_true rfl) dX10_loud_4 (kX10_within l D G ad had n  v1 1 30 st q hq) (fun H locs hP hS => ?_)
  exact wX10_loud_s7 C n v1 v2 q.1 q.2 res hf H locs ls (lv_sub hl [0, 1, 2] rfl) hP hS
def fX10_loud (n : Nat)  (a1 : Int32) (a2 : Int32) (st : St) : Option (Int64 × St) := fX10_loud_s0 n a1 a2 st
theorem okX10_loud : okY yX10_loud RX10 2 := by unfold okY; decide +kernel
end
set_option maxRecDepth 100000 in
theorem kX10_loud (l : Launch) (D : va_G) (G : G3) (ad : Nat → Nat) (had : Adr ad) (n : Nat)   (a1 : Int32) (a2 : Int32) (st : St) (res : (Int64 × St)) (hf : fX10_loud n  a1 a2 st = some res) {sz : Nat} : CtJ l yX10_loud (wsU yX10_loud cX10_loud 3 (some .long)) (rmK 5) D G ad sz [.ref (ad 0), .int a1, .int a2] st res := by
  refine Met.ofW (cc := cX10_loud) (maxL := 3) (ret := (some .long)) (by decide) rfl ?_
  intro p e s m args below meth c s₁ B hml hv
  obtain ⟨rfl, hsz, hP, hK, hSt⟩ := hv
  have hts := atoms_spec (ws := wsU yX10_loud cX10_loud 3 (some .long)) B.pre
  have C : Cx p s m _ meth c cX10_loud 3 wsL_law RX10 (some .long) D G ad := ⟨B.exec, B.bytes, hml, findClass_of_methodNamed B.named, fun w h => hts w (List.mem_cons_of_mem _ h), B.returns, B.notSynchronized, hK, had, hSt⟩
  subst hsz
  have hl := lv_entry ([.ref (ad 0), .int a1, .int a2]) (n := 3) (Nat.le_of_ble_eq_true rfl)
  rw [lg_entry_eq]
  generalize (lg_sl ([.ref (ad 0), .int a1, .int a2]) ++ List.replicate (3 - (lg_sl ([.ref (ad 0), .int a1, .int a2])).length) Slot.unset).toArray = ls at hl ⊢
  exact wX10_loud_s0 C n  a1 a2   st res hf s.heap [] ls (lv_sub hl [0, 1, 2] rfl) hP va_S.rf
section
variable {p : Program} {l : Launch} {e : Env} {s : State} {m : MethodId} {args : Array Value} {below : List Frame} {meth : Method} {c : Code} {D : va_G} {G : G3} {ad : Nat → Nat}
def fX10_lower_s14 (n : Nat)    (st : St) : Option (Unit × St) := some ((), st)
set_option maxHeartbeats 4000000 in
set_option maxRecDepth 100000 in
theorem wX10_lower_s14 (C : Cx p s m args meth c cX10_lower 12 wsL_law RX10 none D G ad) (n : Nat)      (st : St) (res : (Unit × St))  (hf : fX10_lower_s14 n    st = some res) : At p l e (rmK 0) s m args below meth c D G ad (MQV D G ad below args s res) 12 st [] 14 [] := by
  obtain ⟨hx, hb, hml, hown, hts, hr, hlk, hK, had, hSt⟩ := id C
  intro H locs ls hl hP hS
  unfold fX10_lower_s14 at hf
  exact g_vret hx hb hr hlk hP hS dX10_lower_14 hf
def fX10_lower_s104 (n : Nat)    (st : St) : Option (Unit × St) := some ((), st)
set_option maxHeartbeats 4000000 in
set_option maxRecDepth 100000 in
theorem wX10_lower_s104 (C : Cx p s m args meth c cX10_lower 12 wsL_law RX10 none D G ad) (n : Nat)      (st : St) (res : (Unit × St))  (hf : fX10_lower_s104 n    st = some res) : At p l e (rmK 0) s m args below meth c D G ad (MQV D G ad below args s res) 12 st [] 104 [] := by
  obtain ⟨hx, hb, hml, hown, hts, hr, hlk, hK, had, hSt⟩ := id C
  intro H locs ls hl hP hS
  unfold fX10_lower_s104 at hf
  exact g_vret hx hb hr hlk hP hS dX10_lower_104 hf
def fX10_lower_s95 (n : Nat) (K36 : Int64 → Int64 → Int32 → Int32 → St → Option (Unit × St))  (v2 : Int64) (v4 : Int64) (v6 : Int32) (v7 : Int32) (st : St) : Option (Unit × St) := K36 v2 v4 (v6 + 1) (v7 + (-1)) st
set_option maxHeartbeats 4000000 in
set_option maxRecDepth 100000 in
theorem wX10_lower_s95 (C : Cx p s m args meth c cX10_lower 12 wsL_law RX10 none D G ad) (n : Nat) (K36 : Int64 → Int64 → Int32 → Int32 → St → Option (Unit × St))  (v2 : Int64) (v4 : Int64) (v6 : Int32) (v7 : Int32)   (st : St) (res : (Unit × St)) (hK36 : ∀ (v2 : Int64) (v4 : Int64) (v6 : Int32) (v7 : Int32) (st : St), K36 v2 v4 v6 v7 st = some res → At p l e (rmK 0) s m args below meth c D G ad (MQV D G ad below args s res) 12 st [(0, .ref (ad 0)), (2, .long v2), (4, .long v4), (6, .int v6), (7, .int v7)] 36 []) (hf : fX10_lower_s95 n K36  v2 v4 v6 v7 st = some res) : At p l e (rmK 0) s m args below meth c D G ad (MQV D G ad below args s res) 12 st [(0, .ref (ad 0)), (2, .long v2), (4, .long v4), (6, .int v6), (7, .int v7)] 95 [] := by
  obtain ⟨hx, hb, hml, hown, hts, hr, hlk, hK, had, hSt⟩ := id C
  intro H locs ls hl hP hS
  unfold fX10_lower_s95 at hf
  refine lv_iinc (v := v6 + 1) (lv' := [(6, .int (v6 + 1)), (0, .ref (ad 0)), (2, .long v2), (4, .long v4), (7, .int v7)]) hx hb dX10_lower_95 hl (k := 3) rfl rfl (by decide) rfl (fun ls hl => ?_)
  refine lv_iinc (v := v7 + (-1)) (lv' := [(7, .int (v7 + (-1))), (6, .int (v6 + 1)), (0, .ref (ad 0)), (2, .long v2), (4, .long v4)]) hx hb dX10_lower_98 hl (k := 4) rfl rfl (by decide) rfl (fun ls hl => ?_)
  refine lv_goto (tgt := 36) hx hb dX10_lower_101 (by decide) ?_
  exact hK36 v2 v4 (v6 + 1) (v7 + (-1))  st hf H locs ls (lv_sub hl [2, 3, 4, 1, 0] rfl) hP hS
def fX10_lower_s78 (n : Nat) (K36 : Int64 → Int64 → Int32 → Int32 → St → Option (Unit × St))  (v2 : Int64) (v4 : Int64) (v6 : Int32) (v7 : Int32) (v8 : Int64) (v10 : Int64) (st : St) : Option (Unit × St) := if inb v7 5 = true then (fX10_lower_s95 n K36 v2 v4 v6 v7 (setJ st 48 v7.toNatClampNeg ((v2 * v10) - (v4 * v8)))) else none
set_option maxHeartbeats 4000000 in
set_option maxRecDepth 100000 in
theorem wX10_lower_s78 (C : Cx p s m args meth c cX10_lower 12 wsL_law RX10 none D G ad) (n : Nat) (K36 : Int64 → Int64 → Int32 → Int32 → St → Option (Unit × St))  (v2 : Int64) (v4 : Int64) (v6 : Int32) (v7 : Int32) (v8 : Int64) (v10 : Int64)   (st : St) (res : (Unit × St)) (hK36 : ∀ (v2 : Int64) (v4 : Int64) (v6 : Int32) (v7 : Int32) (st : St), K36 v2 v4 v6 v7 st = some res → At p l e (rmK 0) s m args below meth c D G ad (MQV D G ad below args s res) 12 st [(0, .ref (ad 0)), (2, .long v2), (4, .long v4), (6, .int v6), (7, .int v7)] 36 []) (hf : fX10_lower_s78 n K36  v2 v4 v6 v7 v8 v10 st = some res) : At p l e (rmK 0) s m args below meth c D G ad (MQV D G ad below args s res) 12 st [(0, .ref (ad 0)), (2, .long v2), (4, .long v4), (6, .int v6), (7, .int v7), (8, .long v8), (10, .long v10)] 78 [] := by
  obtain ⟨hx, hb, hml, hown, hts, hr, hlk, hK, had, hSt⟩ := id C
  intro H locs ls hl hP hS
  unfold fX10_lower_s78 at hf
  refine lv_aload_n hx hb dX10_lower_78 rfl (lv_at hl 0 rfl) ?_
  refine g_getR hx hb hts inlX10 hown hK hP 0 ct_0 rfl 9 (by decide) (hts _ wm_3_2) rfl dX10_lower_79 ?_
  refine lv_iload hx hb dX10_lower_82 (lv_at hl 4 rfl) ?_
  refine lv_lload_n hx hb dX10_lower_84 rfl (lv_at hl 1 rfl) ?_
  refine lv_lload hx hb dX10_lower_85 (lv_at hl 6 rfl) ?_
  refine lv_lmul hx hb dX10_lower_87 ?_
  refine lv_lload hx hb dX10_lower_88 (lv_at hl 2 rfl) ?_
  refine lv_lload hx hb dX10_lower_90 (lv_at hl 5 rfl) ?_
  refine lv_lmul hx hb dX10_lower_92 ?_
  refine lv_lsub hx hb dX10_lower_93 ?_
  obtain ⟨g1, hf⟩ := gd hf
  refine g_last hx hb hK had hP hS 48 ct_48 g1 dX10_lower_94 (fun H locs hP hS => ?_)
  exact wX10_lower_s95 C n K36 v2 v4 v6 v7 (setJ st 48 v7.toNatClampNeg ((v2 * v10) - (v4 * v8))) res hK36 hf H locs ls (lv_sub hl [0, 1, 2, 3, 4] rfl) hP hS
def fX10_lower_s43 (n : Nat) (K36 : Int64 → Int64 → Int32 → Int32 → St → Option (Unit × St))  (v2 : Int64) (v4 : Int64) (v6 : Int32) (v7 : Int32) (st : St) : Option (Unit × St) := if inb v6 5 = true then (if inb v7 5 = true then (if inb v6 5 = true then (fX10_lower_s78 n K36 v2 v4 v6 v7 (st.2 48 v6.toNatClampNeg) (st.2 48 v7.toNatClampNeg) (setJ st 48 v6.toNatClampNeg ((v2 * (st.2 48 v6.toNatClampNeg)) - (v4 * (st.2 48 v7.toNatClampNeg))))) else none) else none) else none
set_option maxHeartbeats 4000000 in
set_option maxRecDepth 100000 in
theorem wX10_lower_s43 (C : Cx p s m args meth c cX10_lower 12 wsL_law RX10 none D G ad) (n : Nat) (K36 : Int64 → Int64 → Int32 → Int32 → St → Option (Unit × St))  (v2 : Int64) (v4 : Int64) (v6 : Int32) (v7 : Int32)   (st : St) (res : (Unit × St)) (hK36 : ∀ (v2 : Int64) (v4 : Int64) (v6 : Int32) (v7 : Int32) (st : St), K36 v2 v4 v6 v7 st = some res → At p l e (rmK 0) s m args below meth c D G ad (MQV D G ad below args s res) 12 st [(0, .ref (ad 0)), (2, .long v2), (4, .long v4), (6, .int v6), (7, .int v7)] 36 []) (hf : fX10_lower_s43 n K36  v2 v4 v6 v7 st = some res) : At p l e (rmK 0) s m args below meth c D G ad (MQV D G ad below args s res) 12 st [(0, .ref (ad 0)), (2, .long v2), (4, .long v4), (6, .int v6), (7, .int v7)] 43 [] := by
  obtain ⟨hx, hb, hml, hown, hts, hr, hlk, hK, had, hSt⟩ := id C
  intro H locs ls hl hP hS
  unfold fX10_lower_s43 at hf
  refine lv_aload_n hx hb dX10_lower_43 rfl (lv_at hl 0 rfl) ?_
  refine g_getR hx hb hts inlX10 hown hK hP 0 ct_0 rfl 9 (by decide) (hts _ wm_3_2) rfl dX10_lower_44 ?_
  refine lv_iload hx hb dX10_lower_47 (lv_at hl 3 rfl) ?_
  obtain ⟨g1, hf⟩ := gd hf
  refine g_lald hx hb hK hP 48 ct_48 g1 dX10_lower_49 ?_
  refine lv_lstore (lv' := [(8, .long (st.2 48 v6.toNatClampNeg)), (0, .ref (ad 0)), (2, .long v2), (4, .long v4), (6, .int v6), (7, .int v7)]) hx hb dX10_lower_50 hl (by decide) rfl (fun ls hl => ?_)
  refine lv_aload_n hx hb dX10_lower_52 rfl (lv_at hl 1 rfl) ?_
  refine g_getR hx hb hts inlX10 hown hK hP 0 ct_0 rfl 9 (by decide) (hts _ wm_3_2) rfl dX10_lower_53 ?_
  refine lv_iload hx hb dX10_lower_56 (lv_at hl 5 rfl) ?_
  obtain ⟨g2, hf⟩ := gd hf
  refine g_lald hx hb hK hP 48 ct_48 g2 dX10_lower_58 ?_
  refine lv_lstore (lv' := [(10, .long (st.2 48 v7.toNatClampNeg)), (8, .long (st.2 48 v6.toNatClampNeg)), (0, .ref (ad 0)), (2, .long v2), (4, .long v4), (6, .int v6), (7, .int v7)]) hx hb dX10_lower_59 hl (by decide) rfl (fun ls hl => ?_)
  refine lv_aload_n hx hb dX10_lower_61 rfl (lv_at hl 2 rfl) ?_
  refine g_getR hx hb hts inlX10 hown hK hP 0 ct_0 rfl 9 (by decide) (hts _ wm_3_2) rfl dX10_lower_62 ?_
  refine lv_iload hx hb dX10_lower_65 (lv_at hl 5 rfl) ?_
  refine lv_lload_n hx hb dX10_lower_67 rfl (lv_at hl 3 rfl) ?_
  refine lv_lload hx hb dX10_lower_68 (lv_at hl 1 rfl) ?_
  refine lv_lmul hx hb dX10_lower_70 ?_
  refine lv_lload hx hb dX10_lower_71 (lv_at hl 4 rfl) ?_
  refine lv_lload hx hb dX10_lower_73 (lv_at hl 0 rfl) ?_
  refine lv_lmul hx hb dX10_lower_75 ?_
  refine lv_lsub hx hb dX10_lower_76 ?_
  obtain ⟨g3, hf⟩ := gd hf
  refine g_last hx hb hK had hP hS 48 ct_48 g3 dX10_lower_77 (fun H locs hP hS => ?_)
  exact wX10_lower_s78 C n K36 v2 v4 v6 v7 (st.2 48 v6.toNatClampNeg) (st.2 48 v7.toNatClampNeg) (setJ st 48 v6.toNatClampNeg ((v2 * (st.2 48 v6.toNatClampNeg)) - (v4 * (st.2 48 v7.toNatClampNeg)))) res hK36 hf H locs ls (lv_sub hl [2, 3, 4, 5, 6, 1, 0] rfl) hP hS
def fX10_lower_s36 (n : Nat) (K36 : Int64 → Int64 → Int32 → Int32 → St → Option (Unit × St))  (v2 : Int64) (v4 : Int64) (v6 : Int32) (v7 : Int32) (st : St) : Option (Unit × St) := if v7 < v6 then fX10_lower_s104 n st else fX10_lower_s43 n K36 v2 v4 v6 v7 st
set_option maxHeartbeats 4000000 in
set_option maxRecDepth 100000 in
theorem wX10_lower_s36 (C : Cx p s m args meth c cX10_lower 12 wsL_law RX10 none D G ad) (n : Nat) (K36 : Int64 → Int64 → Int32 → Int32 → St → Option (Unit × St))  (v2 : Int64) (v4 : Int64) (v6 : Int32) (v7 : Int32)   (st : St) (res : (Unit × St)) (hK36 : ∀ (v2 : Int64) (v4 : Int64) (v6 : Int32) (v7 : Int32) (st : St), K36 v2 v4 v6 v7 st = some res → At p l e (rmK 0) s m args below meth c D G ad (MQV D G ad below args s res) 12 st [(0, .ref (ad 0)), (2, .long v2), (4, .long v4), (6, .int v6), (7, .int v7)] 36 []) (hf : fX10_lower_s36 n K36  v2 v4 v6 v7 st = some res) : At p l e (rmK 0) s m args below meth c D G ad (MQV D G ad below args s res) 12 st [(0, .ref (ad 0)), (2, .long v2), (4, .long v4), (6, .int v6), (7, .int v7)] 36 [] := by
  obtain ⟨hx, hb, hml, hown, hts, hr, hlk, hK, had, hSt⟩ := id C
  intro H locs ls hl hP hS
  unfold fX10_lower_s36 at hf
  refine lv_iload hx hb dX10_lower_36 (lv_at hl 3 rfl) ?_
  refine lv_iload hx hb dX10_lower_38 (lv_at hl 4 rfl) ?_
  refine lv_icmp_gt (tgt := 104) hx hb dX10_lower_40 (by decide) (fun q => ?_) (fun q => ?_)
  · exact wX10_lower_s104 C n st res (it hf q) H locs ls (lv_sub hl [] rfl) hP hS
  · exact wX10_lower_s43 C n K36 v2 v4 v6 v7 st res hK36 (ie hf q) H locs ls (lv_sub hl [0, 1, 2, 3, 4] rfl) hP hS
def fX10_lower_L36 (n : Nat)   : Nat → Int64 → Int64 → Int32 → Int32 → St → Option (Unit × St)
  | 0, _, _, _, _, _ => none
  | k + 1, v2, v4, v6, v7, st => fX10_lower_s36 n (fX10_lower_L36 n k)  v2 v4 v6 v7 st
theorem wX10_lower_L36 (C : Cx p s m args meth c cX10_lower 12 wsL_law RX10 none D G ad) (n : Nat)    (res : (Unit × St))  : ∀ (k : Nat) (v2 : Int64) (v4 : Int64) (v6 : Int32) (v7 : Int32)  (st : St), fX10_lower_L36 n k v2 v4 v6 v7 st = some res → At p l e (rmK 0) s m args below meth c D G ad (MQV D G ad below args s res) 12 st [(0, .ref (ad 0)), (2, .long v2), (4, .long v4), (6, .int v6), (7, .int v7)] 36 [] := by
  intro k
  induction k with
  | zero => intro v2 v4 v6 v7  st h; exact absurd h (by intro q; cases q)
  | succ k ih => intro v2 v4 v6 v7  st h; exact wX10_lower_s36 C n (fX10_lower_L36 n k)  v2 v4 v6 v7   st res ih h
def fX10_lower_s15 (n : Nat)   (v1 : Int32) (st : St) : Option (Unit × St) := if inb 0 5 = true then (if inb v1 5 = true then (fX10_lower_L36 n n (st.2 48 (0 : Int32).toNatClampNeg) (st.2 48 v1.toNatClampNeg) 0 v1 st) else none) else none
set_option maxHeartbeats 4000000 in
set_option maxRecDepth 100000 in
theorem wX10_lower_s15 (C : Cx p s m args meth c cX10_lower 12 wsL_law RX10 none D G ad) (n : Nat)   (v1 : Int32)   (st : St) (res : (Unit × St))  (hf : fX10_lower_s15 n   v1 st = some res) : At p l e (rmK 0) s m args below meth c D G ad (MQV D G ad below args s res) 12 st [(0, .ref (ad 0)), (1, .int v1)] 15 [] := by
  obtain ⟨hx, hb, hml, hown, hts, hr, hlk, hK, had, hSt⟩ := id C
  intro H locs ls hl hP hS
  unfold fX10_lower_s15 at hf
  refine lv_aload_n hx hb dX10_lower_15 rfl (lv_at hl 0 rfl) ?_
  refine g_getR hx hb hts inlX10 hown hK hP 0 ct_0 rfl 9 (by decide) (hts _ wm_3_2) rfl dX10_lower_16 ?_
  refine lv_iconst (v := 0) hx hb dX10_lower_19 (by decide) ?_
  obtain ⟨g1, hf⟩ := gd hf
  refine g_lald hx hb hK hP 48 ct_48 g1 dX10_lower_20 ?_
  refine lv_lstore_n (lv' := [(2, .long (st.2 48 (0 : Int32).toNatClampNeg)), (0, .ref (ad 0)), (1, .int v1)]) hx hb dX10_lower_21 rfl hl (by decide) rfl (fun ls hl => ?_)
  refine lv_aload_n hx hb dX10_lower_22 rfl (lv_at hl 1 rfl) ?_
  refine g_getR hx hb hts inlX10 hown hK hP 0 ct_0 rfl 9 (by decide) (hts _ wm_3_2) rfl dX10_lower_23 ?_
  refine lv_iload_n hx hb dX10_lower_26 rfl (lv_at hl 2 rfl) ?_
  obtain ⟨g2, hf⟩ := gd hf
  refine g_lald hx hb hK hP 48 ct_48 g2 dX10_lower_27 ?_
  refine lv_lstore (lv' := [(4, .long (st.2 48 v1.toNatClampNeg)), (2, .long (st.2 48 (0 : Int32).toNatClampNeg)), (0, .ref (ad 0)), (1, .int v1)]) hx hb dX10_lower_28 hl (by decide) rfl (fun ls hl => ?_)
  refine lv_iconst (v := 0) hx hb dX10_lower_30 (by decide) ?_
  refine lv_istore (lv' := [(6, .int 0), (4, .long (st.2 48 v1.toNatClampNeg)), (2, .long (st.2 48 (0 : Int32).toNatClampNeg)), (0, .ref (ad 0)), (1, .int v1)]) hx hb dX10_lower_31 hl (by decide) rfl (fun ls hl => ?_)
  refine lv_iload_n hx hb dX10_lower_33 rfl (lv_at hl 4 rfl) ?_
  refine lv_istore (lv' := [(7, .int v1), (6, .int 0), (4, .long (st.2 48 v1.toNatClampNeg)), (2, .long (st.2 48 (0 : Int32).toNatClampNeg)), (0, .ref (ad 0)), (1, .int v1)]) hx hb dX10_lower_34 hl (by decide) rfl (fun ls hl => ?_)
  exact wX10_lower_L36 C n res n (st.2 48 (0 : Int32).toNatClampNeg) (st.2 48 v1.toNatClampNeg) 0 v1 st hf H locs ls (lv_sub hl [4, 3, 2, 1, 0] rfl) hP hS
def fX10_lower_s5 (n : Nat)   (v1 : Int32) (st : St) : Option (Unit × St) := if v1 < 5 then fX10_lower_s15 n v1 st else fX10_lower_s14 n st
set_option maxHeartbeats 4000000 in
set_option maxRecDepth 100000 in
theorem wX10_lower_s5 (C : Cx p s m args meth c cX10_lower 12 wsL_law RX10 none D G ad) (n : Nat)   (v1 : Int32)   (st : St) (res : (Unit × St))  (hf : fX10_lower_s5 n   v1 st = some res) : At p l e (rmK 0) s m args below meth c D G ad (MQV D G ad below args s res) 12 st [(0, .ref (ad 0)), (1, .int v1)] 5 [] := by
  obtain ⟨hx, hb, hml, hown, hts, hr, hlk, hK, had, hSt⟩ := id C
  intro H locs ls hl hP hS
  unfold fX10_lower_s5 at hf
  refine lv_iload_n hx hb dX10_lower_5 rfl (lv_at hl 1 rfl) ?_
  refine lv_aload_n hx hb dX10_lower_6 rfl (lv_at hl 0 rfl) ?_
  refine g_getR hx hb hts inlX10 hown hK hP 0 ct_0 rfl 9 (by decide) (hts _ wm_3_2) rfl dX10_lower_7 ?_
  refine g_alen hx hb hK hP 48 ct_48 dX10_lower_10 ?_
  refine lv_topc (v := 5) (by decide) ?_
  refine lv_icmp_lt (tgt := 15) hx hb dX10_lower_11 (by decide) (fun q => ?_) (fun q => ?_)
  · exact wX10_lower_s15 C n v1 st res (it hf q) H locs ls (lv_sub hl [0, 1] rfl) hP hS
  · exact wX10_lower_s14 C n st res (ie hf q) H locs ls (lv_sub hl [] rfl) hP hS
def fX10_lower_s0 (n : Nat)   (v1 : Int32) (st : St) : Option (Unit × St) := if v1 < 2 then fX10_lower_s14 n st else fX10_lower_s5 n v1 st
set_option maxHeartbeats 4000000 in
set_option maxRecDepth 100000 in
theorem wX10_lower_s0 (C : Cx p s m args meth c cX10_lower 12 wsL_law RX10 none D G ad) (n : Nat)   (v1 : Int32)   (st : St) (res : (Unit × St))  (hf : fX10_lower_s0 n   v1 st = some res) : At p l e (rmK 0) s m args below meth c D G ad (MQV D G ad below args s res) 12 st [(0, .ref (ad 0)), (1, .int v1)] 0 [] := by
  obtain ⟨hx, hb, hml, hown, hts, hr, hlk, hK, had, hSt⟩ := id C
  intro H locs ls hl hP hS
  unfold fX10_lower_s0 at hf
  refine lv_iload_n hx hb dX10_lower_0 rfl (lv_at hl 1 rfl) ?_
  refine lv_iconst (v := 2) hx hb dX10_lower_1 (by decide) ?_
  refine lv_icmp_lt (tgt := 14) hx hb dX10_lower_2 (by decide) (fun q => ?_) (fun q => ?_)
  · exact wX10_lower_s14 C n st res (it hf q) H locs ls (lv_sub hl [] rfl) hP hS
  · exact wX10_lower_s5 C n v1 st res (ie hf q) H locs ls (lv_sub hl [0, 1] rfl) hP hS
def fX10_lower (n : Nat)  (a1 : Int32) (st : St) : Option (Unit × St) := fX10_lower_s0 n a1 st
theorem okX10_lower : okY yX10_lower RX10 1 := by unfold okY; decide +kernel
end
set_option maxRecDepth 100000 in
theorem kX10_lower (l : Launch) (D : va_G) (G : G3) (ad : Nat → Nat) (had : Adr ad) (n : Nat)   (a1 : Int32) (st : St) (res : (Unit × St)) (hf : fX10_lower n  a1 st = some res) {sz : Nat} : CtV l yX10_lower (wsU yX10_lower cX10_lower 12 none) (rmK 0) D G ad sz [.ref (ad 0), .int a1] st res := by
  refine Met.ofW (cc := cX10_lower) (maxL := 12) (ret := none) (by decide) rfl ?_
  intro p e s m args below meth c s₁ B hml hv
  obtain ⟨rfl, hsz, hP, hK, hSt⟩ := hv
  have hts := atoms_spec (ws := wsU yX10_lower cX10_lower 12 none) B.pre
  have C : Cx p s m _ meth c cX10_lower 12 wsL_law RX10 none D G ad := ⟨B.exec, B.bytes, hml, findClass_of_methodNamed B.named, fun w h => hts w (List.mem_cons_of_mem _ h), B.returns, B.notSynchronized, hK, had, hSt⟩
  subst hsz
  have hl := lv_entry ([.ref (ad 0), .int a1]) (n := 12) (Nat.le_of_ble_eq_true rfl)
  rw [lg_entry_eq]
  generalize (lg_sl ([.ref (ad 0), .int a1]) ++ List.replicate (12 - (lg_sl ([.ref (ad 0), .int a1])).length) Slot.unset).toArray = ls at hl ⊢
  exact wX10_lower_s0 C n  a1   st res hf s.heap [] ls (lv_sub hl [0, 1] rfl) hP va_S.rf
section
variable {p : Program} {l : Launch} {e : Env} {s : State} {m : MethodId} {args : Array Value} {below : List Frame} {meth : Method} {c : Code} {D : va_G} {G : G3} {ad : Nat → Nat}
def fX10_steady_s22 (n : Nat)    (st : St) : Option (Int32 × St) := some ((-2), st)
set_option maxHeartbeats 4000000 in
set_option maxRecDepth 100000 in
theorem wX10_steady_s22 (C : Cx p s m args meth c cX10_steady 6 wsL_law RX10 (some .int) D G ad) (n : Nat)      (st : St) (res : (Int32 × St))  (hf : fX10_steady_s22 n    st = some res) : At p l e (rmK 1) s m args below meth c D G ad (MQI D G ad below args s res) 6 st [] 22 [] := by
  obtain ⟨hx, hb, hml, hown, hts, hr, hlk, hK, had, hSt⟩ := id C
  intro H locs ls hl hP hS
  unfold fX10_steady_s22 at hf
  refine lv_bipush (v := (-2)) hx hb dX10_steady_22 (by decide) ?_
  exact g_iret hx hb hr hlk hP hS dX10_steady_24 hf
def fX10_steady_s137 (n : Nat)    (st : St) : Option (Int32 × St) := some (1, st)
set_option maxHeartbeats 4000000 in
set_option maxRecDepth 100000 in
theorem wX10_steady_s137 (C : Cx p s m args meth c cX10_steady 6 wsL_law RX10 (some .int) D G ad) (n : Nat)      (st : St) (res : (Int32 × St))  (hf : fX10_steady_s137 n    st = some res) : At p l e (rmK 1) s m args below meth c D G ad (MQI D G ad below args s res) 6 st [] 137 [] := by
  obtain ⟨hx, hb, hml, hown, hts, hr, hlk, hK, had, hSt⟩ := id C
  intro H locs ls hl hP hS
  unfold fX10_steady_s137 at hf
  refine lv_iconst (v := 1) hx hb dX10_steady_137 (by decide) ?_
  exact g_iret hx hb hr hlk hP hS dX10_steady_138 hf
def fX10_steady_s131 (n : Nat) (K95 : Int32 → St → Option (Int32 × St))  (v4 : Int32) (st : St) : Option (Int32 × St) := K95 (v4 + (-1)) st
set_option maxHeartbeats 4000000 in
set_option maxRecDepth 100000 in
theorem wX10_steady_s131 (C : Cx p s m args meth c cX10_steady 6 wsL_law RX10 (some .int) D G ad) (n : Nat) (K95 : Int32 → St → Option (Int32 × St))  (v4 : Int32)   (st : St) (res : (Int32 × St)) (hK95 : ∀ (v4 : Int32) (st : St), K95 v4 st = some res → At p l e (rmK 1) s m args below meth c D G ad (MQI D G ad below args s res) 6 st [(0, .ref (ad 0)), (4, .int v4)] 95 []) (hf : fX10_steady_s131 n K95  v4 st = some res) : At p l e (rmK 1) s m args below meth c D G ad (MQI D G ad below args s res) 6 st [(0, .ref (ad 0)), (4, .int v4)] 131 [] := by
  obtain ⟨hx, hb, hml, hown, hts, hr, hlk, hK, had, hSt⟩ := id C
  intro H locs ls hl hP hS
  unfold fX10_steady_s131 at hf
  refine lv_iinc (v := v4 + (-1)) (lv' := [(4, .int (v4 + (-1))), (0, .ref (ad 0))]) hx hb dX10_steady_131 hl (k := 1) rfl rfl (by decide) rfl (fun ls hl => ?_)
  refine lv_goto (tgt := 95) hx hb dX10_steady_134 (by decide) ?_
  exact hK95 (v4 + (-1))  st hf H locs ls (lv_sub hl [1, 0] rfl) hP hS
def fX10_steady_s125 (n : Nat) (K95 : Int32 → St → Option (Int32 × St))  (v4 : Int32) (st : St) : Option (Int32 × St) := (fX10_lower n v4 st).bind (fun q => fX10_steady_s131 n K95 v4 q.2)
set_option maxHeartbeats 4000000 in
set_option maxRecDepth 100000 in
theorem wX10_steady_s125 (C : Cx p s m args meth c cX10_steady 6 wsL_law RX10 (some .int) D G ad) (n : Nat) (K95 : Int32 → St → Option (Int32 × St))  (v4 : Int32)   (st : St) (res : (Int32 × St)) (hK95 : ∀ (v4 : Int32) (st : St), K95 v4 st = some res → At p l e (rmK 1) s m args below meth c D G ad (MQI D G ad below args s res) 6 st [(0, .ref (ad 0)), (4, .int v4)] 95 []) (hf : fX10_steady_s125 n K95  v4 st = some res) : At p l e (rmK 1) s m args below meth c D G ad (MQI D G ad below args s res) 6 st [(0, .ref (ad 0)), (4, .int v4)] 125 [] := by
  obtain ⟨hx, hb, hml, hown, hts, hr, hlk, hK, had, hSt⟩ := id C
  intro H locs ls hl hP hS
  unfold fX10_steady_s125 at hf
  refine lv_aload_n hx hb dX10_steady_125 rfl (lv_at hl 0 rfl) ?_
  refine lv_iload hx hb dX10_steady_126 (lv_at hl 1 rfl) ?_
  obtain ⟨q, hq, hf⟩ := bd hf
  refine gcV_v (k := 0) (o := 0) (As := [.int v4]) (rest := []) hx hb hml hown hts hK hSt hP hS hl.1 (goodV wm_39_10 wm_39_11 wm_39_12 wm_1_2 wm_39_13) okX10_lower ct_0 rfl rfl (Nat.le_of_ble_eq_true rfl) (Nat.le_of_ble_eq_true rfl) rfl rfl (Nat.le_of_ble_eq_true rfl) dX10_steady_128 (kX10_lower l D G ad had n  v4 st q hq) (fun H locs hP hS => ?_)
  exact wX10_steady_s131 C n K95 v4 q.2 res hK95 hf H locs ls (lv_sub hl [0, 1] rfl) hP hS
def fX10_steady_s123 (n : Nat)    (st : St) : Option (Int32 × St) := some (0, st)
set_option maxHeartbeats 4000000 in
set_option maxRecDepth 100000 in
theorem wX10_steady_s123 (C : Cx p s m args meth c cX10_steady 6 wsL_law RX10 (some .int) D G ad) (n : Nat)      (st : St) (res : (Int32 × St))  (hf : fX10_steady_s123 n    st = some res) : At p l e (rmK 1) s m args below meth c D G ad (MQI D G ad below args s res) 6 st [] 123 [] := by
  obtain ⟨hx, hb, hml, hown, hts, hr, hlk, hK, had, hSt⟩ := id C
  intro H locs ls hl hP hS
  unfold fX10_steady_s123 at hf
  refine lv_iconst (v := 0) hx hb dX10_steady_123 (by decide) ?_
  exact g_iret hx hb hr hlk hP hS dX10_steady_124 hf
def fX10_steady_s100 (n : Nat) (K95 : Int32 → St → Option (Int32 × St))  (v4 : Int32) (st : St) : Option (Int32 × St) := if inb 0 5 = true then (if inb v4 5 = true then (if (if 0 < (st.2 48 v4.toNatClampNeg) then (st.2 48 v4.toNatClampNeg) else -(st.2 48 v4.toNatClampNeg)) < (if 0 < (st.2 48 (0 : Int32).toNatClampNeg) then (st.2 48 (0 : Int32).toNatClampNeg) else -(st.2 48 (0 : Int32).toNatClampNeg)) then fX10_steady_s125 n K95 v4 st else fX10_steady_s123 n st) else none) else none
set_option maxHeartbeats 4000000 in
set_option maxRecDepth 100000 in
theorem wX10_steady_s100 (C : Cx p s m args meth c cX10_steady 6 wsL_law RX10 (some .int) D G ad) (n : Nat) (K95 : Int32 → St → Option (Int32 × St))  (v4 : Int32)   (st : St) (res : (Int32 × St)) (hK95 : ∀ (v4 : Int32) (st : St), K95 v4 st = some res → At p l e (rmK 1) s m args below meth c D G ad (MQI D G ad below args s res) 6 st [(0, .ref (ad 0)), (4, .int v4)] 95 []) (hf : fX10_steady_s100 n K95  v4 st = some res) : At p l e (rmK 1) s m args below meth c D G ad (MQI D G ad below args s res) 6 st [(0, .ref (ad 0)), (4, .int v4)] 100 [] := by
  obtain ⟨hx, hb, hml, hown, hts, hr, hlk, hK, had, hSt⟩ := id C
  intro H locs ls hl hP hS
  unfold fX10_steady_s100 at hf
  refine lv_aload_n hx hb dX10_steady_100 rfl (lv_at hl 0 rfl) ?_
  refine g_getR hx hb hts inlX10 hown hK hP 0 ct_0 rfl 9 (by decide) (hts _ wm_3_2) rfl dX10_steady_101 ?_
  refine lv_iconst (v := 0) hx hb dX10_steady_104 (by decide) ?_
  obtain ⟨g1, hf⟩ := gd hf
  refine g_lald hx hb hK hP 48 ct_48 g1 dX10_steady_105 ?_
  refine va_mabs_long hx hb (hml.trans hl.1.symm) hown (hts _ wm_39_6) (hts _ wm_33_10) (hts _ wm_18_20) (hts _ wm_33_11) (Nat.le_of_ble_eq_true rfl) (Nat.le_of_ble_eq_true rfl) (Nat.zero_le _) (Nat.zero_le _) dX10_steady_106 ?_
  refine lv_aload_n hx hb dX10_steady_109 rfl (lv_at hl 0 rfl) ?_
  refine g_getR hx hb hts inlX10 hown hK hP 0 ct_0 rfl 9 (by decide) (hts _ wm_3_2) rfl dX10_steady_110 ?_
  refine lv_iload hx hb dX10_steady_113 (lv_at hl 1 rfl) ?_
  obtain ⟨g2, hf⟩ := gd hf
  refine g_lald hx hb hK hP 48 ct_48 g2 dX10_steady_115 ?_
  refine va_mabs_long hx hb (hml.trans hl.1.symm) hown (hts _ wm_39_6) (hts _ wm_33_10) (hts _ wm_18_20) (hts _ wm_33_11) (Nat.le_of_ble_eq_true rfl) (Nat.le_of_ble_eq_true rfl) (Nat.zero_le _) (Nat.zero_le _) dX10_steady_116 ?_
  refine g_lcmp_gt (tgt := 125) hx hb dX10_steady_119 dX10_steady_120 (by decide) (fun q => ?_) (fun q => ?_)
  · exact wX10_steady_s125 C n K95 v4 st res hK95 (it hf q) H locs ls (lv_sub hl [0, 1] rfl) hP hS
  · exact wX10_steady_s123 C n st res (ie hf q) H locs ls (lv_sub hl [] rfl) hP hS
def fX10_steady_s95 (n : Nat) (K95 : Int32 → St → Option (Int32 × St))  (v4 : Int32) (st : St) : Option (Int32 × St) := if v4 ≤ 0 then fX10_steady_s137 n st else fX10_steady_s100 n K95 v4 st
set_option maxHeartbeats 4000000 in
set_option maxRecDepth 100000 in
theorem wX10_steady_s95 (C : Cx p s m args meth c cX10_steady 6 wsL_law RX10 (some .int) D G ad) (n : Nat) (K95 : Int32 → St → Option (Int32 × St))  (v4 : Int32)   (st : St) (res : (Int32 × St)) (hK95 : ∀ (v4 : Int32) (st : St), K95 v4 st = some res → At p l e (rmK 1) s m args below meth c D G ad (MQI D G ad below args s res) 6 st [(0, .ref (ad 0)), (4, .int v4)] 95 []) (hf : fX10_steady_s95 n K95  v4 st = some res) : At p l e (rmK 1) s m args below meth c D G ad (MQI D G ad below args s res) 6 st [(0, .ref (ad 0)), (4, .int v4)] 95 [] := by
  obtain ⟨hx, hb, hml, hown, hts, hr, hlk, hK, had, hSt⟩ := id C
  intro H locs ls hl hP hS
  unfold fX10_steady_s95 at hf
  refine lv_iload hx hb dX10_steady_95 (lv_at hl 1 rfl) ?_
  refine lv_if_le (tgt := 137) hx hb dX10_steady_97 (by decide) (fun q => ?_) (fun q => ?_)
  · exact wX10_steady_s137 C n st res (it hf q) H locs ls (lv_sub hl [] rfl) hP hS
  · exact wX10_steady_s100 C n K95 v4 st res hK95 (ie hf q) H locs ls (lv_sub hl [0, 1] rfl) hP hS
def fX10_steady_L95 (n : Nat)   : Nat → Int32 → St → Option (Int32 × St)
  | 0, _, _ => none
  | k + 1, v4, st => fX10_steady_s95 n (fX10_steady_L95 n k)  v4 st
theorem wX10_steady_L95 (C : Cx p s m args meth c cX10_steady 6 wsL_law RX10 (some .int) D G ad) (n : Nat)    (res : (Int32 × St))  : ∀ (k : Nat) (v4 : Int32)  (st : St), fX10_steady_L95 n k v4 st = some res → At p l e (rmK 1) s m args below meth c D G ad (MQI D G ad below args s res) 6 st [(0, .ref (ad 0)), (4, .int v4)] 95 [] := by
  intro k
  induction k with
  | zero => intro v4  st h; exact absurd h (by intro q; cases q)
  | succ k ih => intro v4  st h; exact wX10_steady_s95 C n (fX10_steady_L95 n k)  v4   st res ih h
def fX10_steady_s92 (n : Nat)   (v3 : Int32) (st : St) : Option (Int32 × St) := fX10_steady_L95 n n v3 st
set_option maxHeartbeats 4000000 in
set_option maxRecDepth 100000 in
theorem wX10_steady_s92 (C : Cx p s m args meth c cX10_steady 6 wsL_law RX10 (some .int) D G ad) (n : Nat)   (v3 : Int32)   (st : St) (res : (Int32 × St))  (hf : fX10_steady_s92 n   v3 st = some res) : At p l e (rmK 1) s m args below meth c D G ad (MQI D G ad below args s res) 6 st [(0, .ref (ad 0)), (3, .int v3)] 92 [] := by
  obtain ⟨hx, hb, hml, hown, hts, hr, hlk, hK, had, hSt⟩ := id C
  intro H locs ls hl hP hS
  unfold fX10_steady_s92 at hf
  refine lv_iload_n hx hb dX10_steady_92 rfl (lv_at hl 1 rfl) ?_
  refine lv_istore (lv' := [(4, .int v3), (0, .ref (ad 0)), (3, .int v3)]) hx hb dX10_steady_93 hl (by decide) rfl (fun ls hl => ?_)
  exact wX10_steady_L95 C n res n v3 st hf H locs ls (lv_sub hl [1, 0] rfl) hP hS
def fX10_steady_s73 (n : Nat)    (st : St) : Option (Int32 × St) := some ((-2), st)
set_option maxHeartbeats 4000000 in
set_option maxRecDepth 100000 in
theorem wX10_steady_s73 (C : Cx p s m args meth c cX10_steady 6 wsL_law RX10 (some .int) D G ad) (n : Nat)      (st : St) (res : (Int32 × St))  (hf : fX10_steady_s73 n    st = some res) : At p l e (rmK 1) s m args below meth c D G ad (MQI D G ad below args s res) 6 st [] 73 [] := by
  obtain ⟨hx, hb, hml, hown, hts, hr, hlk, hK, had, hSt⟩ := id C
  intro H locs ls hl hP hS
  unfold fX10_steady_s73 at hf
  refine lv_bipush (v := (-2)) hx hb dX10_steady_73 (by decide) ?_
  exact g_iret hx hb hr hlk hP hS dX10_steady_75 hf
def fX10_steady_s86 (n : Nat) (K28 : Int64 → Int32 → Int32 → St → Option (Int32 × St))  (v1 : Int64) (v3 : Int32) (v4 : Int32) (st : St) : Option (Int32 × St) := K28 v1 v3 (v4 + 1) st
set_option maxHeartbeats 4000000 in
set_option maxRecDepth 100000 in
theorem wX10_steady_s86 (C : Cx p s m args meth c cX10_steady 6 wsL_law RX10 (some .int) D G ad) (n : Nat) (K28 : Int64 → Int32 → Int32 → St → Option (Int32 × St))  (v1 : Int64) (v3 : Int32) (v4 : Int32)   (st : St) (res : (Int32 × St)) (hK28 : ∀ (v1 : Int64) (v3 : Int32) (v4 : Int32) (st : St), K28 v1 v3 v4 st = some res → At p l e (rmK 1) s m args below meth c D G ad (MQI D G ad below args s res) 6 st [(0, .ref (ad 0)), (1, .long v1), (3, .int v3), (4, .int v4)] 28 []) (hf : fX10_steady_s86 n K28  v1 v3 v4 st = some res) : At p l e (rmK 1) s m args below meth c D G ad (MQI D G ad below args s res) 6 st [(0, .ref (ad 0)), (1, .long v1), (3, .int v3), (4, .int v4)] 86 [] := by
  obtain ⟨hx, hb, hml, hown, hts, hr, hlk, hK, had, hSt⟩ := id C
  intro H locs ls hl hP hS
  unfold fX10_steady_s86 at hf
  refine lv_iinc (v := v4 + 1) (lv' := [(4, .int (v4 + 1)), (0, .ref (ad 0)), (1, .long v1), (3, .int v3)]) hx hb dX10_steady_86 hl (k := 3) rfl rfl (by decide) rfl (fun ls hl => ?_)
  refine lv_goto (tgt := 28) hx hb dX10_steady_89 (by decide) ?_
  exact hK28 v1 v3 (v4 + 1)  st hf H locs ls (lv_sub hl [1, 2, 3, 0] rfl) hP hS
def fX10_steady_s76 (n : Nat) (K28 : Int64 → Int32 → Int32 → St → Option (Int32 × St))  (v1 : Int64) (v3 : Int32) (v4 : Int32) (v5 : Int32) (st : St) : Option (Int32 × St) := if inb v4 5 = true then (fX10_steady_s86 n K28 v1 v3 v4 (setJ st 48 v4.toNatClampNeg v5.toInt64)) else none
set_option maxHeartbeats 4000000 in
set_option maxRecDepth 100000 in
theorem wX10_steady_s76 (C : Cx p s m args meth c cX10_steady 6 wsL_law RX10 (some .int) D G ad) (n : Nat) (K28 : Int64 → Int32 → Int32 → St → Option (Int32 × St))  (v1 : Int64) (v3 : Int32) (v4 : Int32) (v5 : Int32)   (st : St) (res : (Int32 × St)) (hK28 : ∀ (v1 : Int64) (v3 : Int32) (v4 : Int32) (st : St), K28 v1 v3 v4 st = some res → At p l e (rmK 1) s m args below meth c D G ad (MQI D G ad below args s res) 6 st [(0, .ref (ad 0)), (1, .long v1), (3, .int v3), (4, .int v4)] 28 []) (hf : fX10_steady_s76 n K28  v1 v3 v4 v5 st = some res) : At p l e (rmK 1) s m args below meth c D G ad (MQI D G ad below args s res) 6 st [(0, .ref (ad 0)), (1, .long v1), (3, .int v3), (4, .int v4), (5, .int v5)] 76 [] := by
  obtain ⟨hx, hb, hml, hown, hts, hr, hlk, hK, had, hSt⟩ := id C
  intro H locs ls hl hP hS
  unfold fX10_steady_s76 at hf
  refine lv_aload_n hx hb dX10_steady_76 rfl (lv_at hl 0 rfl) ?_
  refine g_getR hx hb hts inlX10 hown hK hP 0 ct_0 rfl 9 (by decide) (hts _ wm_3_2) rfl dX10_steady_77 ?_
  refine lv_iload hx hb dX10_steady_80 (lv_at hl 3 rfl) ?_
  refine lv_iload hx hb dX10_steady_82 (lv_at hl 4 rfl) ?_
  refine lv_i2l hx hb dX10_steady_84 rfl ?_
  obtain ⟨g1, hf⟩ := gd hf
  refine g_last hx hb hK had hP hS 48 ct_48 g1 dX10_steady_85 (fun H locs hP hS => ?_)
  exact wX10_steady_s86 C n K28 v1 v3 v4 (setJ st 48 v4.toNatClampNeg v5.toInt64) res hK28 hf H locs ls (lv_sub hl [0, 1, 2, 3] rfl) hP hS
def fX10_steady_s68 (n : Nat) (K28 : Int64 → Int32 → Int32 → St → Option (Int32 × St))  (v1 : Int64) (v3 : Int32) (v4 : Int32) (v5 : Int32) (st : St) : Option (Int32 × St) := if v5 = 0 then fX10_steady_s73 n st else fX10_steady_s76 n K28 v1 v3 v4 v5 st
set_option maxHeartbeats 4000000 in
set_option maxRecDepth 100000 in
theorem wX10_steady_s68 (C : Cx p s m args meth c cX10_steady 6 wsL_law RX10 (some .int) D G ad) (n : Nat) (K28 : Int64 → Int32 → Int32 → St → Option (Int32 × St))  (v1 : Int64) (v3 : Int32) (v4 : Int32) (v5 : Int32)   (st : St) (res : (Int32 × St)) (hK28 : ∀ (v1 : Int64) (v3 : Int32) (v4 : Int32) (st : St), K28 v1 v3 v4 st = some res → At p l e (rmK 1) s m args below meth c D G ad (MQI D G ad below args s res) 6 st [(0, .ref (ad 0)), (1, .long v1), (3, .int v3), (4, .int v4)] 28 []) (hf : fX10_steady_s68 n K28  v1 v3 v4 v5 st = some res) : At p l e (rmK 1) s m args below meth c D G ad (MQI D G ad below args s res) 6 st [(0, .ref (ad 0)), (1, .long v1), (3, .int v3), (4, .int v4), (5, .int v5)] 68 [] := by
  obtain ⟨hx, hb, hml, hown, hts, hr, hlk, hK, had, hSt⟩ := id C
  intro H locs ls hl hP hS
  unfold fX10_steady_s68 at hf
  refine lv_iload hx hb dX10_steady_68 (lv_at hl 4 rfl) ?_
  refine lv_if_ne (tgt := 76) hx hb dX10_steady_70 (by decide) (fun q => ?_) (fun q => ?_)
  · exact wX10_steady_s76 C n K28 v1 v3 v4 v5 st res hK28 (ie hf q) H locs ls (lv_sub hl [0, 1, 2, 3, 4] rfl) hP hS
  · exact wX10_steady_s73 C n st res (it hf q) H locs ls (lv_sub hl [] rfl) hP hS
def fX10_steady_s63 (n : Nat) (K28 : Int64 → Int32 → Int32 → St → Option (Int32 × St))  (v1 : Int64) (v3 : Int32) (v4 : Int32) (v5 : Int32) (st : St) : Option (Int32 × St) := if v4 = 0 then fX10_steady_s68 n K28 v1 v3 v4 v5 st else fX10_steady_s76 n K28 v1 v3 v4 v5 st
set_option maxHeartbeats 4000000 in
set_option maxRecDepth 100000 in
theorem wX10_steady_s63 (C : Cx p s m args meth c cX10_steady 6 wsL_law RX10 (some .int) D G ad) (n : Nat) (K28 : Int64 → Int32 → Int32 → St → Option (Int32 × St))  (v1 : Int64) (v3 : Int32) (v4 : Int32) (v5 : Int32)   (st : St) (res : (Int32 × St)) (hK28 : ∀ (v1 : Int64) (v3 : Int32) (v4 : Int32) (st : St), K28 v1 v3 v4 st = some res → At p l e (rmK 1) s m args below meth c D G ad (MQI D G ad below args s res) 6 st [(0, .ref (ad 0)), (1, .long v1), (3, .int v3), (4, .int v4)] 28 []) (hf : fX10_steady_s63 n K28  v1 v3 v4 v5 st = some res) : At p l e (rmK 1) s m args below meth c D G ad (MQI D G ad below args s res) 6 st [(0, .ref (ad 0)), (1, .long v1), (3, .int v3), (4, .int v4), (5, .int v5)] 63 [] := by
  obtain ⟨hx, hb, hml, hown, hts, hr, hlk, hK, had, hSt⟩ := id C
  intro H locs ls hl hP hS
  unfold fX10_steady_s63 at hf
  refine lv_iload hx hb dX10_steady_63 (lv_at hl 3 rfl) ?_
  refine lv_if_ne (tgt := 76) hx hb dX10_steady_65 (by decide) (fun q => ?_) (fun q => ?_)
  · exact wX10_steady_s76 C n K28 v1 v3 v4 v5 st res hK28 (ie hf q) H locs ls (lv_sub hl [0, 1, 2, 3, 4] rfl) hP hS
  · exact wX10_steady_s68 C n K28 v1 v3 v4 v5 st res hK28 (it hf q) H locs ls (lv_sub hl [0, 1, 2, 3, 4] rfl) hP hS
def fX10_steady_s60 (n : Nat) (K28 : Int64 → Int32 → Int32 → St → Option (Int32 × St))  (v1 : Int64) (v3 : Int32) (v4 : Int32) (v5 : Int32) (k0 : Int32) (st : St) : Option (Int32 × St) := if k0 = 0 then fX10_steady_s73 n st else fX10_steady_s63 n K28 v1 v3 v4 v5 st
set_option maxHeartbeats 4000000 in
set_option maxRecDepth 100000 in
theorem wX10_steady_s60 (C : Cx p s m args meth c cX10_steady 6 wsL_law RX10 (some .int) D G ad) (n : Nat) (K28 : Int64 → Int32 → Int32 → St → Option (Int32 × St))  (v1 : Int64) (v3 : Int32) (v4 : Int32) (v5 : Int32) (k0 : Int32)   (st : St) (res : (Int32 × St)) (hK28 : ∀ (v1 : Int64) (v3 : Int32) (v4 : Int32) (st : St), K28 v1 v3 v4 st = some res → At p l e (rmK 1) s m args below meth c D G ad (MQI D G ad below args s res) 6 st [(0, .ref (ad 0)), (1, .long v1), (3, .int v3), (4, .int v4)] 28 []) (hf : fX10_steady_s60 n K28  v1 v3 v4 v5 k0 st = some res) : At p l e (rmK 1) s m args below meth c D G ad (MQI D G ad below args s res) 6 st [(0, .ref (ad 0)), (1, .long v1), (3, .int v3), (4, .int v4), (5, .int v5)] 60 [.int k0] := by
  obtain ⟨hx, hb, hml, hown, hts, hr, hlk, hK, had, hSt⟩ := id C
  intro H locs ls hl hP hS
  unfold fX10_steady_s60 at hf
  refine lv_if_eq (tgt := 73) hx hb dX10_steady_60 (by decide) (fun q => ?_) (fun q => ?_)
  · exact wX10_steady_s73 C n st res (it hf q) H locs ls (lv_sub hl [] rfl) hP hS
  · exact wX10_steady_s63 C n K28 v1 v3 v4 v5 st res hK28 (ie hf q) H locs ls (lv_sub hl [0, 1, 2, 3, 4] rfl) hP hS
def fX10_steady_s34 (n : Nat) (K28 : Int64 → Int32 → Int32 → St → Option (Int32 × St))  (v1 : Int64) (v3 : Int32) (v4 : Int32) (st : St) : Option (Int32 × St) := (fX10_within n (((((v1.toUInt64 >>> ((8 * v4).toInt64.toUInt64 &&& Int64.toUInt64 63)).toInt64).toInt32) &&& 255) - 100) (-99) 99 st).bind (fun q => fX10_steady_s60 n K28 v1 v3 v4 (((((v1.toUInt64 >>> ((8 * v4).toInt64.toUInt64 &&& Int64.toUInt64 63)).toInt64).toInt32) &&& 255) - 100) q.1 q.2)
set_option maxHeartbeats 4000000 in
set_option maxRecDepth 100000 in
theorem wX10_steady_s34 (C : Cx p s m args meth c cX10_steady 6 wsL_law RX10 (some .int) D G ad) (n : Nat) (K28 : Int64 → Int32 → Int32 → St → Option (Int32 × St))  (v1 : Int64) (v3 : Int32) (v4 : Int32)   (st : St) (res : (Int32 × St)) (hK28 : ∀ (v1 : Int64) (v3 : Int32) (v4 : Int32) (st : St), K28 v1 v3 v4 st = some res → At p l e (rmK 1) s m args below meth c D G ad (MQI D G ad below args s res) 6 st [(0, .ref (ad 0)), (1, .long v1), (3, .int v3), (4, .int v4)] 28 []) (hf : fX10_steady_s34 n K28  v1 v3 v4 st = some res) : At p l e (rmK 1) s m args below meth c D G ad (MQI D G ad below args s res) 6 st [(0, .ref (ad 0)), (1, .long v1), (3, .int v3), (4, .int v4)] 34 [] := by
  obtain ⟨hx, hb, hml, hown, hts, hr, hlk, hK, had, hSt⟩ := id C
  intro H locs ls hl hP hS
  unfold fX10_steady_s34 at hf
  refine lv_lload_n hx hb dX10_steady_34 rfl (lv_at hl 1 rfl) ?_
  refine lv_bipush (v := 8) hx hb dX10_steady_35 (by decide) ?_
  refine lv_iload hx hb dX10_steady_37 (lv_at hl 3 rfl) ?_
  refine lv_imul hx hb dX10_steady_39 ?_
  refine lv_lushr hx hb dX10_steady_40 rfl ?_
  refine lv_l2i hx hb dX10_steady_41 rfl ?_
  refine lv_sipush (v := 255) hx hb dX10_steady_42 (by decide) ?_
  refine lv_iand hx hb dX10_steady_45 ?_
  refine lv_bipush (v := 100) hx hb dX10_steady_46 (by decide) ?_
  refine lv_isub hx hb dX10_steady_48 ?_
  refine lv_istore (lv' := [(5, .int (((((v1.toUInt64 >>> ((8 * v4).toInt64.toUInt64 &&& Int64.toUInt64 63)).toInt64).toInt32) &&& 255) - 100)), (0, .ref (ad 0)), (1, .long v1), (3, .int v3), (4, .int v4)]) hx hb dX10_steady_49 hl (by decide) rfl (fun ls hl => ?_)
  refine lv_iload hx hb dX10_steady_51 (lv_at hl 0 rfl) ?_
  refine lv_bipush (v := (-99)) hx hb dX10_steady_53 (by decide) ?_
  refine lv_bipush (v := 99) hx hb dX10_steady_55 (by decide) ?_
  obtain ⟨q, hq, hf⟩ := bd hf
  refine gcS_i (k := 0) (As := [.int (((((v1.toUInt64 >>> ((8 * v4).toInt64.toUInt64 &&& Int64.toUInt64 63)).toInt64).toInt32) &&& 255) - 100), .int (-99), .int 99]) (rest := []) hx hb hml hown hts hK hSt hP hS hl.1 (goodS wm_9_17 wm_9_18 wm_1_2 wm_9_19) okX10_within (Nat.le_of_ble_eq_true rfl) (Nat.le_of_ble_eq_true rfl) rfl rfl (Nat.le_of_ble_eq_true rfl) dX10_steady_57 (kX10_within l D G ad had n  (((((v1.toUInt64 >>> ((8 * v4).toInt64.toUInt64 &&& Int64.toUInt64 63)).toInt64).toInt32) &&& 255) - 100) (-99) 99 st q hq) (fun H locs hP hS => ?_)
  exact wX10_steady_s60 C n K28 v1 v3 v4 (((((v1.toUInt64 >>> ((8 * v4).toInt64.toUInt64 &&& Int64.toUInt64 63)).toInt64).toInt32) &&& 255) - 100) q.1 q.2 res hK28 hf H locs ls (lv_sub hl [1, 2, 3, 4, 0] rfl) hP hS
def fX10_steady_s28 (n : Nat) (K28 : Int64 → Int32 → Int32 → St → Option (Int32 × St))  (v1 : Int64) (v3 : Int32) (v4 : Int32) (st : St) : Option (Int32 × St) := if v3 < v4 then fX10_steady_s92 n v3 st else fX10_steady_s34 n K28 v1 v3 v4 st
set_option maxHeartbeats 4000000 in
set_option maxRecDepth 100000 in
theorem wX10_steady_s28 (C : Cx p s m args meth c cX10_steady 6 wsL_law RX10 (some .int) D G ad) (n : Nat) (K28 : Int64 → Int32 → Int32 → St → Option (Int32 × St))  (v1 : Int64) (v3 : Int32) (v4 : Int32)   (st : St) (res : (Int32 × St)) (hK28 : ∀ (v1 : Int64) (v3 : Int32) (v4 : Int32) (st : St), K28 v1 v3 v4 st = some res → At p l e (rmK 1) s m args below meth c D G ad (MQI D G ad below args s res) 6 st [(0, .ref (ad 0)), (1, .long v1), (3, .int v3), (4, .int v4)] 28 []) (hf : fX10_steady_s28 n K28  v1 v3 v4 st = some res) : At p l e (rmK 1) s m args below meth c D G ad (MQI D G ad below args s res) 6 st [(0, .ref (ad 0)), (1, .long v1), (3, .int v3), (4, .int v4)] 28 [] := by
  obtain ⟨hx, hb, hml, hown, hts, hr, hlk, hK, had, hSt⟩ := id C
  intro H locs ls hl hP hS
  unfold fX10_steady_s28 at hf
  refine lv_iload hx hb dX10_steady_28 (lv_at hl 3 rfl) ?_
  refine lv_iload_n hx hb dX10_steady_30 rfl (lv_at hl 2 rfl) ?_
  refine lv_icmp_gt (tgt := 92) hx hb dX10_steady_31 (by decide) (fun q => ?_) (fun q => ?_)
  · exact wX10_steady_s92 C n v3 st res (it hf q) H locs ls (lv_sub hl [0, 2] rfl) hP hS
  · exact wX10_steady_s34 C n K28 v1 v3 v4 st res hK28 (ie hf q) H locs ls (lv_sub hl [0, 1, 2, 3] rfl) hP hS
def fX10_steady_L28 (n : Nat)   : Nat → Int64 → Int32 → Int32 → St → Option (Int32 × St)
  | 0, _, _, _, _ => none
  | k + 1, v1, v3, v4, st => fX10_steady_s28 n (fX10_steady_L28 n k)  v1 v3 v4 st
theorem wX10_steady_L28 (C : Cx p s m args meth c cX10_steady 6 wsL_law RX10 (some .int) D G ad) (n : Nat)    (res : (Int32 × St))  : ∀ (k : Nat) (v1 : Int64) (v3 : Int32) (v4 : Int32)  (st : St), fX10_steady_L28 n k v1 v3 v4 st = some res → At p l e (rmK 1) s m args below meth c D G ad (MQI D G ad below args s res) 6 st [(0, .ref (ad 0)), (1, .long v1), (3, .int v3), (4, .int v4)] 28 [] := by
  intro k
  induction k with
  | zero => intro v1 v3 v4  st h; exact absurd h (by intro q; cases q)
  | succ k ih => intro v1 v3 v4  st h; exact wX10_steady_s28 C n (fX10_steady_L28 n k)  v1 v3 v4   st res ih h
def fX10_steady_s25 (n : Nat)   (v1 : Int64) (v3 : Int32) (st : St) : Option (Int32 × St) := fX10_steady_L28 n n v1 v3 0 st
set_option maxHeartbeats 4000000 in
set_option maxRecDepth 100000 in
theorem wX10_steady_s25 (C : Cx p s m args meth c cX10_steady 6 wsL_law RX10 (some .int) D G ad) (n : Nat)   (v1 : Int64) (v3 : Int32)   (st : St) (res : (Int32 × St))  (hf : fX10_steady_s25 n   v1 v3 st = some res) : At p l e (rmK 1) s m args below meth c D G ad (MQI D G ad below args s res) 6 st [(0, .ref (ad 0)), (1, .long v1), (3, .int v3)] 25 [] := by
  obtain ⟨hx, hb, hml, hown, hts, hr, hlk, hK, had, hSt⟩ := id C
  intro H locs ls hl hP hS
  unfold fX10_steady_s25 at hf
  refine lv_iconst (v := 0) hx hb dX10_steady_25 (by decide) ?_
  refine lv_istore (lv' := [(4, .int 0), (0, .ref (ad 0)), (1, .long v1), (3, .int v3)]) hx hb dX10_steady_26 hl (by decide) rfl (fun ls hl => ?_)
  exact wX10_steady_L28 C n res n v1 v3 0 st hf H locs ls (lv_sub hl [1, 2, 3, 0] rfl) hP hS
def fX10_steady_s19 (n : Nat)   (v1 : Int64) (v3 : Int32) (k0 : Int32) (st : St) : Option (Int32 × St) := if k0 = 0 then fX10_steady_s22 n st else fX10_steady_s25 n v1 v3 st
set_option maxHeartbeats 4000000 in
set_option maxRecDepth 100000 in
theorem wX10_steady_s19 (C : Cx p s m args meth c cX10_steady 6 wsL_law RX10 (some .int) D G ad) (n : Nat)   (v1 : Int64) (v3 : Int32) (k0 : Int32)   (st : St) (res : (Int32 × St))  (hf : fX10_steady_s19 n   v1 v3 k0 st = some res) : At p l e (rmK 1) s m args below meth c D G ad (MQI D G ad below args s res) 6 st [(0, .ref (ad 0)), (1, .long v1), (3, .int v3)] 19 [.int k0] := by
  obtain ⟨hx, hb, hml, hown, hts, hr, hlk, hK, had, hSt⟩ := id C
  intro H locs ls hl hP hS
  unfold fX10_steady_s19 at hf
  refine lv_if_ne (tgt := 25) hx hb dX10_steady_19 (by decide) (fun q => ?_) (fun q => ?_)
  · exact wX10_steady_s25 C n v1 v3 st res (ie hf q) H locs ls (lv_sub hl [0, 1, 2] rfl) hP hS
  · exact wX10_steady_s22 C n st res (it hf q) H locs ls (lv_sub hl [] rfl) hP hS
def fX10_steady_s9 (n : Nat)   (v1 : Int64) (v3 : Int32) (st : St) : Option (Int32 × St) := (fX10_endsBelow n v1 (8 * (v3 + 1)) st).bind (fun q => fX10_steady_s19 n v1 v3 q.1 q.2)
set_option maxHeartbeats 4000000 in
set_option maxRecDepth 100000 in
theorem wX10_steady_s9 (C : Cx p s m args meth c cX10_steady 6 wsL_law RX10 (some .int) D G ad) (n : Nat)   (v1 : Int64) (v3 : Int32)   (st : St) (res : (Int32 × St))  (hf : fX10_steady_s9 n   v1 v3 st = some res) : At p l e (rmK 1) s m args below meth c D G ad (MQI D G ad below args s res) 6 st [(0, .ref (ad 0)), (1, .long v1), (3, .int v3)] 9 [] := by
  obtain ⟨hx, hb, hml, hown, hts, hr, hlk, hK, had, hSt⟩ := id C
  intro H locs ls hl hP hS
  unfold fX10_steady_s9 at hf
  refine lv_lload_n hx hb dX10_steady_9 rfl (lv_at hl 1 rfl) ?_
  refine lv_bipush (v := 8) hx hb dX10_steady_10 (by decide) ?_
  refine lv_iload_n hx hb dX10_steady_12 rfl (lv_at hl 2 rfl) ?_
  refine lv_iconst (v := 1) hx hb dX10_steady_13 (by decide) ?_
  refine lv_iadd hx hb dX10_steady_14 ?_
  refine lv_imul hx hb dX10_steady_15 ?_
  obtain ⟨q, hq, hf⟩ := bd hf
  refine gcS_i (k := 0) (As := [.long v1, .int (8 * (v3 + 1))]) (rest := []) hx hb hml hown hts hK hSt hP hS hl.1 (goodS wm_39_7 wm_39_8 wm_1_2 wm_39_9) okX10_endsBelow (Nat.le_of_ble_eq_true rfl) (Nat.le_of_ble_eq_true rfl) rfl rfl (Nat.le_of_ble_eq_true rfl) dX10_steady_16 (kX10_endsBelow l D G ad had n  v1 (8 * (v3 + 1)) st q hq) (fun H locs hP hS => ?_)
  exact wX10_steady_s19 C n v1 v3 q.1 q.2 res hf H locs ls (lv_sub hl [0, 1, 2] rfl) hP hS
def fX10_steady_s6 (n : Nat)   (v1 : Int64) (v3 : Int32) (k0 : Int32) (st : St) : Option (Int32 × St) := if k0 = 0 then fX10_steady_s22 n st else fX10_steady_s9 n v1 v3 st
set_option maxHeartbeats 4000000 in
set_option maxRecDepth 100000 in
theorem wX10_steady_s6 (C : Cx p s m args meth c cX10_steady 6 wsL_law RX10 (some .int) D G ad) (n : Nat)   (v1 : Int64) (v3 : Int32) (k0 : Int32)   (st : St) (res : (Int32 × St))  (hf : fX10_steady_s6 n   v1 v3 k0 st = some res) : At p l e (rmK 1) s m args below meth c D G ad (MQI D G ad below args s res) 6 st [(0, .ref (ad 0)), (1, .long v1), (3, .int v3)] 6 [.int k0] := by
  obtain ⟨hx, hb, hml, hown, hts, hr, hlk, hK, had, hSt⟩ := id C
  intro H locs ls hl hP hS
  unfold fX10_steady_s6 at hf
  refine lv_if_eq (tgt := 22) hx hb dX10_steady_6 (by decide) (fun q => ?_) (fun q => ?_)
  · exact wX10_steady_s22 C n st res (it hf q) H locs ls (lv_sub hl [] rfl) hP hS
  · exact wX10_steady_s9 C n v1 v3 st res (ie hf q) H locs ls (lv_sub hl [0, 1, 2] rfl) hP hS
def fX10_steady_s0 (n : Nat)   (v1 : Int64) (v3 : Int32) (st : St) : Option (Int32 × St) := (fX10_within n v3 1 4 st).bind (fun q => fX10_steady_s6 n v1 v3 q.1 q.2)
set_option maxHeartbeats 4000000 in
set_option maxRecDepth 100000 in
theorem wX10_steady_s0 (C : Cx p s m args meth c cX10_steady 6 wsL_law RX10 (some .int) D G ad) (n : Nat)   (v1 : Int64) (v3 : Int32)   (st : St) (res : (Int32 × St))  (hf : fX10_steady_s0 n   v1 v3 st = some res) : At p l e (rmK 1) s m args below meth c D G ad (MQI D G ad below args s res) 6 st [(0, .ref (ad 0)), (1, .long v1), (3, .int v3)] 0 [] := by
  obtain ⟨hx, hb, hml, hown, hts, hr, hlk, hK, had, hSt⟩ := id C
  intro H locs ls hl hP hS
  unfold fX10_steady_s0 at hf
  refine lv_iload_n hx hb dX10_steady_0 rfl (lv_at hl 2 rfl) ?_
  refine lv_iconst (v := 1) hx hb dX10_steady_1 (by decide) ?_
  refine lv_iconst (v := 4) hx hb dX10_steady_2 (by decide) ?_
  obtain ⟨q, hq, hf⟩ := bd hf
  refine gcS_i (k := 0) (As := [.int v3, .int 1, .int 4]) (rest := []) hx hb hml hown hts hK hSt hP hS hl.1 (goodS wm_9_17 wm_9_18 wm_1_2 wm_9_19) okX10_within (Nat.le_of_ble_eq_true rfl) (Nat.le_of_ble_eq_true rfl) rfl rfl (Nat.le_of_ble_eq_true rfl) dX10_steady_3 (kX10_within l D G ad had n  v3 1 4 st q hq) (fun H locs hP hS => ?_)
  exact wX10_steady_s6 C n v1 v3 q.1 q.2 res hf H locs ls (lv_sub hl [0, 1, 2] rfl) hP hS
def fX10_steady (n : Nat)  (a1 : Int64) (a3 : Int32) (st : St) : Option (Int32 × St) := fX10_steady_s0 n a1 a3 st
theorem okX10_steady : okY yX10_steady RX10 2 := by unfold okY; decide +kernel
end
set_option maxRecDepth 100000 in
theorem kX10_steady (l : Launch) (D : va_G) (G : G3) (ad : Nat → Nat) (had : Adr ad) (n : Nat)   (a1 : Int64) (a3 : Int32) (st : St) (res : (Int32 × St)) (hf : fX10_steady n  a1 a3 st = some res) {sz : Nat} : CtI l yX10_steady (wsU yX10_steady cX10_steady 6 (some .int)) (rmK 1) D G ad sz [.ref (ad 0), .long a1, .int a3] st res := by
  refine Met.ofW (cc := cX10_steady) (maxL := 6) (ret := (some .int)) (by decide) rfl ?_
  intro p e s m args below meth c s₁ B hml hv
  obtain ⟨rfl, hsz, hP, hK, hSt⟩ := hv
  have hts := atoms_spec (ws := wsU yX10_steady cX10_steady 6 (some .int)) B.pre
  have C : Cx p s m _ meth c cX10_steady 6 wsL_law RX10 (some .int) D G ad := ⟨B.exec, B.bytes, hml, findClass_of_methodNamed B.named, fun w h => hts w (List.mem_cons_of_mem _ h), B.returns, B.notSynchronized, hK, had, hSt⟩
  subst hsz
  have hl := lv_entry ([.ref (ad 0), .long a1, .int a3]) (n := 6) (Nat.le_of_ble_eq_true rfl)
  rw [lg_entry_eq]
  generalize (lg_sl ([.ref (ad 0), .long a1, .int a3]) ++ List.replicate (6 - (lg_sl ([.ref (ad 0), .long a1, .int a3])).length) Slot.unset).toArray = ls at hl ⊢
  exact wX10_steady_s0 C n  a1 a3   st res hf s.heap [] ls (lv_sub hl [0, 1, 2] rfl) hP va_S.rf
section
variable {p : Program} {l : Launch} {e : Env} {s : State} {m : MethodId} {args : Array Value} {below : List Frame} {meth : Method} {c : Code} {D : va_G} {G : G3} {ad : Nat → Nat}
def fX10_chances_s46 (n : Nat)    (st : St) : Option (Int32 × St) := some (0, st)
set_option maxHeartbeats 4000000 in
set_option maxRecDepth 100000 in
theorem wX10_chances_s46 (C : Cx p s m args meth c cX10_chances 4 wsL_law RX10 (some .int) D G ad) (n : Nat)      (st : St) (res : (Int32 × St))  (hf : fX10_chances_s46 n    st = some res) : At p l e (rmK 1) s m args below meth c D G ad (MQI D G ad below args s res) 4 st [] 46 [] := by
  obtain ⟨hx, hb, hml, hown, hts, hr, hlk, hK, had, hSt⟩ := id C
  intro H locs ls hl hP hS
  unfold fX10_chances_s46 at hf
  refine lv_iconst (v := 0) hx hb dX10_chances_46 (by decide) ?_
  exact g_iret hx hb hr hlk hP hS dX10_chances_47 hf
def fX10_chances_s35 (n : Nat) (K18 : Int32 → Int32 → St → Option (Int32 × St))  (v2 : Int32) (v3 : Int32) (st : St) : Option (Int32 × St) := K18 (v2 / 10) (v3 + (-1)) st
set_option maxHeartbeats 4000000 in
set_option maxRecDepth 100000 in
theorem wX10_chances_s35 (C : Cx p s m args meth c cX10_chances 4 wsL_law RX10 (some .int) D G ad) (n : Nat) (K18 : Int32 → Int32 → St → Option (Int32 × St))  (v2 : Int32) (v3 : Int32)   (st : St) (res : (Int32 × St)) (hK18 : ∀ (v2 : Int32) (v3 : Int32) (st : St), K18 v2 v3 st = some res → At p l e (rmK 1) s m args below meth c D G ad (MQI D G ad below args s res) 4 st [(0, .ref (ad 0)), (2, .int v2), (3, .int v3)] 18 []) (hf : fX10_chances_s35 n K18  v2 v3 st = some res) : At p l e (rmK 1) s m args below meth c D G ad (MQI D G ad below args s res) 4 st [(0, .ref (ad 0)), (2, .int v2), (3, .int v3)] 35 [] := by
  obtain ⟨hx, hb, hml, hown, hts, hr, hlk, hK, had, hSt⟩ := id C
  intro H locs ls hl hP hS
  unfold fX10_chances_s35 at hf
  refine lv_iload_n hx hb dX10_chances_35 rfl (lv_at hl 1 rfl) ?_
  refine lv_bipush (v := 10) hx hb dX10_chances_36 (by decide) ?_
  refine lv_idiv hx hb dX10_chances_38 (by decide) ?_
  refine lv_istore_n (lv' := [(2, .int (v2 / 10)), (0, .ref (ad 0)), (3, .int v3)]) hx hb dX10_chances_39 rfl hl (by decide) rfl (fun ls hl => ?_)
  refine lv_iinc (v := v3 + (-1)) (lv' := [(3, .int (v3 + (-1))), (2, .int (v2 / 10)), (0, .ref (ad 0))]) hx hb dX10_chances_40 hl (k := 2) rfl rfl (by decide) rfl (fun ls hl => ?_)
  refine lv_goto (tgt := 18) hx hb dX10_chances_43 (by decide) ?_
  exact hK18 (v2 / 10) (v3 + (-1))  st hf H locs ls (lv_sub hl [2, 1, 0] rfl) hP hS
def fX10_chances_s22 (n : Nat) (K18 : Int32 → Int32 → St → Option (Int32 × St))  (v2 : Int32) (v3 : Int32) (st : St) : Option (Int32 × St) := if inb v3 5 = true then (fX10_chances_s35 n K18 v2 v3 (setI st 38 v3.toNatClampNeg (v2 - v2 / 10 * 10))) else none
set_option maxHeartbeats 4000000 in
set_option maxRecDepth 100000 in
theorem wX10_chances_s22 (C : Cx p s m args meth c cX10_chances 4 wsL_law RX10 (some .int) D G ad) (n : Nat) (K18 : Int32 → Int32 → St → Option (Int32 × St))  (v2 : Int32) (v3 : Int32)   (st : St) (res : (Int32 × St)) (hK18 : ∀ (v2 : Int32) (v3 : Int32) (st : St), K18 v2 v3 st = some res → At p l e (rmK 1) s m args below meth c D G ad (MQI D G ad below args s res) 4 st [(0, .ref (ad 0)), (2, .int v2), (3, .int v3)] 18 []) (hf : fX10_chances_s22 n K18  v2 v3 st = some res) : At p l e (rmK 1) s m args below meth c D G ad (MQI D G ad below args s res) 4 st [(0, .ref (ad 0)), (2, .int v2), (3, .int v3)] 22 [] := by
  obtain ⟨hx, hb, hml, hown, hts, hr, hlk, hK, had, hSt⟩ := id C
  intro H locs ls hl hP hS
  unfold fX10_chances_s22 at hf
  refine lv_aload_n hx hb dX10_chances_22 rfl (lv_at hl 0 rfl) ?_
  refine g_getR hx hb hts inlX10 hown hK hP 0 ct_0 rfl 7 (by decide) (hts _ wm_2_20) rfl dX10_chances_23 ?_
  refine g_getR hx hb hts inlX3 hown hK hP 37 ct_37 rfl 0 (by decide) (hts _ wm_40_5) rfl dX10_chances_26 ?_
  refine lv_iload_n hx hb dX10_chances_29 rfl (lv_at hl 2 rfl) ?_
  refine lv_iload_n hx hb dX10_chances_30 rfl (lv_at hl 1 rfl) ?_
  refine lv_bipush (v := 10) hx hb dX10_chances_31 (by decide) ?_
  refine lv_irem hx hb dX10_chances_33 (by decide) ?_
  obtain ⟨g1, hf⟩ := gd hf
  refine g_iast hx hb hK had hP hS 38 ct_38 g1 dX10_chances_34 (fun H locs hP hS => ?_)
  exact wX10_chances_s35 C n K18 v2 v3 (setI st 38 v3.toNatClampNeg (v2 - v2 / 10 * 10)) res hK18 hf H locs ls (lv_sub hl [0, 1, 2] rfl) hP hS
def fX10_chances_s18 (n : Nat) (K18 : Int32 → Int32 → St → Option (Int32 × St))  (v2 : Int32) (v3 : Int32) (st : St) : Option (Int32 × St) := if v3 < 0 then fX10_chances_s46 n st else fX10_chances_s22 n K18 v2 v3 st
set_option maxHeartbeats 4000000 in
set_option maxRecDepth 100000 in
theorem wX10_chances_s18 (C : Cx p s m args meth c cX10_chances 4 wsL_law RX10 (some .int) D G ad) (n : Nat) (K18 : Int32 → Int32 → St → Option (Int32 × St))  (v2 : Int32) (v3 : Int32)   (st : St) (res : (Int32 × St)) (hK18 : ∀ (v2 : Int32) (v3 : Int32) (st : St), K18 v2 v3 st = some res → At p l e (rmK 1) s m args below meth c D G ad (MQI D G ad below args s res) 4 st [(0, .ref (ad 0)), (2, .int v2), (3, .int v3)] 18 []) (hf : fX10_chances_s18 n K18  v2 v3 st = some res) : At p l e (rmK 1) s m args below meth c D G ad (MQI D G ad below args s res) 4 st [(0, .ref (ad 0)), (2, .int v2), (3, .int v3)] 18 [] := by
  obtain ⟨hx, hb, hml, hown, hts, hr, hlk, hK, had, hSt⟩ := id C
  intro H locs ls hl hP hS
  unfold fX10_chances_s18 at hf
  refine lv_iload_n hx hb dX10_chances_18 rfl (lv_at hl 2 rfl) ?_
  refine lv_if_lt (tgt := 46) hx hb dX10_chances_19 (by decide) (fun q => ?_) (fun q => ?_)
  · exact wX10_chances_s46 C n st res (it hf q) H locs ls (lv_sub hl [] rfl) hP hS
  · exact wX10_chances_s22 C n K18 v2 v3 st res hK18 (ie hf q) H locs ls (lv_sub hl [0, 1, 2] rfl) hP hS
def fX10_chances_L18 (n : Nat)   : Nat → Int32 → Int32 → St → Option (Int32 × St)
  | 0, _, _, _ => none
  | k + 1, v2, v3, st => fX10_chances_s18 n (fX10_chances_L18 n k)  v2 v3 st
theorem wX10_chances_L18 (C : Cx p s m args meth c cX10_chances 4 wsL_law RX10 (some .int) D G ad) (n : Nat)    (res : (Int32 × St))  : ∀ (k : Nat) (v2 : Int32) (v3 : Int32)  (st : St), fX10_chances_L18 n k v2 v3 st = some res → At p l e (rmK 1) s m args below meth c D G ad (MQI D G ad below args s res) 4 st [(0, .ref (ad 0)), (2, .int v2), (3, .int v3)] 18 [] := by
  intro k
  induction k with
  | zero => intro v2 v3  st h; exact absurd h (by intro q; cases q)
  | succ k ih => intro v2 v3  st h; exact wX10_chances_s18 C n (fX10_chances_L18 n k)  v2 v3   st res ih h
def fX10_chances_s14 (n : Nat)   (v1 : Int32) (st : St) : Option (Int32 × St) := fX10_chances_L18 n n v1 4 st
set_option maxHeartbeats 4000000 in
set_option maxRecDepth 100000 in
theorem wX10_chances_s14 (C : Cx p s m args meth c cX10_chances 4 wsL_law RX10 (some .int) D G ad) (n : Nat)   (v1 : Int32)   (st : St) (res : (Int32 × St))  (hf : fX10_chances_s14 n   v1 st = some res) : At p l e (rmK 1) s m args below meth c D G ad (MQI D G ad below args s res) 4 st [(0, .ref (ad 0)), (1, .int v1)] 14 [] := by
  obtain ⟨hx, hb, hml, hown, hts, hr, hlk, hK, had, hSt⟩ := id C
  intro H locs ls hl hP hS
  unfold fX10_chances_s14 at hf
  refine lv_iload_n hx hb dX10_chances_14 rfl (lv_at hl 1 rfl) ?_
  refine lv_istore_n (lv' := [(2, .int v1), (0, .ref (ad 0)), (1, .int v1)]) hx hb dX10_chances_15 rfl hl (by decide) rfl (fun ls hl => ?_)
  refine lv_iconst (v := 4) hx hb dX10_chances_16 (by decide) ?_
  refine lv_istore_n (lv' := [(3, .int 4), (2, .int v1), (0, .ref (ad 0)), (1, .int v1)]) hx hb dX10_chances_17 rfl hl (by decide) rfl (fun ls hl => ?_)
  exact wX10_chances_L18 C n res n v1 4 st hf H locs ls (lv_sub hl [2, 1, 0] rfl) hP hS
def fX10_chances_s11 (n : Nat)    (st : St) : Option (Int32 × St) := some ((-2), st)
set_option maxHeartbeats 4000000 in
set_option maxRecDepth 100000 in
theorem wX10_chances_s11 (C : Cx p s m args meth c cX10_chances 4 wsL_law RX10 (some .int) D G ad) (n : Nat)      (st : St) (res : (Int32 × St))  (hf : fX10_chances_s11 n    st = some res) : At p l e (rmK 1) s m args below meth c D G ad (MQI D G ad below args s res) 4 st [] 11 [] := by
  obtain ⟨hx, hb, hml, hown, hts, hr, hlk, hK, had, hSt⟩ := id C
  intro H locs ls hl hP hS
  unfold fX10_chances_s11 at hf
  refine lv_bipush (v := (-2)) hx hb dX10_chances_11 (by decide) ?_
  exact g_iret hx hb hr hlk hP hS dX10_chances_13 hf
def fX10_chances_s8 (n : Nat)   (v1 : Int32) (k0 : Int32) (st : St) : Option (Int32 × St) := if k0 = 0 then fX10_chances_s11 n st else fX10_chances_s14 n v1 st
set_option maxHeartbeats 4000000 in
set_option maxRecDepth 100000 in
theorem wX10_chances_s8 (C : Cx p s m args meth c cX10_chances 4 wsL_law RX10 (some .int) D G ad) (n : Nat)   (v1 : Int32) (k0 : Int32)   (st : St) (res : (Int32 × St))  (hf : fX10_chances_s8 n   v1 k0 st = some res) : At p l e (rmK 1) s m args below meth c D G ad (MQI D G ad below args s res) 4 st [(0, .ref (ad 0)), (1, .int v1)] 8 [.int k0] := by
  obtain ⟨hx, hb, hml, hown, hts, hr, hlk, hK, had, hSt⟩ := id C
  intro H locs ls hl hP hS
  unfold fX10_chances_s8 at hf
  refine lv_if_ne (tgt := 14) hx hb dX10_chances_8 (by decide) (fun q => ?_) (fun q => ?_)
  · exact wX10_chances_s14 C n v1 st res (ie hf q) H locs ls (lv_sub hl [0, 1] rfl) hP hS
  · exact wX10_chances_s11 C n st res (it hf q) H locs ls (lv_sub hl [] rfl) hP hS
def fX10_chances_s0 (n : Nat)   (v1 : Int32) (st : St) : Option (Int32 × St) := (fX10_within n v1 1 99999 st).bind (fun q => fX10_chances_s8 n v1 q.1 q.2)
set_option maxHeartbeats 4000000 in
set_option maxRecDepth 100000 in
theorem wX10_chances_s0 (C : Cx p s m args meth c cX10_chances 4 wsL_law RX10 (some .int) D G ad) (n : Nat)   (v1 : Int32)   (st : St) (res : (Int32 × St))  (hf : fX10_chances_s0 n   v1 st = some res) : At p l e (rmK 1) s m args below meth c D G ad (MQI D G ad below args s res) 4 st [(0, .ref (ad 0)), (1, .int v1)] 0 [] := by
  obtain ⟨hx, hb, hml, hown, hts, hr, hlk, hK, had, hSt⟩ := id C
  intro H locs ls hl hP hS
  unfold fX10_chances_s0 at hf
  refine lv_iload_n hx hb dX10_chances_0 rfl (lv_at hl 1 rfl) ?_
  refine lv_iconst (v := 1) hx hb dX10_chances_1 (by decide) ?_
  refine lv_ldcw hx hb hown (hts _ wm_40_4) dX10_chances_2 ?_
  obtain ⟨q, hq, hf⟩ := bd hf
  refine gcS_i (k := 0) (As := [.int v1, .int 1, .int 99999]) (rest := []) hx hb hml hown hts hK hSt hP hS hl.1 (goodS wm_9_17 wm_9_18 wm_1_2 wm_9_19) okX10_within (Nat.le_of_ble_eq_true rfl) (Nat.le_of_ble_eq_true rfl) rfl rfl (Nat.le_of_ble_eq_true rfl) dX10_chances_5 (kX10_within l D G ad had n  v1 1 99999 st q hq) (fun H locs hP hS => ?_)
  exact wX10_chances_s8 C n v1 q.1 q.2 res hf H locs ls (lv_sub hl [0, 1] rfl) hP hS
def fX10_chances (n : Nat)  (a1 : Int32) (st : St) : Option (Int32 × St) := fX10_chances_s0 n a1 st
theorem okX10_chances : okY yX10_chances RX10 1 := by unfold okY; decide +kernel
end
set_option maxRecDepth 100000 in
theorem kX10_chances (l : Launch) (D : va_G) (G : G3) (ad : Nat → Nat) (had : Adr ad) (n : Nat)   (a1 : Int32) (st : St) (res : (Int32 × St)) (hf : fX10_chances n  a1 st = some res) {sz : Nat} : CtI l yX10_chances (wsU yX10_chances cX10_chances 4 (some .int)) (rmK 1) D G ad sz [.ref (ad 0), .int a1] st res := by
  refine Met.ofW (cc := cX10_chances) (maxL := 4) (ret := (some .int)) (by decide) rfl ?_
  intro p e s m args below meth c s₁ B hml hv
  obtain ⟨rfl, hsz, hP, hK, hSt⟩ := hv
  have hts := atoms_spec (ws := wsU yX10_chances cX10_chances 4 (some .int)) B.pre
  have C : Cx p s m _ meth c cX10_chances 4 wsL_law RX10 (some .int) D G ad := ⟨B.exec, B.bytes, hml, findClass_of_methodNamed B.named, fun w h => hts w (List.mem_cons_of_mem _ h), B.returns, B.notSynchronized, hK, had, hSt⟩
  subst hsz
  have hl := lv_entry ([.ref (ad 0), .int a1]) (n := 4) (Nat.le_of_ble_eq_true rfl)
  rw [lg_entry_eq]
  generalize (lg_sl ([.ref (ad 0), .int a1]) ++ List.replicate (4 - (lg_sl ([.ref (ad 0), .int a1])).length) Slot.unset).toArray = ls at hl ⊢
  exact wX10_chances_s0 C n  a1   st res hf s.heap [] ls (lv_sub hl [0, 1] rfl) hP va_S.rf
section
variable {p : Program} {l : Launch} {e : Env} {s : State} {m : MethodId} {args : Array Value} {below : List Frame} {meth : Method} {c : Code} {D : va_G} {G : G3} {ad : Nat → Nat}
def fX10_chance_s14 (n : Nat)    (st : St) : Option (Int64 × St) := some ((-9223372036854775808), st)
set_option maxHeartbeats 4000000 in
set_option maxRecDepth 100000 in
theorem wX10_chance_s14 (C : Cx p s m args meth c cX10_chance 3 wsL_law RX10 (some .long) D G ad) (n : Nat)      (st : St) (res : (Int64 × St))  (hf : fX10_chance_s14 n    st = some res) : At p l e (rmK 1) s m args below meth c D G ad (MQJ D G ad below args s res) 3 st [] 14 [] := by
  obtain ⟨hx, hb, hml, hown, hts, hr, hlk, hK, had, hSt⟩ := id C
  intro H locs ls hl hP hS
  unfold fX10_chance_s14 at hf
  refine lv_ldc2 hx hb hown (hts _ wm_14_6) dX10_chance_14 ?_
  exact g_lret hx hb hr hlk hP hS dX10_chance_17 hf
def fX10_chance_s58 (n : Nat)   (k0 : Int64) (st : St) : Option (Int64 × St) := some (k0, st)
set_option maxHeartbeats 4000000 in
set_option maxRecDepth 100000 in
theorem wX10_chance_s58 (C : Cx p s m args meth c cX10_chance 3 wsL_law RX10 (some .long) D G ad) (n : Nat)   (k0 : Int64)   (st : St) (res : (Int64 × St))  (hf : fX10_chance_s58 n   k0 st = some res) : At p l e (rmK 1) s m args below meth c D G ad (MQJ D G ad below args s res) 3 st [] 58 [.long k0] := by
  obtain ⟨hx, hb, hml, hown, hts, hr, hlk, hK, had, hSt⟩ := id C
  intro H locs ls hl hP hS
  unfold fX10_chance_s58 at hf
  exact g_lret hx hb hr hlk hP hS dX10_chance_58 hf
def fX10_chance_s57 (n : Nat)    (st : St) : Option (Int64 × St) := fX10_chance_s58 n 0 st
set_option maxHeartbeats 4000000 in
set_option maxRecDepth 100000 in
theorem wX10_chance_s57 (C : Cx p s m args meth c cX10_chance 3 wsL_law RX10 (some .long) D G ad) (n : Nat)      (st : St) (res : (Int64 × St))  (hf : fX10_chance_s57 n    st = some res) : At p l e (rmK 1) s m args below meth c D G ad (MQJ D G ad below args s res) 3 st [] 57 [] := by
  obtain ⟨hx, hb, hml, hown, hts, hr, hlk, hK, had, hSt⟩ := id C
  intro H locs ls hl hP hS
  unfold fX10_chance_s57 at hf
  refine lv_lconst (v := 0) hx hb dX10_chance_57 (by decide) ?_
  exact wX10_chance_s58 C n 0 st res hf H locs ls (lv_sub hl [] rfl) hP hS
def fX10_chance_s45 (n : Nat)   (v2 : Int32) (st : St) : Option (Int64 × St) := if inb v2 25 = true then (fX10_chance_s58 n (st.2 39 v2.toNatClampNeg) st) else none
set_option maxHeartbeats 4000000 in
set_option maxRecDepth 100000 in
theorem wX10_chance_s45 (C : Cx p s m args meth c cX10_chance 3 wsL_law RX10 (some .long) D G ad) (n : Nat)   (v2 : Int32)   (st : St) (res : (Int64 × St))  (hf : fX10_chance_s45 n   v2 st = some res) : At p l e (rmK 1) s m args below meth c D G ad (MQJ D G ad below args s res) 3 st [(0, .ref (ad 0)), (2, .int v2)] 45 [] := by
  obtain ⟨hx, hb, hml, hown, hts, hr, hlk, hK, had, hSt⟩ := id C
  intro H locs ls hl hP hS
  unfold fX10_chance_s45 at hf
  refine lv_aload_n hx hb dX10_chance_45 rfl (lv_at hl 0 rfl) ?_
  refine g_getR hx hb hts inlX10 hown hK hP 0 ct_0 rfl 7 (by decide) (hts _ wm_2_20) rfl dX10_chance_46 ?_
  refine g_getR hx hb hts inlX3 hown hK hP 37 ct_37 rfl 1 (by decide) (hts _ wm_40_15) rfl dX10_chance_49 ?_
  refine lv_iload_n hx hb dX10_chance_52 rfl (lv_at hl 1 rfl) ?_
  obtain ⟨g1, hf⟩ := gd hf
  refine g_lald hx hb hK hP 39 ct_39 g1 dX10_chance_53 ?_
  refine lv_goto (tgt := 58) hx hb dX10_chance_54 (by decide) ?_
  exact wX10_chance_s58 C n (st.2 39 v2.toNatClampNeg) st res hf H locs ls (lv_sub hl [] rfl) hP hS
def fX10_chance_s33 (n : Nat)   (v2 : Int32) (st : St) : Option (Int64 × St) := if 25 ≤ v2 then fX10_chance_s57 n st else fX10_chance_s45 n v2 st
set_option maxHeartbeats 4000000 in
set_option maxRecDepth 100000 in
theorem wX10_chance_s33 (C : Cx p s m args meth c cX10_chance 3 wsL_law RX10 (some .long) D G ad) (n : Nat)   (v2 : Int32)   (st : St) (res : (Int64 × St))  (hf : fX10_chance_s33 n   v2 st = some res) : At p l e (rmK 1) s m args below meth c D G ad (MQJ D G ad below args s res) 3 st [(0, .ref (ad 0)), (2, .int v2)] 33 [] := by
  obtain ⟨hx, hb, hml, hown, hts, hr, hlk, hK, had, hSt⟩ := id C
  intro H locs ls hl hP hS
  unfold fX10_chance_s33 at hf
  refine lv_iload_n hx hb dX10_chance_33 rfl (lv_at hl 1 rfl) ?_
  refine lv_aload_n hx hb dX10_chance_34 rfl (lv_at hl 0 rfl) ?_
  refine g_getR hx hb hts inlX10 hown hK hP 0 ct_0 rfl 7 (by decide) (hts _ wm_2_20) rfl dX10_chance_35 ?_
  refine g_getR hx hb hts inlX3 hown hK hP 37 ct_37 rfl 1 (by decide) (hts _ wm_40_15) rfl dX10_chance_38 ?_
  refine g_alen hx hb hK hP 39 ct_39 dX10_chance_41 ?_
  refine lv_topc (v := 25) (by decide) ?_
  refine lv_icmp_ge (tgt := 57) hx hb dX10_chance_42 (by decide) (fun q => ?_) (fun q => ?_)
  · exact wX10_chance_s57 C n st res (it hf q) H locs ls (lv_sub hl [] rfl) hP hS
  · exact wX10_chance_s45 C n v2 st res (ie hf q) H locs ls (lv_sub hl [0, 1] rfl) hP hS
def fX10_chance_s18 (n : Nat)   (v1 : Int32) (v2 : Int32) (st : St) : Option (Int64 × St) := (fX3_addUp n 25 39 v1 st).bind (fun q => fX10_chance_s33 n v2 q.2)
set_option maxHeartbeats 4000000 in
set_option maxRecDepth 100000 in
theorem wX10_chance_s18 (C : Cx p s m args meth c cX10_chance 3 wsL_law RX10 (some .long) D G ad) (n : Nat)   (v1 : Int32) (v2 : Int32)   (st : St) (res : (Int64 × St))  (hf : fX10_chance_s18 n   v1 v2 st = some res) : At p l e (rmK 1) s m args below meth c D G ad (MQJ D G ad below args s res) 3 st [(0, .ref (ad 0)), (1, .int v1), (2, .int v2)] 18 [] := by
  obtain ⟨hx, hb, hml, hown, hts, hr, hlk, hK, had, hSt⟩ := id C
  intro H locs ls hl hP hS
  unfold fX10_chance_s18 at hf
  refine lv_aload_n hx hb dX10_chance_18 rfl (lv_at hl 0 rfl) ?_
  refine g_getR hx hb hts inlX10 hown hK hP 0 ct_0 rfl 7 (by decide) (hts _ wm_2_20) rfl dX10_chance_19 ?_
  refine lv_iload_n hx hb dX10_chance_22 rfl (lv_at hl 1 rfl) ?_
  refine lv_aload_n hx hb dX10_chance_23 rfl (lv_at hl 0 rfl) ?_
  refine g_getR hx hb hts inlX10 hown hK hP 0 ct_0 rfl 7 (by decide) (hts _ wm_2_20) rfl dX10_chance_24 ?_
  refine g_getR hx hb hts inlX3 hown hK hP 37 ct_37 rfl 1 (by decide) (hts _ wm_40_15) rfl dX10_chance_27 ?_
  obtain ⟨q, hq, hf⟩ := bd hf
  refine gcV_v (k := 0) (o := 37) (As := [.int v1, .ref (ad 39)]) (rest := []) hx hb hml hown hts hK hSt hP hS hl.1 (goodV wm_40_16 wm_40_17 wm_40_18 wm_2_19 wm_40_19) okX3_addUp ct_37 rfl rfl (Nat.le_of_ble_eq_true rfl) (Nat.le_of_ble_eq_true rfl) rfl rfl (Nat.le_of_ble_eq_true rfl) dX10_chance_30 (kX3_addUp l D G ad had n 25 39 ct_39 v1 st q hq) (fun H locs hP hS => ?_)
  exact wX10_chance_s33 C n v2 q.2 res hf H locs ls (lv_sub hl [0, 2] rfl) hP hS
def fX10_chance_s10 (n : Nat)   (v1 : Int32) (v2 : Int32) (st : St) : Option (Int64 × St) := if 0 ≤ v2 then fX10_chance_s18 n v1 v2 st else fX10_chance_s14 n st
set_option maxHeartbeats 4000000 in
set_option maxRecDepth 100000 in
theorem wX10_chance_s10 (C : Cx p s m args meth c cX10_chance 3 wsL_law RX10 (some .long) D G ad) (n : Nat)   (v1 : Int32) (v2 : Int32)   (st : St) (res : (Int64 × St))  (hf : fX10_chance_s10 n   v1 v2 st = some res) : At p l e (rmK 1) s m args below meth c D G ad (MQJ D G ad below args s res) 3 st [(0, .ref (ad 0)), (1, .int v1), (2, .int v2)] 10 [] := by
  obtain ⟨hx, hb, hml, hown, hts, hr, hlk, hK, had, hSt⟩ := id C
  intro H locs ls hl hP hS
  unfold fX10_chance_s10 at hf
  refine lv_iload_n hx hb dX10_chance_10 rfl (lv_at hl 2 rfl) ?_
  refine lv_if_ge (tgt := 18) hx hb dX10_chance_11 (by decide) (fun q => ?_) (fun q => ?_)
  · exact wX10_chance_s18 C n v1 v2 st res (it hf q) H locs ls (lv_sub hl [0, 1, 2] rfl) hP hS
  · exact wX10_chance_s14 C n st res (ie hf q) H locs ls (lv_sub hl [] rfl) hP hS
def fX10_chance_s7 (n : Nat)   (v1 : Int32) (v2 : Int32) (k0 : Int32) (st : St) : Option (Int64 × St) := if k0 = 0 then fX10_chance_s14 n st else fX10_chance_s10 n v1 v2 st
set_option maxHeartbeats 4000000 in
set_option maxRecDepth 100000 in
theorem wX10_chance_s7 (C : Cx p s m args meth c cX10_chance 3 wsL_law RX10 (some .long) D G ad) (n : Nat)   (v1 : Int32) (v2 : Int32) (k0 : Int32)   (st : St) (res : (Int64 × St))  (hf : fX10_chance_s7 n   v1 v2 k0 st = some res) : At p l e (rmK 1) s m args below meth c D G ad (MQJ D G ad below args s res) 3 st [(0, .ref (ad 0)), (1, .int v1), (2, .int v2)] 7 [.int k0] := by
  obtain ⟨hx, hb, hml, hown, hts, hr, hlk, hK, had, hSt⟩ := id C
  intro H locs ls hl hP hS
  unfold fX10_chance_s7 at hf
  refine lv_if_eq (tgt := 14) hx hb dX10_chance_7 (by decide) (fun q => ?_) (fun q => ?_)
  · exact wX10_chance_s14 C n st res (it hf q) H locs ls (lv_sub hl [] rfl) hP hS
  · exact wX10_chance_s10 C n v1 v2 st res (ie hf q) H locs ls (lv_sub hl [0, 1, 2] rfl) hP hS
def fX10_chance_s0 (n : Nat)   (v1 : Int32) (v2 : Int32) (st : St) : Option (Int64 × St) := (fX10_within n v1 1 6 st).bind (fun q => fX10_chance_s7 n v1 v2 q.1 q.2)
set_option maxHeartbeats 4000000 in
set_option maxRecDepth 100000 in
theorem wX10_chance_s0 (C : Cx p s m args meth c cX10_chance 3 wsL_law RX10 (some .long) D G ad) (n : Nat)   (v1 : Int32) (v2 : Int32)   (st : St) (res : (Int64 × St))  (hf : fX10_chance_s0 n   v1 v2 st = some res) : At p l e (rmK 1) s m args below meth c D G ad (MQJ D G ad below args s res) 3 st [(0, .ref (ad 0)), (1, .int v1), (2, .int v2)] 0 [] := by
  obtain ⟨hx, hb, hml, hown, hts, hr, hlk, hK, had, hSt⟩ := id C
  intro H locs ls hl hP hS
  unfold fX10_chance_s0 at hf
  refine lv_iload_n hx hb dX10_chance_0 rfl (lv_at hl 1 rfl) ?_
  refine lv_iconst (v := 1) hx hb dX10_chance_1 (by decide) ?_
  refine lv_bipush (v := 6) hx hb dX10_chance_2 (by decide) ?_
  obtain ⟨q, hq, hf⟩ := bd hf
  refine gcS_i (k := 0) (As := [.int v1, .int 1, .int 6]) (rest := []) hx hb hml hown hts hK hSt hP hS hl.1 (goodS wm_9_17 wm_9_18 wm_1_2 wm_9_19) okX10_within (Nat.le_of_ble_eq_true rfl) (Nat.le_of_ble_eq_true rfl) rfl rfl (Nat.le_of_ble_eq_true rfl) dX10_chance_4 (kX10_within l D G ad had n  v1 1 6 st q hq) (fun H locs hP hS => ?_)
  exact wX10_chance_s7 C n v1 v2 q.1 q.2 res hf H locs ls (lv_sub hl [0, 1, 2] rfl) hP hS
def fX10_chance (n : Nat)  (a1 : Int32) (a2 : Int32) (st : St) : Option (Int64 × St) := fX10_chance_s0 n a1 a2 st
theorem okX10_chance : okY yX10_chance RX10 2 := by unfold okY; decide +kernel
end
set_option maxRecDepth 100000 in
theorem kX10_chance (l : Launch) (D : va_G) (G : G3) (ad : Nat → Nat) (had : Adr ad) (n : Nat)   (a1 : Int32) (a2 : Int32) (st : St) (res : (Int64 × St)) (hf : fX10_chance n  a1 a2 st = some res) {sz : Nat} : CtJ l yX10_chance (wsU yX10_chance cX10_chance 3 (some .long)) (rmK 1) D G ad sz [.ref (ad 0), .int a1, .int a2] st res := by
  refine Met.ofW (cc := cX10_chance) (maxL := 3) (ret := (some .long)) (by decide) rfl ?_
  intro p e s m args below meth c s₁ B hml hv
  obtain ⟨rfl, hsz, hP, hK, hSt⟩ := hv
  have hts := atoms_spec (ws := wsU yX10_chance cX10_chance 3 (some .long)) B.pre
  have C : Cx p s m _ meth c cX10_chance 3 wsL_law RX10 (some .long) D G ad := ⟨B.exec, B.bytes, hml, findClass_of_methodNamed B.named, fun w h => hts w (List.mem_cons_of_mem _ h), B.returns, B.notSynchronized, hK, had, hSt⟩
  subst hsz
  have hl := lv_entry ([.ref (ad 0), .int a1, .int a2]) (n := 3) (Nat.le_of_ble_eq_true rfl)
  rw [lg_entry_eq]
  generalize (lg_sl ([.ref (ad 0), .int a1, .int a2]) ++ List.replicate (3 - (lg_sl ([.ref (ad 0), .int a1, .int a2])).length) Slot.unset).toArray = ls at hl ⊢
  exact wX10_chance_s0 C n  a1 a2   st res hf s.heap [] ls (lv_sub hl [0, 1, 2] rfl) hP va_S.rf
section
variable {p : Program} {l : Launch} {e : Env} {s : State} {m : MethodId} {args : Array Value} {below : List Frame} {meth : Method} {c : Code} {D : va_G} {G : G3} {ad : Nat → Nat}
def fX10_level_s54 (n : Nat)   (k0 : Int32) (st : St) : Option (Int32 × St) := some (k0, st)
set_option maxHeartbeats 4000000 in
set_option maxRecDepth 100000 in
theorem wX10_level_s54 (C : Cx p s m args meth c cX10_level 4 wsL_law RX10 (some .int) D G ad) (n : Nat)   (k0 : Int32)   (st : St) (res : (Int32 × St))  (hf : fX10_level_s54 n   k0 st = some res) : At p l e (rmK 4) s m args below meth c D G ad (MQI D G ad below args s res) 4 st [] 54 [.int k0] := by
  obtain ⟨hx, hb, hml, hown, hts, hr, hlk, hK, had, hSt⟩ := id C
  intro H locs ls hl hP hS
  unfold fX10_level_s54 at hf
  exact g_iret hx hb hr hlk hP hS dX10_level_54 hf
def fX10_level_s47 (n : Nat)    (st : St) : Option (Int32 × St) := (fX3_far n st).bind (fun q => fX10_level_s54 n q.1 q.2)
set_option maxHeartbeats 4000000 in
set_option maxRecDepth 100000 in
theorem wX10_level_s47 (C : Cx p s m args meth c cX10_level 4 wsL_law RX10 (some .int) D G ad) (n : Nat)      (st : St) (res : (Int32 × St))  (hf : fX10_level_s47 n    st = some res) : At p l e (rmK 4) s m args below meth c D G ad (MQI D G ad below args s res) 4 st [(0, .ref (ad 0))] 47 [] := by
  obtain ⟨hx, hb, hml, hown, hts, hr, hlk, hK, had, hSt⟩ := id C
  intro H locs ls hl hP hS
  unfold fX10_level_s47 at hf
  refine lv_aload_n hx hb dX10_level_47 rfl (lv_at hl 0 rfl) ?_
  refine g_getR hx hb hts inlX10 hown hK hP 0 ct_0 rfl 7 (by decide) (hts _ wm_2_20) rfl dX10_level_48 ?_
  obtain ⟨q, hq, hf⟩ := bd hf
  refine gcV_i (k := 3) (o := 37) (As := []) (rest := []) hx hb hml hown hts hK hSt hP hS hl.1 (goodV wm_42_9 wm_42_10 wm_42_11 wm_2_19 wm_42_12) okX3_far ct_37 rfl rfl (Nat.le_of_ble_eq_true rfl) (Nat.le_of_ble_eq_true rfl) rfl rfl (Nat.le_of_ble_eq_true rfl) dX10_level_51 (kX3_far l D G ad had n   st q hq) (fun H locs hP hS => ?_)
  exact wX10_level_s54 C n q.1 q.2 res hf H locs ls (lv_sub hl [] rfl) hP hS
def fX10_level_s37 (n : Nat)    (st : St) : Option (Int32 × St) := fX10_level_s54 n (st.1 37 10) st
set_option maxHeartbeats 4000000 in
set_option maxRecDepth 100000 in
theorem wX10_level_s37 (C : Cx p s m args meth c cX10_level 4 wsL_law RX10 (some .int) D G ad) (n : Nat)      (st : St) (res : (Int32 × St))  (hf : fX10_level_s37 n    st = some res) : At p l e (rmK 4) s m args below meth c D G ad (MQI D G ad below args s res) 4 st [(0, .ref (ad 0))] 37 [] := by
  obtain ⟨hx, hb, hml, hown, hts, hr, hlk, hK, had, hSt⟩ := id C
  intro H locs ls hl hP hS
  unfold fX10_level_s37 at hf
  refine lv_aload_n hx hb dX10_level_37 rfl (lv_at hl 0 rfl) ?_
  refine g_getR hx hb hts inlX10 hown hK hP 0 ct_0 rfl 7 (by decide) (hts _ wm_2_20) rfl dX10_level_38 ?_
  refine g_getI hx hb hts inlX3 hown hK hP 37 ct_37 rfl 10 (by decide) (hts _ wm_41_8) rfl dX10_level_41 ?_
  refine lv_goto (tgt := 54) hx hb dX10_level_44 (by decide) ?_
  exact wX10_level_s54 C n (st.1 37 10) st res hf H locs ls (lv_sub hl [] rfl) hP hS
def fX10_level_s33 (n : Nat)   (v1 : Int32) (st : St) : Option (Int32 × St) := if v1 = 0 then fX10_level_s37 n st else fX10_level_s47 n st
set_option maxHeartbeats 4000000 in
set_option maxRecDepth 100000 in
theorem wX10_level_s33 (C : Cx p s m args meth c cX10_level 4 wsL_law RX10 (some .int) D G ad) (n : Nat)   (v1 : Int32)   (st : St) (res : (Int32 × St))  (hf : fX10_level_s33 n   v1 st = some res) : At p l e (rmK 4) s m args below meth c D G ad (MQI D G ad below args s res) 4 st [(0, .ref (ad 0)), (1, .int v1)] 33 [] := by
  obtain ⟨hx, hb, hml, hown, hts, hr, hlk, hK, had, hSt⟩ := id C
  intro H locs ls hl hP hS
  unfold fX10_level_s33 at hf
  refine lv_iload_n hx hb dX10_level_33 rfl (lv_at hl 1 rfl) ?_
  refine lv_if_ne (tgt := 47) hx hb dX10_level_34 (by decide) (fun q => ?_) (fun q => ?_)
  · exact wX10_level_s47 C n st res (ie hf q) H locs ls (lv_sub hl [0] rfl) hP hS
  · exact wX10_level_s37 C n st res (it hf q) H locs ls (lv_sub hl [0] rfl) hP hS
def fX10_level_s26 (n : Nat)   (v1 : Int32) (st : St) : Option (Int32 × St) := (fX3_work n st).bind (fun q => fX10_level_s33 n v1 q.2)
set_option maxHeartbeats 4000000 in
set_option maxRecDepth 100000 in
theorem wX10_level_s26 (C : Cx p s m args meth c cX10_level 4 wsL_law RX10 (some .int) D G ad) (n : Nat)   (v1 : Int32)   (st : St) (res : (Int32 × St))  (hf : fX10_level_s26 n   v1 st = some res) : At p l e (rmK 4) s m args below meth c D G ad (MQI D G ad below args s res) 4 st [(0, .ref (ad 0)), (1, .int v1)] 26 [] := by
  obtain ⟨hx, hb, hml, hown, hts, hr, hlk, hK, had, hSt⟩ := id C
  intro H locs ls hl hP hS
  unfold fX10_level_s26 at hf
  refine lv_aload_n hx hb dX10_level_26 rfl (lv_at hl 0 rfl) ?_
  refine g_getR hx hb hts inlX10 hown hK hP 0 ct_0 rfl 7 (by decide) (hts _ wm_2_20) rfl dX10_level_27 ?_
  obtain ⟨q, hq, hf⟩ := bd hf
  refine gcV_v (k := 2) (o := 37) (As := []) (rest := []) hx hb hml hown hts hK hSt hP hS hl.1 (goodV wm_41_18 wm_41_19 wm_41_20 wm_2_19 wm_41_21) okX3_work ct_37 rfl rfl (Nat.le_of_ble_eq_true rfl) (Nat.le_of_ble_eq_true rfl) rfl rfl (Nat.le_of_ble_eq_true rfl) dX10_level_30 (kX3_work l D G ad had n   st q hq) (fun H locs hP hS => ?_)
  exact wX10_level_s33 C n v1 q.2 res hf H locs ls (lv_sub hl [0, 1] rfl) hP hS
def fX10_level_s24 (n : Nat)    (st : St) : Option (Int32 × St) := some ((-1), st)
set_option maxHeartbeats 4000000 in
set_option maxRecDepth 100000 in
theorem wX10_level_s24 (C : Cx p s m args meth c cX10_level 4 wsL_law RX10 (some .int) D G ad) (n : Nat)      (st : St) (res : (Int32 × St))  (hf : fX10_level_s24 n    st = some res) : At p l e (rmK 4) s m args below meth c D G ad (MQI D G ad below args s res) 4 st [] 24 [] := by
  obtain ⟨hx, hb, hml, hown, hts, hr, hlk, hK, had, hSt⟩ := id C
  intro H locs ls hl hP hS
  unfold fX10_level_s24 at hf
  refine lv_iconst (v := (-1)) hx hb dX10_level_24 (by decide) ?_
  exact g_iret hx hb hr hlk hP hS dX10_level_25 hf
def fX10_level_s21 (n : Nat)   (v1 : Int32) (k0 : Int32) (st : St) : Option (Int32 × St) := if k0 = 0 then fX10_level_s24 n st else fX10_level_s26 n v1 st
set_option maxHeartbeats 4000000 in
set_option maxRecDepth 100000 in
theorem wX10_level_s21 (C : Cx p s m args meth c cX10_level 4 wsL_law RX10 (some .int) D G ad) (n : Nat)   (v1 : Int32) (k0 : Int32)   (st : St) (res : (Int32 × St))  (hf : fX10_level_s21 n   v1 k0 st = some res) : At p l e (rmK 4) s m args below meth c D G ad (MQI D G ad below args s res) 4 st [(0, .ref (ad 0)), (1, .int v1)] 21 [.int k0] := by
  obtain ⟨hx, hb, hml, hown, hts, hr, hlk, hK, had, hSt⟩ := id C
  intro H locs ls hl hP hS
  unfold fX10_level_s21 at hf
  refine lv_if_ne (tgt := 26) hx hb dX10_level_21 (by decide) (fun q => ?_) (fun q => ?_)
  · exact wX10_level_s26 C n v1 st res (ie hf q) H locs ls (lv_sub hl [0, 1] rfl) hP hS
  · exact wX10_level_s24 C n st res (it hf q) H locs ls (lv_sub hl [] rfl) hP hS
def fX10_level_s15 (n : Nat)   (v1 : Int32) (st : St) : Option (Int32 × St) := (fX10_within n v1 0 1 st).bind (fun q => fX10_level_s21 n v1 q.1 q.2)
set_option maxHeartbeats 4000000 in
set_option maxRecDepth 100000 in
theorem wX10_level_s15 (C : Cx p s m args meth c cX10_level 4 wsL_law RX10 (some .int) D G ad) (n : Nat)   (v1 : Int32)   (st : St) (res : (Int32 × St))  (hf : fX10_level_s15 n   v1 st = some res) : At p l e (rmK 4) s m args below meth c D G ad (MQI D G ad below args s res) 4 st [(0, .ref (ad 0)), (1, .int v1)] 15 [] := by
  obtain ⟨hx, hb, hml, hown, hts, hr, hlk, hK, had, hSt⟩ := id C
  intro H locs ls hl hP hS
  unfold fX10_level_s15 at hf
  refine lv_iload_n hx hb dX10_level_15 rfl (lv_at hl 1 rfl) ?_
  refine lv_iconst (v := 0) hx hb dX10_level_16 (by decide) ?_
  refine lv_iconst (v := 1) hx hb dX10_level_17 (by decide) ?_
  obtain ⟨q, hq, hf⟩ := bd hf
  refine gcS_i (k := 0) (As := [.int v1, .int 0, .int 1]) (rest := []) hx hb hml hown hts hK hSt hP hS hl.1 (goodS wm_9_17 wm_9_18 wm_1_2 wm_9_19) okX10_within (Nat.le_of_ble_eq_true rfl) (Nat.le_of_ble_eq_true rfl) rfl rfl (Nat.le_of_ble_eq_true rfl) dX10_level_18 (kX10_within l D G ad had n  v1 0 1 st q hq) (fun H locs hP hS => ?_)
  exact wX10_level_s21 C n v1 q.1 q.2 res hf H locs ls (lv_sub hl [0, 1] rfl) hP hS
def fX10_level_s12 (n : Nat)    (st : St) : Option (Int32 × St) := some ((-2), st)
set_option maxHeartbeats 4000000 in
set_option maxRecDepth 100000 in
theorem wX10_level_s12 (C : Cx p s m args meth c cX10_level 4 wsL_law RX10 (some .int) D G ad) (n : Nat)      (st : St) (res : (Int32 × St))  (hf : fX10_level_s12 n    st = some res) : At p l e (rmK 4) s m args below meth c D G ad (MQI D G ad below args s res) 4 st [] 12 [] := by
  obtain ⟨hx, hb, hml, hown, hts, hr, hlk, hK, had, hSt⟩ := id C
  intro H locs ls hl hP hS
  unfold fX10_level_s12 at hf
  refine lv_bipush (v := (-2)) hx hb dX10_level_12 (by decide) ?_
  exact g_iret hx hb hr hlk hP hS dX10_level_14 hf
def fX10_level_s9 (n : Nat)   (v1 : Int32) (k0 : Int32) (st : St) : Option (Int32 × St) := if k0 = 0 then fX10_level_s12 n st else fX10_level_s15 n v1 st
set_option maxHeartbeats 4000000 in
set_option maxRecDepth 100000 in
theorem wX10_level_s9 (C : Cx p s m args meth c cX10_level 4 wsL_law RX10 (some .int) D G ad) (n : Nat)   (v1 : Int32) (k0 : Int32)   (st : St) (res : (Int32 × St))  (hf : fX10_level_s9 n   v1 k0 st = some res) : At p l e (rmK 4) s m args below meth c D G ad (MQI D G ad below args s res) 4 st [(0, .ref (ad 0)), (1, .int v1)] 9 [.int k0] := by
  obtain ⟨hx, hb, hml, hown, hts, hr, hlk, hK, had, hSt⟩ := id C
  intro H locs ls hl hP hS
  unfold fX10_level_s9 at hf
  refine lv_if_ne (tgt := 15) hx hb dX10_level_9 (by decide) (fun q => ?_) (fun q => ?_)
  · exact wX10_level_s15 C n v1 st res (ie hf q) H locs ls (lv_sub hl [0, 1] rfl) hP hS
  · exact wX10_level_s12 C n st res (it hf q) H locs ls (lv_sub hl [] rfl) hP hS
def fX10_level_s0 (n : Nat)   (v1 : Int32) (v2 : Int32) (v3 : Int32) (st : St) : Option (Int32 × St) := (fX3_understand n v2 v3 st).bind (fun q => fX10_level_s9 n v1 q.1 q.2)
set_option maxHeartbeats 4000000 in
set_option maxRecDepth 100000 in
theorem wX10_level_s0 (C : Cx p s m args meth c cX10_level 4 wsL_law RX10 (some .int) D G ad) (n : Nat)   (v1 : Int32) (v2 : Int32) (v3 : Int32)   (st : St) (res : (Int32 × St))  (hf : fX10_level_s0 n   v1 v2 v3 st = some res) : At p l e (rmK 4) s m args below meth c D G ad (MQI D G ad below args s res) 4 st [(0, .ref (ad 0)), (1, .int v1), (2, .int v2), (3, .int v3)] 0 [] := by
  obtain ⟨hx, hb, hml, hown, hts, hr, hlk, hK, had, hSt⟩ := id C
  intro H locs ls hl hP hS
  unfold fX10_level_s0 at hf
  refine lv_aload_n hx hb dX10_level_0 rfl (lv_at hl 0 rfl) ?_
  refine g_getR hx hb hts inlX10 hown hK hP 0 ct_0 rfl 7 (by decide) (hts _ wm_2_20) rfl dX10_level_1 ?_
  refine lv_iload_n hx hb dX10_level_4 rfl (lv_at hl 2 rfl) ?_
  refine lv_iload_n hx hb dX10_level_5 rfl (lv_at hl 3 rfl) ?_
  obtain ⟨q, hq, hf⟩ := bd hf
  refine gcV_i (k := 1) (o := 37) (As := [.int v2, .int v3]) (rest := []) hx hb hml hown hts hK hSt hP hS hl.1 (goodV wm_41_9 wm_41_10 wm_41_11 wm_2_19 wm_41_12) okX3_understand ct_37 rfl rfl (Nat.le_of_ble_eq_true rfl) (Nat.le_of_ble_eq_true rfl) rfl rfl (Nat.le_of_ble_eq_true rfl) dX10_level_6 (kX3_understand l D G ad had n  v2 v3 st q hq) (fun H locs hP hS => ?_)
  exact wX10_level_s9 C n v1 q.1 q.2 res hf H locs ls (lv_sub hl [0, 1] rfl) hP hS
def fX10_level (n : Nat)  (a1 : Int32) (a2 : Int32) (a3 : Int32) (st : St) : Option (Int32 × St) := fX10_level_s0 n a1 a2 a3 st
theorem okX10_level : okY yX10_level RX10 3 := by unfold okY; decide +kernel
end
set_option maxRecDepth 100000 in
theorem kX10_level (l : Launch) (D : va_G) (G : G3) (ad : Nat → Nat) (had : Adr ad) (n : Nat)   (a1 : Int32) (a2 : Int32) (a3 : Int32) (st : St) (res : (Int32 × St)) (hf : fX10_level n  a1 a2 a3 st = some res) {sz : Nat} : CtI l yX10_level (wsU yX10_level cX10_level 4 (some .int)) (rmK 4) D G ad sz [.ref (ad 0), .int a1, .int a2, .int a3] st res := by
  refine Met.ofW (cc := cX10_level) (maxL := 4) (ret := (some .int)) (by decide) rfl ?_
  intro p e s m args below meth c s₁ B hml hv
  obtain ⟨rfl, hsz, hP, hK, hSt⟩ := hv
  have hts := atoms_spec (ws := wsU yX10_level cX10_level 4 (some .int)) B.pre
  have C : Cx p s m _ meth c cX10_level 4 wsL_law RX10 (some .int) D G ad := ⟨B.exec, B.bytes, hml, findClass_of_methodNamed B.named, fun w h => hts w (List.mem_cons_of_mem _ h), B.returns, B.notSynchronized, hK, had, hSt⟩
  subst hsz
  have hl := lv_entry ([.ref (ad 0), .int a1, .int a2, .int a3]) (n := 4) (Nat.le_of_ble_eq_true rfl)
  rw [lg_entry_eq]
  generalize (lg_sl ([.ref (ad 0), .int a1, .int a2, .int a3]) ++ List.replicate (4 - (lg_sl ([.ref (ad 0), .int a1, .int a2, .int a3])).length) Slot.unset).toArray = ls at hl ⊢
  exact wX10_level_s0 C n  a1 a2 a3   st res hf s.heap [] ls (lv_sub hl [0, 1, 2, 3] rfl) hP va_S.rf
section
variable {p : Program} {l : Launch} {e : Env} {s : State} {m : MethodId} {args : Array Value} {below : List Frame} {meth : Method} {c : Code} {D : va_G} {G : G3} {ad : Nat → Nat}
def fX10_levelCost_s33 (n : Nat)    (st : St) : Option (Int64 × St) := some ((-9223372036854775808), st)
set_option maxHeartbeats 4000000 in
set_option maxRecDepth 100000 in
theorem wX10_levelCost_s33 (C : Cx p s m args meth c cX10_levelCost 5 wsL_law RX10 (some .long) D G ad) (n : Nat)      (st : St) (res : (Int64 × St))  (hf : fX10_levelCost_s33 n    st = some res) : At p l e (rmK 3) s m args below meth c D G ad (MQJ D G ad below args s res) 5 st [] 33 [] := by
  obtain ⟨hx, hb, hml, hown, hts, hr, hlk, hK, had, hSt⟩ := id C
  intro H locs ls hl hP hS
  unfold fX10_levelCost_s33 at hf
  refine lv_ldc2 hx hb hown (hts _ wm_14_6) dX10_levelCost_33 ?_
  exact g_lret hx hb hr hlk hP hS dX10_levelCost_36 hf
def fX10_levelCost_s69 (n : Nat)   (k0 : Int64) (st : St) : Option (Int64 × St) := some (k0, st)
set_option maxHeartbeats 4000000 in
set_option maxRecDepth 100000 in
theorem wX10_levelCost_s69 (C : Cx p s m args meth c cX10_levelCost 5 wsL_law RX10 (some .long) D G ad) (n : Nat)   (k0 : Int64)   (st : St) (res : (Int64 × St))  (hf : fX10_levelCost_s69 n   k0 st = some res) : At p l e (rmK 3) s m args below meth c D G ad (MQJ D G ad below args s res) 5 st [] 69 [.long k0] := by
  obtain ⟨hx, hb, hml, hown, hts, hr, hlk, hK, had, hSt⟩ := id C
  intro H locs ls hl hP hS
  unfold fX10_levelCost_s69 at hf
  exact g_lret hx hb hr hlk hP hS dX10_levelCost_69 hf
def fX10_levelCost_s60 (n : Nat)   (v4 : Int32) (st : St) : Option (Int64 × St) := (fX3_farCost n v4 st).bind (fun q => fX10_levelCost_s69 n q.1 q.2)
set_option maxHeartbeats 4000000 in
set_option maxRecDepth 100000 in
theorem wX10_levelCost_s60 (C : Cx p s m args meth c cX10_levelCost 5 wsL_law RX10 (some .long) D G ad) (n : Nat)   (v4 : Int32)   (st : St) (res : (Int64 × St))  (hf : fX10_levelCost_s60 n   v4 st = some res) : At p l e (rmK 3) s m args below meth c D G ad (MQJ D G ad below args s res) 5 st [(0, .ref (ad 0)), (4, .int v4)] 60 [] := by
  obtain ⟨hx, hb, hml, hown, hts, hr, hlk, hK, had, hSt⟩ := id C
  intro H locs ls hl hP hS
  unfold fX10_levelCost_s60 at hf
  refine lv_aload_n hx hb dX10_levelCost_60 rfl (lv_at hl 0 rfl) ?_
  refine g_getR hx hb hts inlX10 hown hK hP 0 ct_0 rfl 7 (by decide) (hts _ wm_2_20) rfl dX10_levelCost_61 ?_
  refine lv_iload hx hb dX10_levelCost_64 (lv_at hl 1 rfl) ?_
  obtain ⟨q, hq, hf⟩ := bd hf
  refine gcV_j (k := 2) (o := 37) (As := [.int v4]) (rest := []) hx hb hml hown hts hK hSt hP hS hl.1 (goodV wm_44_6 wm_42_14 wm_42_15 wm_2_19 wm_42_16) okX3_farCost ct_37 rfl rfl (Nat.le_of_ble_eq_true rfl) (Nat.le_of_ble_eq_true rfl) rfl rfl (Nat.le_of_ble_eq_true rfl) dX10_levelCost_66 (kX3_farCost l D G ad had n  v4 st q hq) (fun H locs hP hS => ?_)
  exact wX10_levelCost_s69 C n q.1 q.2 res hf H locs ls (lv_sub hl [] rfl) hP hS
def fX10_levelCost_s57 (n : Nat)   (k0 : Int64) (st : St) : Option (Int64 × St) := fX10_levelCost_s69 n k0 st
set_option maxHeartbeats 4000000 in
set_option maxRecDepth 100000 in
theorem wX10_levelCost_s57 (C : Cx p s m args meth c cX10_levelCost 5 wsL_law RX10 (some .long) D G ad) (n : Nat)   (k0 : Int64)   (st : St) (res : (Int64 × St))  (hf : fX10_levelCost_s57 n   k0 st = some res) : At p l e (rmK 3) s m args below meth c D G ad (MQJ D G ad below args s res) 5 st [] 57 [.long k0] := by
  obtain ⟨hx, hb, hml, hown, hts, hr, hlk, hK, had, hSt⟩ := id C
  intro H locs ls hl hP hS
  unfold fX10_levelCost_s57 at hf
  refine lv_goto (tgt := 69) hx hb dX10_levelCost_57 (by decide) ?_
  exact wX10_levelCost_s69 C n k0 st res hf H locs ls (lv_sub hl [] rfl) hP hS
def fX10_levelCost_s48 (n : Nat)   (v4 : Int32) (st : St) : Option (Int64 × St) := (fX3_nearCost n v4 st).bind (fun q => fX10_levelCost_s57 n q.1 q.2)
set_option maxHeartbeats 4000000 in
set_option maxRecDepth 100000 in
theorem wX10_levelCost_s48 (C : Cx p s m args meth c cX10_levelCost 5 wsL_law RX10 (some .long) D G ad) (n : Nat)   (v4 : Int32)   (st : St) (res : (Int64 × St))  (hf : fX10_levelCost_s48 n   v4 st = some res) : At p l e (rmK 3) s m args below meth c D G ad (MQJ D G ad below args s res) 5 st [(0, .ref (ad 0)), (4, .int v4)] 48 [] := by
  obtain ⟨hx, hb, hml, hown, hts, hr, hlk, hK, had, hSt⟩ := id C
  intro H locs ls hl hP hS
  unfold fX10_levelCost_s48 at hf
  refine lv_aload_n hx hb dX10_levelCost_48 rfl (lv_at hl 0 rfl) ?_
  refine g_getR hx hb hts inlX10 hown hK hP 0 ct_0 rfl 7 (by decide) (hts _ wm_2_20) rfl dX10_levelCost_49 ?_
  refine lv_iload hx hb dX10_levelCost_52 (lv_at hl 1 rfl) ?_
  obtain ⟨q, hq, hf⟩ := bd hf
  refine gcV_j (k := 1) (o := 37) (As := [.int v4]) (rest := []) hx hb hml hown hts hK hSt hP hS hl.1 (goodV wm_44_5 wm_42_6 wm_42_7 wm_2_19 wm_42_8) okX3_nearCost ct_37 rfl rfl (Nat.le_of_ble_eq_true rfl) (Nat.le_of_ble_eq_true rfl) rfl rfl (Nat.le_of_ble_eq_true rfl) dX10_levelCost_54 (kX3_nearCost l D G ad had n  v4 st q hq) (fun H locs hP hS => ?_)
  exact wX10_levelCost_s57 C n q.1 q.2 res hf H locs ls (lv_sub hl [] rfl) hP hS
def fX10_levelCost_s44 (n : Nat)   (v1 : Int32) (v4 : Int32) (st : St) : Option (Int64 × St) := if v1 = 0 then fX10_levelCost_s48 n v4 st else fX10_levelCost_s60 n v4 st
set_option maxHeartbeats 4000000 in
set_option maxRecDepth 100000 in
theorem wX10_levelCost_s44 (C : Cx p s m args meth c cX10_levelCost 5 wsL_law RX10 (some .long) D G ad) (n : Nat)   (v1 : Int32) (v4 : Int32)   (st : St) (res : (Int64 × St))  (hf : fX10_levelCost_s44 n   v1 v4 st = some res) : At p l e (rmK 3) s m args below meth c D G ad (MQJ D G ad below args s res) 5 st [(0, .ref (ad 0)), (1, .int v1), (4, .int v4)] 44 [] := by
  obtain ⟨hx, hb, hml, hown, hts, hr, hlk, hK, had, hSt⟩ := id C
  intro H locs ls hl hP hS
  unfold fX10_levelCost_s44 at hf
  refine lv_iload_n hx hb dX10_levelCost_44 rfl (lv_at hl 1 rfl) ?_
  refine lv_if_ne (tgt := 60) hx hb dX10_levelCost_45 (by decide) (fun q => ?_) (fun q => ?_)
  · exact wX10_levelCost_s60 C n v4 st res (ie hf q) H locs ls (lv_sub hl [0, 2] rfl) hP hS
  · exact wX10_levelCost_s48 C n v4 st res (it hf q) H locs ls (lv_sub hl [0, 2] rfl) hP hS
def fX10_levelCost_s37 (n : Nat)   (v1 : Int32) (v4 : Int32) (st : St) : Option (Int64 × St) := (fX3_work n st).bind (fun q => fX10_levelCost_s44 n v1 v4 q.2)
set_option maxHeartbeats 4000000 in
set_option maxRecDepth 100000 in
theorem wX10_levelCost_s37 (C : Cx p s m args meth c cX10_levelCost 5 wsL_law RX10 (some .long) D G ad) (n : Nat)   (v1 : Int32) (v4 : Int32)   (st : St) (res : (Int64 × St))  (hf : fX10_levelCost_s37 n   v1 v4 st = some res) : At p l e (rmK 3) s m args below meth c D G ad (MQJ D G ad below args s res) 5 st [(0, .ref (ad 0)), (1, .int v1), (4, .int v4)] 37 [] := by
  obtain ⟨hx, hb, hml, hown, hts, hr, hlk, hK, had, hSt⟩ := id C
  intro H locs ls hl hP hS
  unfold fX10_levelCost_s37 at hf
  refine lv_aload_n hx hb dX10_levelCost_37 rfl (lv_at hl 0 rfl) ?_
  refine g_getR hx hb hts inlX10 hown hK hP 0 ct_0 rfl 7 (by decide) (hts _ wm_2_20) rfl dX10_levelCost_38 ?_
  obtain ⟨q, hq, hf⟩ := bd hf
  refine gcV_v (k := 2) (o := 37) (As := []) (rest := []) hx hb hml hown hts hK hSt hP hS hl.1 (goodV wm_41_18 wm_41_19 wm_41_20 wm_2_19 wm_41_21) okX3_work ct_37 rfl rfl (Nat.le_of_ble_eq_true rfl) (Nat.le_of_ble_eq_true rfl) rfl rfl (Nat.le_of_ble_eq_true rfl) dX10_levelCost_41 (kX3_work l D G ad had n   st q hq) (fun H locs hP hS => ?_)
  exact wX10_levelCost_s44 C n v1 v4 q.2 res hf H locs ls (lv_sub hl [0, 1, 2] rfl) hP hS
def fX10_levelCost_s30 (n : Nat)   (v1 : Int32) (v4 : Int32) (k0 : Int32) (st : St) : Option (Int64 × St) := if k0 = 0 then fX10_levelCost_s33 n st else fX10_levelCost_s37 n v1 v4 st
set_option maxHeartbeats 4000000 in
set_option maxRecDepth 100000 in
theorem wX10_levelCost_s30 (C : Cx p s m args meth c cX10_levelCost 5 wsL_law RX10 (some .long) D G ad) (n : Nat)   (v1 : Int32) (v4 : Int32) (k0 : Int32)   (st : St) (res : (Int64 × St))  (hf : fX10_levelCost_s30 n   v1 v4 k0 st = some res) : At p l e (rmK 3) s m args below meth c D G ad (MQJ D G ad below args s res) 5 st [(0, .ref (ad 0)), (1, .int v1), (4, .int v4)] 30 [.int k0] := by
  obtain ⟨hx, hb, hml, hown, hts, hr, hlk, hK, had, hSt⟩ := id C
  intro H locs ls hl hP hS
  unfold fX10_levelCost_s30 at hf
  refine lv_if_ne (tgt := 37) hx hb dX10_levelCost_30 (by decide) (fun q => ?_) (fun q => ?_)
  · exact wX10_levelCost_s37 C n v1 v4 st res (ie hf q) H locs ls (lv_sub hl [0, 1, 2] rfl) hP hS
  · exact wX10_levelCost_s33 C n st res (it hf q) H locs ls (lv_sub hl [] rfl) hP hS
def fX10_levelCost_s21 (n : Nat)   (v1 : Int32) (v2 : Int32) (v3 : Int32) (v4 : Int32) (st : St) : Option (Int64 × St) := (fX3_understand n v2 v3 st).bind (fun q => fX10_levelCost_s30 n v1 v4 q.1 q.2)
set_option maxHeartbeats 4000000 in
set_option maxRecDepth 100000 in
theorem wX10_levelCost_s21 (C : Cx p s m args meth c cX10_levelCost 5 wsL_law RX10 (some .long) D G ad) (n : Nat)   (v1 : Int32) (v2 : Int32) (v3 : Int32) (v4 : Int32)   (st : St) (res : (Int64 × St))  (hf : fX10_levelCost_s21 n   v1 v2 v3 v4 st = some res) : At p l e (rmK 3) s m args below meth c D G ad (MQJ D G ad below args s res) 5 st [(0, .ref (ad 0)), (1, .int v1), (2, .int v2), (3, .int v3), (4, .int v4)] 21 [] := by
  obtain ⟨hx, hb, hml, hown, hts, hr, hlk, hK, had, hSt⟩ := id C
  intro H locs ls hl hP hS
  unfold fX10_levelCost_s21 at hf
  refine lv_aload_n hx hb dX10_levelCost_21 rfl (lv_at hl 0 rfl) ?_
  refine g_getR hx hb hts inlX10 hown hK hP 0 ct_0 rfl 7 (by decide) (hts _ wm_2_20) rfl dX10_levelCost_22 ?_
  refine lv_iload_n hx hb dX10_levelCost_25 rfl (lv_at hl 2 rfl) ?_
  refine lv_iload_n hx hb dX10_levelCost_26 rfl (lv_at hl 3 rfl) ?_
  obtain ⟨q, hq, hf⟩ := bd hf
  refine gcV_i (k := 1) (o := 37) (As := [.int v2, .int v3]) (rest := []) hx hb hml hown hts hK hSt hP hS hl.1 (goodV wm_41_9 wm_41_10 wm_41_11 wm_2_19 wm_41_12) okX3_understand ct_37 rfl rfl (Nat.le_of_ble_eq_true rfl) (Nat.le_of_ble_eq_true rfl) rfl rfl (Nat.le_of_ble_eq_true rfl) dX10_levelCost_27 (kX3_understand l D G ad had n  v2 v3 st q hq) (fun H locs hP hS => ?_)
  exact wX10_levelCost_s30 C n v1 v4 q.1 q.2 res hf H locs ls (lv_sub hl [0, 1, 4] rfl) hP hS
def fX10_levelCost_s18 (n : Nat)   (v1 : Int32) (v2 : Int32) (v3 : Int32) (v4 : Int32) (k0 : Int32) (st : St) : Option (Int64 × St) := if k0 = 0 then fX10_levelCost_s33 n st else fX10_levelCost_s21 n v1 v2 v3 v4 st
set_option maxHeartbeats 4000000 in
set_option maxRecDepth 100000 in
theorem wX10_levelCost_s18 (C : Cx p s m args meth c cX10_levelCost 5 wsL_law RX10 (some .long) D G ad) (n : Nat)   (v1 : Int32) (v2 : Int32) (v3 : Int32) (v4 : Int32) (k0 : Int32)   (st : St) (res : (Int64 × St))  (hf : fX10_levelCost_s18 n   v1 v2 v3 v4 k0 st = some res) : At p l e (rmK 3) s m args below meth c D G ad (MQJ D G ad below args s res) 5 st [(0, .ref (ad 0)), (1, .int v1), (2, .int v2), (3, .int v3), (4, .int v4)] 18 [.int k0] := by
  obtain ⟨hx, hb, hml, hown, hts, hr, hlk, hK, had, hSt⟩ := id C
  intro H locs ls hl hP hS
  unfold fX10_levelCost_s18 at hf
  refine lv_if_eq (tgt := 33) hx hb dX10_levelCost_18 (by decide) (fun q => ?_) (fun q => ?_)
  · exact wX10_levelCost_s33 C n st res (it hf q) H locs ls (lv_sub hl [] rfl) hP hS
  · exact wX10_levelCost_s21 C n v1 v2 v3 v4 st res (ie hf q) H locs ls (lv_sub hl [0, 1, 2, 3, 4] rfl) hP hS
def fX10_levelCost_s9 (n : Nat)   (v1 : Int32) (v2 : Int32) (v3 : Int32) (v4 : Int32) (st : St) : Option (Int64 × St) := (fX10_within n v4 (-30) 30 st).bind (fun q => fX10_levelCost_s18 n v1 v2 v3 v4 q.1 q.2)
set_option maxHeartbeats 4000000 in
set_option maxRecDepth 100000 in
theorem wX10_levelCost_s9 (C : Cx p s m args meth c cX10_levelCost 5 wsL_law RX10 (some .long) D G ad) (n : Nat)   (v1 : Int32) (v2 : Int32) (v3 : Int32) (v4 : Int32)   (st : St) (res : (Int64 × St))  (hf : fX10_levelCost_s9 n   v1 v2 v3 v4 st = some res) : At p l e (rmK 3) s m args below meth c D G ad (MQJ D G ad below args s res) 5 st [(0, .ref (ad 0)), (1, .int v1), (2, .int v2), (3, .int v3), (4, .int v4)] 9 [] := by
  obtain ⟨hx, hb, hml, hown, hts, hr, hlk, hK, had, hSt⟩ := id C
  intro H locs ls hl hP hS
  unfold fX10_levelCost_s9 at hf
  refine lv_iload hx hb dX10_levelCost_9 (lv_at hl 4 rfl) ?_
  refine lv_bipush (v := (-30)) hx hb dX10_levelCost_11 (by decide) ?_
  refine lv_bipush (v := 30) hx hb dX10_levelCost_13 (by decide) ?_
  obtain ⟨q, hq, hf⟩ := bd hf
  refine gcS_i (k := 0) (As := [.int v4, .int (-30), .int 30]) (rest := []) hx hb hml hown hts hK hSt hP hS hl.1 (goodS wm_9_17 wm_9_18 wm_1_2 wm_9_19) okX10_within (Nat.le_of_ble_eq_true rfl) (Nat.le_of_ble_eq_true rfl) rfl rfl (Nat.le_of_ble_eq_true rfl) dX10_levelCost_15 (kX10_within l D G ad had n  v4 (-30) 30 st q hq) (fun H locs hP hS => ?_)
  exact wX10_levelCost_s18 C n v1 v2 v3 v4 q.1 q.2 res hf H locs ls (lv_sub hl [0, 1, 2, 3, 4] rfl) hP hS
def fX10_levelCost_s6 (n : Nat)   (v1 : Int32) (v2 : Int32) (v3 : Int32) (v4 : Int32) (k0 : Int32) (st : St) : Option (Int64 × St) := if k0 = 0 then fX10_levelCost_s33 n st else fX10_levelCost_s9 n v1 v2 v3 v4 st
set_option maxHeartbeats 4000000 in
set_option maxRecDepth 100000 in
theorem wX10_levelCost_s6 (C : Cx p s m args meth c cX10_levelCost 5 wsL_law RX10 (some .long) D G ad) (n : Nat)   (v1 : Int32) (v2 : Int32) (v3 : Int32) (v4 : Int32) (k0 : Int32)   (st : St) (res : (Int64 × St))  (hf : fX10_levelCost_s6 n   v1 v2 v3 v4 k0 st = some res) : At p l e (rmK 3) s m args below meth c D G ad (MQJ D G ad below args s res) 5 st [(0, .ref (ad 0)), (1, .int v1), (2, .int v2), (3, .int v3), (4, .int v4)] 6 [.int k0] := by
  obtain ⟨hx, hb, hml, hown, hts, hr, hlk, hK, had, hSt⟩ := id C
  intro H locs ls hl hP hS
  unfold fX10_levelCost_s6 at hf
  refine lv_if_eq (tgt := 33) hx hb dX10_levelCost_6 (by decide) (fun q => ?_) (fun q => ?_)
  · exact wX10_levelCost_s33 C n st res (it hf q) H locs ls (lv_sub hl [] rfl) hP hS
  · exact wX10_levelCost_s9 C n v1 v2 v3 v4 st res (ie hf q) H locs ls (lv_sub hl [0, 1, 2, 3, 4] rfl) hP hS
def fX10_levelCost_s0 (n : Nat)   (v1 : Int32) (v2 : Int32) (v3 : Int32) (v4 : Int32) (st : St) : Option (Int64 × St) := (fX10_within n v1 0 1 st).bind (fun q => fX10_levelCost_s6 n v1 v2 v3 v4 q.1 q.2)
set_option maxHeartbeats 4000000 in
set_option maxRecDepth 100000 in
theorem wX10_levelCost_s0 (C : Cx p s m args meth c cX10_levelCost 5 wsL_law RX10 (some .long) D G ad) (n : Nat)   (v1 : Int32) (v2 : Int32) (v3 : Int32) (v4 : Int32)   (st : St) (res : (Int64 × St))  (hf : fX10_levelCost_s0 n   v1 v2 v3 v4 st = some res) : At p l e (rmK 3) s m args below meth c D G ad (MQJ D G ad below args s res) 5 st [(0, .ref (ad 0)), (1, .int v1), (2, .int v2), (3, .int v3), (4, .int v4)] 0 [] := by
  obtain ⟨hx, hb, hml, hown, hts, hr, hlk, hK, had, hSt⟩ := id C
  intro H locs ls hl hP hS
  unfold fX10_levelCost_s0 at hf
  refine lv_iload_n hx hb dX10_levelCost_0 rfl (lv_at hl 1 rfl) ?_
  refine lv_iconst (v := 0) hx hb dX10_levelCost_1 (by decide) ?_
  refine lv_iconst (v := 1) hx hb dX10_levelCost_2 (by decide) ?_
  obtain ⟨q, hq, hf⟩ := bd hf
  refine gcS_i (k := 0) (As := [.int v1, .int 0, .int 1]) (rest := []) hx hb hml hown hts hK hSt hP hS hl.1 (goodS wm_9_17 wm_9_18 wm_1_2 wm_9_19) okX10_within (Nat.le_of_ble_eq_true rfl) (Nat.le_of_ble_eq_true rfl) rfl rfl (Nat.le_of_ble_eq_true rfl) dX10_levelCost_3 (kX10_within l D G ad had n  v1 0 1 st q hq) (fun H locs hP hS => ?_)
  exact wX10_levelCost_s6 C n v1 v2 v3 v4 q.1 q.2 res hf H locs ls (lv_sub hl [0, 1, 2, 3, 4] rfl) hP hS
def fX10_levelCost (n : Nat)  (a1 : Int32) (a2 : Int32) (a3 : Int32) (a4 : Int32) (st : St) : Option (Int64 × St) := fX10_levelCost_s0 n a1 a2 a3 a4 st
theorem okX10_levelCost : okY yX10_levelCost RX10 4 := by unfold okY; decide +kernel
end
set_option maxRecDepth 100000 in
theorem kX10_levelCost (l : Launch) (D : va_G) (G : G3) (ad : Nat → Nat) (had : Adr ad) (n : Nat)   (a1 : Int32) (a2 : Int32) (a3 : Int32) (a4 : Int32) (st : St) (res : (Int64 × St)) (hf : fX10_levelCost n  a1 a2 a3 a4 st = some res) {sz : Nat} : CtJ l yX10_levelCost (wsU yX10_levelCost cX10_levelCost 5 (some .long)) (rmK 3) D G ad sz [.ref (ad 0), .int a1, .int a2, .int a3, .int a4] st res := by
  refine Met.ofW (cc := cX10_levelCost) (maxL := 5) (ret := (some .long)) (by decide) rfl ?_
  intro p e s m args below meth c s₁ B hml hv
  obtain ⟨rfl, hsz, hP, hK, hSt⟩ := hv
  have hts := atoms_spec (ws := wsU yX10_levelCost cX10_levelCost 5 (some .long)) B.pre
  have C : Cx p s m _ meth c cX10_levelCost 5 wsL_law RX10 (some .long) D G ad := ⟨B.exec, B.bytes, hml, findClass_of_methodNamed B.named, fun w h => hts w (List.mem_cons_of_mem _ h), B.returns, B.notSynchronized, hK, had, hSt⟩
  subst hsz
  have hl := lv_entry ([.ref (ad 0), .int a1, .int a2, .int a3, .int a4]) (n := 5) (Nat.le_of_ble_eq_true rfl)
  rw [lg_entry_eq]
  generalize (lg_sl ([.ref (ad 0), .int a1, .int a2, .int a3, .int a4]) ++ List.replicate (5 - (lg_sl ([.ref (ad 0), .int a1, .int a2, .int a3, .int a4])).length) Slot.unset).toArray = ls at hl ⊢
  exact wX10_levelCost_s0 C n  a1 a2 a3 a4   st res hf s.heap [] ls (lv_sub hl [0, 1, 2, 3, 4] rfl) hP va_S.rf
section
variable {p : Program} {l : Launch} {e : Env} {s : State} {m : MethodId} {args : Array Value} {below : List Frame} {meth : Method} {c : Code} {D : va_G} {G : G3} {ad : Nat → Nat}
def fX10_greatestOrder_s39 (n : Nat)   (v2 : Int32) (st : St) : Option (Int32 × St) := some (v2, st)
set_option maxHeartbeats 4000000 in
set_option maxRecDepth 100000 in
theorem wX10_greatestOrder_s39 (C : Cx p s m args meth c cX10_greatestOrder 4 wsL_law RX10 (some .int) D G ad) (n : Nat)   (v2 : Int32)   (st : St) (res : (Int32 × St))  (hf : fX10_greatestOrder_s39 n   v2 st = some res) : At p l e (rmK 1) s m args below meth c D G ad (MQI D G ad below args s res) 4 st [(2, .int v2)] 39 [] := by
  obtain ⟨hx, hb, hml, hown, hts, hr, hlk, hK, had, hSt⟩ := id C
  intro H locs ls hl hP hS
  unfold fX10_greatestOrder_s39 at hf
  refine lv_iload_n hx hb dX10_greatestOrder_39 rfl (lv_at hl 0 rfl) ?_
  exact g_iret hx hb hr hlk hP hS dX10_greatestOrder_40 hf
def fX10_greatestOrder_s29 (n : Nat) (K4 : Int32 → Int32 → Int32 → St → Option (Int32 × St))  (v1 : Int32) (v3 : Int32) (k0 : Int32) (k1 : Int32) (st : St) : Option (Int32 × St) := K4 v1 (if k0 < k1 then k1 else k0) (v3 + 1) st
set_option maxHeartbeats 4000000 in
set_option maxRecDepth 100000 in
theorem wX10_greatestOrder_s29 (C : Cx p s m args meth c cX10_greatestOrder 4 wsL_law RX10 (some .int) D G ad) (n : Nat) (K4 : Int32 → Int32 → Int32 → St → Option (Int32 × St))  (v1 : Int32) (v3 : Int32) (k0 : Int32) (k1 : Int32)   (st : St) (res : (Int32 × St)) (hK4 : ∀ (v1 : Int32) (v2 : Int32) (v3 : Int32) (st : St), K4 v1 v2 v3 st = some res → At p l e (rmK 1) s m args below meth c D G ad (MQI D G ad below args s res) 4 st [(0, .ref (ad 0)), (1, .int v1), (2, .int v2), (3, .int v3)] 4 []) (hf : fX10_greatestOrder_s29 n K4  v1 v3 k0 k1 st = some res) : At p l e (rmK 1) s m args below meth c D G ad (MQI D G ad below args s res) 4 st [(0, .ref (ad 0)), (1, .int v1), (3, .int v3)] 29 [.int k1, .int k0] := by
  obtain ⟨hx, hb, hml, hown, hts, hr, hlk, hK, had, hSt⟩ := id C
  intro H locs ls hl hP hS
  unfold fX10_greatestOrder_s29 at hf
  refine va_mmax hx hb (hml.trans hl.1.symm) hown (hts _ wm_44_23) (hts _ wm_20_22) (hts _ wm_18_20) (hts _ wm_20_23) (Nat.le_of_ble_eq_true rfl) (Nat.le_of_ble_eq_true rfl) (Nat.zero_le _) (Nat.zero_le _) dX10_greatestOrder_29 ?_
  refine lv_istore_n (lv' := [(2, .int (if k0 < k1 then k1 else k0)), (0, .ref (ad 0)), (1, .int v1), (3, .int v3)]) hx hb dX10_greatestOrder_32 rfl hl (by decide) rfl (fun ls hl => ?_)
  refine lv_iinc (v := v3 + 1) (lv' := [(3, .int (v3 + 1)), (2, .int (if k0 < k1 then k1 else k0)), (0, .ref (ad 0)), (1, .int v1)]) hx hb dX10_greatestOrder_33 hl (k := 3) rfl rfl (by decide) rfl (fun ls hl => ?_)
  refine lv_goto (tgt := 4) hx hb dX10_greatestOrder_36 (by decide) ?_
  exact hK4 v1 (if k0 < k1 then k1 else k0) (v3 + 1)  st hf H locs ls (lv_sub hl [2, 3, 1, 0] rfl) hP hS
def fX10_greatestOrder_s9 (n : Nat) (K4 : Int32 → Int32 → Int32 → St → Option (Int32 × St))  (v1 : Int32) (v2 : Int32) (v3 : Int32) (st : St) : Option (Int32 × St) := if inb v3 7 = true then (if inb v3 7 = true then ((fX1_latest n (53 + 11 * v3.toNatClampNeg) ((53 + 11 * v3.toNatClampNeg) + 9) 0 st).bind (fun q => fX10_greatestOrder_s29 n K4 v1 v3 v2 q.1 q.2)) else none) else none
set_option maxHeartbeats 4000000 in
set_option maxRecDepth 100000 in
theorem wX10_greatestOrder_s9 (C : Cx p s m args meth c cX10_greatestOrder 4 wsL_law RX10 (some .int) D G ad) (n : Nat) (K4 : Int32 → Int32 → Int32 → St → Option (Int32 × St))  (v1 : Int32) (v2 : Int32) (v3 : Int32)   (st : St) (res : (Int32 × St)) (hK4 : ∀ (v1 : Int32) (v2 : Int32) (v3 : Int32) (st : St), K4 v1 v2 v3 st = some res → At p l e (rmK 1) s m args below meth c D G ad (MQI D G ad below args s res) 4 st [(0, .ref (ad 0)), (1, .int v1), (2, .int v2), (3, .int v3)] 4 []) (hf : fX10_greatestOrder_s9 n K4  v1 v2 v3 st = some res) : At p l e (rmK 1) s m args below meth c D G ad (MQI D G ad below args s res) 4 st [(0, .ref (ad 0)), (1, .int v1), (2, .int v2), (3, .int v3)] 9 [] := by
  obtain ⟨hx, hb, hml, hown, hts, hr, hlk, hK, had, hSt⟩ := id C
  intro H locs ls hl hP hS
  unfold fX10_greatestOrder_s9 at hf
  refine lv_iload_n hx hb dX10_greatestOrder_9 rfl (lv_at hl 2 rfl) ?_
  refine lv_aload_n hx hb dX10_greatestOrder_10 rfl (lv_at hl 0 rfl) ?_
  refine g_getR hx hb hts inlX10 hown hK hP 0 ct_0 rfl 10 (by decide) (hts _ wm_3_4) rfl dX10_greatestOrder_11 ?_
  refine lv_iload_n hx hb dX10_greatestOrder_14 rfl (lv_at hl 3 rfl) ?_
  obtain ⟨g1, hf⟩ := gd hf
  refine g_aald hx hb hK hP 49 ct_49 g1 dX10_greatestOrder_15 ?_
  refine lv_aload_n hx hb dX10_greatestOrder_16 rfl (lv_at hl 0 rfl) ?_
  refine g_getR hx hb hts inlX10 hown hK hP 0 ct_0 rfl 10 (by decide) (hts _ wm_3_4) rfl dX10_greatestOrder_17 ?_
  refine lv_iload_n hx hb dX10_greatestOrder_20 rfl (lv_at hl 3 rfl) ?_
  obtain ⟨g2, hf⟩ := gd hf
  refine g_aald hx hb hK hP 49 ct_49 g2 dX10_greatestOrder_21 ?_
  refine g_getR hx hb hts inlX1 hown hK hP (53 + 11 * v3.toNatClampNeg) (fl_0 (isFl_of g2)) rfl 8 (by decide) (hts _ wm_13_6) rfl dX10_greatestOrder_22 ?_
  refine lv_iconst (v := 0) hx hb dX10_greatestOrder_25 (by decide) ?_
  obtain ⟨q, hq, hf⟩ := bd hf
  refine gcV_i (k := 0) (o := (53 + 11 * v3.toNatClampNeg)) (As := [.ref (ad ((53 + 11 * v3.toNatClampNeg) + 9)), .int 0]) (rest := [.int v2]) hx hb hml hown hts hK hSt hP hS hl.1 (goodV wm_13_8 wm_13_9 wm_13_10 wm_3_6 wm_13_11) okX1_latest (fl_0 (isFl_of g1)) rfl rfl (Nat.le_of_ble_eq_true rfl) (Nat.le_of_ble_eq_true rfl) rfl rfl (Nat.le_of_ble_eq_true rfl) dX10_greatestOrder_26 (kX1_latest l D G ad had n (53 + 11 * v3.toNatClampNeg) ((53 + 11 * v3.toNatClampNeg) + 9) (isFl_of g1) (fl_9 (isFl_of g2)) 0 st q hq) (fun H locs hP hS => ?_)
  exact wX10_greatestOrder_s29 C n K4 v1 v3 v2 q.1 q.2 res hK4 hf H locs ls (lv_sub hl [0, 1, 3] rfl) hP hS
def fX10_greatestOrder_s4 (n : Nat) (K4 : Int32 → Int32 → Int32 → St → Option (Int32 × St))  (v1 : Int32) (v2 : Int32) (v3 : Int32) (st : St) : Option (Int32 × St) := if v1 < v3 then fX10_greatestOrder_s39 n v2 st else fX10_greatestOrder_s9 n K4 v1 v2 v3 st
set_option maxHeartbeats 4000000 in
set_option maxRecDepth 100000 in
theorem wX10_greatestOrder_s4 (C : Cx p s m args meth c cX10_greatestOrder 4 wsL_law RX10 (some .int) D G ad) (n : Nat) (K4 : Int32 → Int32 → Int32 → St → Option (Int32 × St))  (v1 : Int32) (v2 : Int32) (v3 : Int32)   (st : St) (res : (Int32 × St)) (hK4 : ∀ (v1 : Int32) (v2 : Int32) (v3 : Int32) (st : St), K4 v1 v2 v3 st = some res → At p l e (rmK 1) s m args below meth c D G ad (MQI D G ad below args s res) 4 st [(0, .ref (ad 0)), (1, .int v1), (2, .int v2), (3, .int v3)] 4 []) (hf : fX10_greatestOrder_s4 n K4  v1 v2 v3 st = some res) : At p l e (rmK 1) s m args below meth c D G ad (MQI D G ad below args s res) 4 st [(0, .ref (ad 0)), (1, .int v1), (2, .int v2), (3, .int v3)] 4 [] := by
  obtain ⟨hx, hb, hml, hown, hts, hr, hlk, hK, had, hSt⟩ := id C
  intro H locs ls hl hP hS
  unfold fX10_greatestOrder_s4 at hf
  refine lv_iload_n hx hb dX10_greatestOrder_4 rfl (lv_at hl 3 rfl) ?_
  refine lv_iload_n hx hb dX10_greatestOrder_5 rfl (lv_at hl 1 rfl) ?_
  refine lv_icmp_gt (tgt := 39) hx hb dX10_greatestOrder_6 (by decide) (fun q => ?_) (fun q => ?_)
  · exact wX10_greatestOrder_s39 C n v2 st res (it hf q) H locs ls (lv_sub hl [2] rfl) hP hS
  · exact wX10_greatestOrder_s9 C n K4 v1 v2 v3 st res hK4 (ie hf q) H locs ls (lv_sub hl [0, 1, 2, 3] rfl) hP hS
def fX10_greatestOrder_L4 (n : Nat)   : Nat → Int32 → Int32 → Int32 → St → Option (Int32 × St)
  | 0, _, _, _, _ => none
  | k + 1, v1, v2, v3, st => fX10_greatestOrder_s4 n (fX10_greatestOrder_L4 n k)  v1 v2 v3 st
theorem wX10_greatestOrder_L4 (C : Cx p s m args meth c cX10_greatestOrder 4 wsL_law RX10 (some .int) D G ad) (n : Nat)    (res : (Int32 × St))  : ∀ (k : Nat) (v1 : Int32) (v2 : Int32) (v3 : Int32)  (st : St), fX10_greatestOrder_L4 n k v1 v2 v3 st = some res → At p l e (rmK 1) s m args below meth c D G ad (MQI D G ad below args s res) 4 st [(0, .ref (ad 0)), (1, .int v1), (2, .int v2), (3, .int v3)] 4 [] := by
  intro k
  induction k with
  | zero => intro v1 v2 v3  st h; exact absurd h (by intro q; cases q)
  | succ k ih => intro v1 v2 v3  st h; exact wX10_greatestOrder_s4 C n (fX10_greatestOrder_L4 n k)  v1 v2 v3   st res ih h
def fX10_greatestOrder_s0 (n : Nat)   (v1 : Int32) (st : St) : Option (Int32 × St) := fX10_greatestOrder_L4 n n v1 0 1 st
set_option maxHeartbeats 4000000 in
set_option maxRecDepth 100000 in
theorem wX10_greatestOrder_s0 (C : Cx p s m args meth c cX10_greatestOrder 4 wsL_law RX10 (some .int) D G ad) (n : Nat)   (v1 : Int32)   (st : St) (res : (Int32 × St))  (hf : fX10_greatestOrder_s0 n   v1 st = some res) : At p l e (rmK 1) s m args below meth c D G ad (MQI D G ad below args s res) 4 st [(0, .ref (ad 0)), (1, .int v1)] 0 [] := by
  obtain ⟨hx, hb, hml, hown, hts, hr, hlk, hK, had, hSt⟩ := id C
  intro H locs ls hl hP hS
  unfold fX10_greatestOrder_s0 at hf
  refine lv_iconst (v := 0) hx hb dX10_greatestOrder_0 (by decide) ?_
  refine lv_istore_n (lv' := [(2, .int 0), (0, .ref (ad 0)), (1, .int v1)]) hx hb dX10_greatestOrder_1 rfl hl (by decide) rfl (fun ls hl => ?_)
  refine lv_iconst (v := 1) hx hb dX10_greatestOrder_2 (by decide) ?_
  refine lv_istore_n (lv' := [(3, .int 1), (2, .int 0), (0, .ref (ad 0)), (1, .int v1)]) hx hb dX10_greatestOrder_3 rfl hl (by decide) rfl (fun ls hl => ?_)
  exact wX10_greatestOrder_L4 C n res n v1 0 1 st hf H locs ls (lv_sub hl [2, 3, 1, 0] rfl) hP hS
def fX10_greatestOrder (n : Nat)  (a1 : Int32) (st : St) : Option (Int32 × St) := fX10_greatestOrder_s0 n a1 st
theorem okX10_greatestOrder : okY yX10_greatestOrder RX10 1 := by unfold okY; decide +kernel
end
set_option maxRecDepth 100000 in
theorem kX10_greatestOrder (l : Launch) (D : va_G) (G : G3) (ad : Nat → Nat) (had : Adr ad) (n : Nat)   (a1 : Int32) (st : St) (res : (Int32 × St)) (hf : fX10_greatestOrder n  a1 st = some res) {sz : Nat} : CtI l yX10_greatestOrder (wsU yX10_greatestOrder cX10_greatestOrder 4 (some .int)) (rmK 1) D G ad sz [.ref (ad 0), .int a1] st res := by
  refine Met.ofW (cc := cX10_greatestOrder) (maxL := 4) (ret := (some .int)) (by decide) rfl ?_
  intro p e s m args below meth c s₁ B hml hv
  obtain ⟨rfl, hsz, hP, hK, hSt⟩ := hv
  have hts := atoms_spec (ws := wsU yX10_greatestOrder cX10_greatestOrder 4 (some .int)) B.pre
  have C : Cx p s m _ meth c cX10_greatestOrder 4 wsL_law RX10 (some .int) D G ad := ⟨B.exec, B.bytes, hml, findClass_of_methodNamed B.named, fun w h => hts w (List.mem_cons_of_mem _ h), B.returns, B.notSynchronized, hK, had, hSt⟩
  subst hsz
  have hl := lv_entry ([.ref (ad 0), .int a1]) (n := 4) (Nat.le_of_ble_eq_true rfl)
  rw [lg_entry_eq]
  generalize (lg_sl ([.ref (ad 0), .int a1]) ++ List.replicate (4 - (lg_sl ([.ref (ad 0), .int a1])).length) Slot.unset).toArray = ls at hl ⊢
  exact wX10_greatestOrder_s0 C n  a1   st res hf s.heap [] ls (lv_sub hl [0, 1] rfl) hP va_S.rf
section
variable {p : Program} {l : Launch} {e : Env} {s : State} {m : MethodId} {args : Array Value} {below : List Frame} {meth : Method} {c : Code} {D : va_G} {G : G3} {ad : Nat → Nat}
def fX10_isHigh_s18 (n : Nat)   (k0 : Int32) (st : St) : Option (Int32 × St) := if zb k0 = true then (some (k0, st)) else none
set_option maxHeartbeats 4000000 in
set_option maxRecDepth 100000 in
theorem wX10_isHigh_s18 (C : Cx p s m args meth c cX10_isHigh 3 wsL_law RX10 (some .boolean) D G ad) (n : Nat)   (k0 : Int32)   (st : St) (res : (Int32 × St))  (hf : fX10_isHigh_s18 n   k0 st = some res) : At p l e (rmK 0) s m args below meth c D G ad (MQI D G ad below args s res) 3 st [] 18 [.int k0] := by
  obtain ⟨hx, hb, hml, hown, hts, hr, hlk, hK, had, hSt⟩ := id C
  intro H locs ls hl hP hS
  unfold fX10_isHigh_s18 at hf
  obtain ⟨gz, hf⟩ := gd hf
  exact g_zret hx hb hr hlk hP hS (zb_of gz) dX10_isHigh_18 hf
def fX10_isHigh_s17 (n : Nat)    (st : St) : Option (Int32 × St) := fX10_isHigh_s18 n 0 st
set_option maxHeartbeats 4000000 in
set_option maxRecDepth 100000 in
theorem wX10_isHigh_s17 (C : Cx p s m args meth c cX10_isHigh 3 wsL_law RX10 (some .boolean) D G ad) (n : Nat)      (st : St) (res : (Int32 × St))  (hf : fX10_isHigh_s17 n    st = some res) : At p l e (rmK 0) s m args below meth c D G ad (MQI D G ad below args s res) 3 st [] 17 [] := by
  obtain ⟨hx, hb, hml, hown, hts, hr, hlk, hK, had, hSt⟩ := id C
  intro H locs ls hl hP hS
  unfold fX10_isHigh_s17 at hf
  refine lv_iconst (v := 0) hx hb dX10_isHigh_17 (by decide) ?_
  exact wX10_isHigh_s18 C n 0 st res hf H locs ls (lv_sub hl [] rfl) hP hS
def fX10_isHigh_s13 (n : Nat)    (st : St) : Option (Int32 × St) := fX10_isHigh_s18 n 1 st
set_option maxHeartbeats 4000000 in
set_option maxRecDepth 100000 in
theorem wX10_isHigh_s13 (C : Cx p s m args meth c cX10_isHigh 3 wsL_law RX10 (some .boolean) D G ad) (n : Nat)      (st : St) (res : (Int32 × St))  (hf : fX10_isHigh_s13 n    st = some res) : At p l e (rmK 0) s m args below meth c D G ad (MQI D G ad below args s res) 3 st [] 13 [] := by
  obtain ⟨hx, hb, hml, hown, hts, hr, hlk, hK, had, hSt⟩ := id C
  intro H locs ls hl hP hS
  unfold fX10_isHigh_s13 at hf
  refine lv_iconst (v := 1) hx hb dX10_isHigh_13 (by decide) ?_
  refine lv_goto (tgt := 18) hx hb dX10_isHigh_14 (by decide) ?_
  exact wX10_isHigh_s18 C n 1 st res hf H locs ls (lv_sub hl [] rfl) hP hS
def fX10_isHigh_s0 (n : Nat)   (v0 : Int32) (v1 : Int32) (v2 : Int32) (st : St) : Option (Int32 × St) := if ((v0 >>> (((v2 - 1) - v1) &&& 31)) &&& 1) = 1 then fX10_isHigh_s13 n st else fX10_isHigh_s17 n st
set_option maxHeartbeats 4000000 in
set_option maxRecDepth 100000 in
theorem wX10_isHigh_s0 (C : Cx p s m args meth c cX10_isHigh 3 wsL_law RX10 (some .boolean) D G ad) (n : Nat)   (v0 : Int32) (v1 : Int32) (v2 : Int32)   (st : St) (res : (Int32 × St))  (hf : fX10_isHigh_s0 n   v0 v1 v2 st = some res) : At p l e (rmK 0) s m args below meth c D G ad (MQI D G ad below args s res) 3 st [(0, .int v0), (1, .int v1), (2, .int v2)] 0 [] := by
  obtain ⟨hx, hb, hml, hown, hts, hr, hlk, hK, had, hSt⟩ := id C
  intro H locs ls hl hP hS
  unfold fX10_isHigh_s0 at hf
  refine lv_iload_n hx hb dX10_isHigh_0 rfl (lv_at hl 0 rfl) ?_
  refine lv_iload_n hx hb dX10_isHigh_1 rfl (lv_at hl 2 rfl) ?_
  refine lv_iconst (v := 1) hx hb dX10_isHigh_2 (by decide) ?_
  refine lv_isub hx hb dX10_isHigh_3 ?_
  refine lv_iload_n hx hb dX10_isHigh_4 rfl (lv_at hl 1 rfl) ?_
  refine lv_isub hx hb dX10_isHigh_5 ?_
  refine lv_ishr hx hb dX10_isHigh_6 ?_
  refine lv_iconst (v := 1) hx hb dX10_isHigh_7 (by decide) ?_
  refine lv_iand hx hb dX10_isHigh_8 ?_
  refine lv_iconst (v := 1) hx hb dX10_isHigh_9 (by decide) ?_
  refine lv_icmp_ne (tgt := 17) hx hb dX10_isHigh_10 (by decide) (fun q => ?_) (fun q => ?_)
  · exact wX10_isHigh_s17 C n st res (ie hf q) H locs ls (lv_sub hl [] rfl) hP hS
  · exact wX10_isHigh_s13 C n st res (it hf q) H locs ls (lv_sub hl [] rfl) hP hS
def fX10_isHigh (n : Nat)  (a0 : Int32) (a1 : Int32) (a2 : Int32) (st : St) : Option (Int32 × St) := fX10_isHigh_s0 n a0 a1 a2 st
theorem okX10_isHigh : okY yX10_isHigh RX10 3 := by unfold okY; decide +kernel
end
set_option maxRecDepth 100000 in
theorem kX10_isHigh (l : Launch) (D : va_G) (G : G3) (ad : Nat → Nat) (had : Adr ad) (n : Nat)   (a0 : Int32) (a1 : Int32) (a2 : Int32) (st : St) (res : (Int32 × St)) (hf : fX10_isHigh n  a0 a1 a2 st = some res) {sz : Nat} : CtI l yX10_isHigh (wsU yX10_isHigh cX10_isHigh 3 (some .boolean)) (rmK 0) D G ad sz [.int a0, .int a1, .int a2] st res := by
  refine Met.ofW (cc := cX10_isHigh) (maxL := 3) (ret := (some .boolean)) (by decide) rfl ?_
  intro p e s m args below meth c s₁ B hml hv
  obtain ⟨rfl, hsz, hP, hK, hSt⟩ := hv
  have hts := atoms_spec (ws := wsU yX10_isHigh cX10_isHigh 3 (some .boolean)) B.pre
  have C : Cx p s m _ meth c cX10_isHigh 3 wsL_law RX10 (some .boolean) D G ad := ⟨B.exec, B.bytes, hml, findClass_of_methodNamed B.named, fun w h => hts w (List.mem_cons_of_mem _ h), B.returns, B.notSynchronized, hK, had, hSt⟩
  subst hsz
  have hl := lv_entry ([.int a0, .int a1, .int a2]) (n := 3) (Nat.le_of_ble_eq_true rfl)
  rw [lg_entry_eq]
  generalize (lg_sl ([.int a0, .int a1, .int a2]) ++ List.replicate (3 - (lg_sl ([.int a0, .int a1, .int a2])).length) Slot.unset).toArray = ls at hl ⊢
  exact wX10_isHigh_s0 C n  a0 a1 a2   st res hf s.heap [] ls (lv_sub hl [0, 1, 2] rfl) hP va_S.rf
section
variable {p : Program} {l : Launch} {e : Env} {s : State} {m : MethodId} {args : Array Value} {below : List Frame} {meth : Method} {c : Code} {D : va_G} {G : G3} {ad : Nat → Nat}
def fJ6_bitCount_0f7a4_s0 (n : Nat)   (v0 : Int32) (st : St) : Option (Int32 × St) := some ((((((((v0 - (((v0.toUInt32 >>> ((1 : Int32).toUInt32 &&& Int32.toUInt32 31)).toInt32) &&& 1431655765)) &&& 858993459) + ((((v0 - (((v0.toUInt32 >>> ((1 : Int32).toUInt32 &&& Int32.toUInt32 31)).toInt32) &&& 1431655765)).toUInt32 >>> ((2 : Int32).toUInt32 &&& Int32.toUInt32 31)).toInt32) &&& 858993459)) + (((((v0 - (((v0.toUInt32 >>> ((1 : Int32).toUInt32 &&& Int32.toUInt32 31)).toInt32) &&& 1431655765)) &&& 858993459) + ((((v0 - (((v0.toUInt32 >>> ((1 : Int32).toUInt32 &&& Int32.toUInt32 31)).toInt32) &&& 1431655765)).toUInt32 >>> ((2 : Int32).toUInt32 &&& Int32.toUInt32 31)).toInt32) &&& 858993459)).toUInt32 >>> ((4 : Int32).toUInt32 &&& Int32.toUInt32 31)).toInt32)) &&& 252645135) + (((((((v0 - (((v0.toUInt32 >>> ((1 : Int32).toUInt32 &&& Int32.toUInt32 31)).toInt32) &&& 1431655765)) &&& 858993459) + ((((v0 - (((v0.toUInt32 >>> ((1 : Int32).toUInt32 &&& Int32.toUInt32 31)).toInt32) &&& 1431655765)).toUInt32 >>> ((2 : Int32).toUInt32 &&& Int32.toUInt32 31)).toInt32) &&& 858993459)) + (((((v0 - (((v0.toUInt32 >>> ((1 : Int32).toUInt32 &&& Int32.toUInt32 31)).toInt32) &&& 1431655765)) &&& 858993459) + ((((v0 - (((v0.toUInt32 >>> ((1 : Int32).toUInt32 &&& Int32.toUInt32 31)).toInt32) &&& 1431655765)).toUInt32 >>> ((2 : Int32).toUInt32 &&& Int32.toUInt32 31)).toInt32) &&& 858993459)).toUInt32 >>> ((4 : Int32).toUInt32 &&& Int32.toUInt32 31)).toInt32)) &&& 252645135).toUInt32 >>> ((8 : Int32).toUInt32 &&& Int32.toUInt32 31)).toInt32)) + ((((((((v0 - (((v0.toUInt32 >>> ((1 : Int32).toUInt32 &&& Int32.toUInt32 31)).toInt32) &&& 1431655765)) &&& 858993459) + ((((v0 - (((v0.toUInt32 >>> ((1 : Int32).toUInt32 &&& Int32.toUInt32 31)).toInt32) &&& 1431655765)).toUInt32 >>> ((2 : Int32).toUInt32 &&& Int32.toUInt32 31)).toInt32) &&& 858993459)) + (((((v0 - (((v0.toUInt32 >>> ((1 : Int32).toUInt32 &&& Int32.toUInt32 31)).toInt32) &&& 1431655765)) &&& 858993459) + ((((v0 - (((v0.toUInt32 >>> ((1 : Int32).toUInt32 &&& Int32.toUInt32 31)).toInt32) &&& 1431655765)).toUInt32 >>> ((2 : Int32).toUInt32 &&& Int32.toUInt32 31)).toInt32) &&& 858993459)).toUInt32 >>> ((4 : Int32).toUInt32 &&& Int32.toUInt32 31)).toInt32)) &&& 252645135) + (((((((v0 - (((v0.toUInt32 >>> ((1 : Int32).toUInt32 &&& Int32.toUInt32 31)).toInt32) &&& 1431655765)) &&& 858993459) + ((((v0 - (((v0.toUInt32 >>> ((1 : Int32).toUInt32 &&& Int32.toUInt32 31)).toInt32) &&& 1431655765)).toUInt32 >>> ((2 : Int32).toUInt32 &&& Int32.toUInt32 31)).toInt32) &&& 858993459)) + (((((v0 - (((v0.toUInt32 >>> ((1 : Int32).toUInt32 &&& Int32.toUInt32 31)).toInt32) &&& 1431655765)) &&& 858993459) + ((((v0 - (((v0.toUInt32 >>> ((1 : Int32).toUInt32 &&& Int32.toUInt32 31)).toInt32) &&& 1431655765)).toUInt32 >>> ((2 : Int32).toUInt32 &&& Int32.toUInt32 31)).toInt32) &&& 858993459)).toUInt32 >>> ((4 : Int32).toUInt32 &&& Int32.toUInt32 31)).toInt32)) &&& 252645135).toUInt32 >>> ((8 : Int32).toUInt32 &&& Int32.toUInt32 31)).toInt32)).toUInt32 >>> ((16 : Int32).toUInt32 &&& Int32.toUInt32 31)).toInt32)) &&& 63, st)
set_option maxHeartbeats 4000000 in
set_option maxRecDepth 100000 in
theorem wJ6_bitCount_0f7a4_s0 (C : Cx p s m args meth c cJ6_bitCount_0f7a4 1 wsL_law RJ6 (some .int) D G ad) (n : Nat)   (v0 : Int32)   (st : St) (res : (Int32 × St))  (hf : fJ6_bitCount_0f7a4_s0 n   v0 st = some res) : At p l e (rmK 0) s m args below meth c D G ad (MQI D G ad below args s res) 1 st [(0, .int v0)] 0 [] := by
  obtain ⟨hx, hb, hml, hown, hts, hr, hlk, hK, had, hSt⟩ := id C
  intro H locs ls hl hP hS
  unfold fJ6_bitCount_0f7a4_s0 at hf
  refine lv_iload_n hx hb dJ6_bitCount_0f7a4_0 rfl (lv_at hl 0 rfl) ?_
  refine lv_iload_n hx hb dJ6_bitCount_0f7a4_1 rfl (lv_at hl 0 rfl) ?_
  refine lv_iconst (v := 1) hx hb dJ6_bitCount_0f7a4_2 (by decide) ?_
  refine lv_iushr hx hb dJ6_bitCount_0f7a4_3 rfl ?_
  refine lv_ldcw hx hb hown (hts _ wm_45_4) dJ6_bitCount_0f7a4_4 ?_
  refine lv_iand hx hb dJ6_bitCount_0f7a4_7 ?_
  refine lv_isub hx hb dJ6_bitCount_0f7a4_8 ?_
  refine lv_istore_n (lv' := [(0, .int (v0 - (((v0.toUInt32 >>> ((1 : Int32).toUInt32 &&& Int32.toUInt32 31)).toInt32) &&& 1431655765)))]) hx hb dJ6_bitCount_0f7a4_9 rfl hl (by decide) rfl (fun ls hl => ?_)
  refine lv_iload_n hx hb dJ6_bitCount_0f7a4_10 rfl (lv_at hl 0 rfl) ?_
  refine lv_ldcw hx hb hown (hts _ wm_45_5) dJ6_bitCount_0f7a4_11 ?_
  refine lv_iand hx hb dJ6_bitCount_0f7a4_14 ?_
  refine lv_iload_n hx hb dJ6_bitCount_0f7a4_15 rfl (lv_at hl 0 rfl) ?_
  refine lv_iconst (v := 2) hx hb dJ6_bitCount_0f7a4_16 (by decide) ?_
  refine lv_iushr hx hb dJ6_bitCount_0f7a4_17 rfl ?_
  refine lv_ldcw hx hb hown (hts _ wm_45_5) dJ6_bitCount_0f7a4_18 ?_
  refine lv_iand hx hb dJ6_bitCount_0f7a4_21 ?_
  refine lv_iadd hx hb dJ6_bitCount_0f7a4_22 ?_
  refine lv_istore_n (lv' := [(0, .int (((v0 - (((v0.toUInt32 >>> ((1 : Int32).toUInt32 &&& Int32.toUInt32 31)).toInt32) &&& 1431655765)) &&& 858993459) + ((((v0 - (((v0.toUInt32 >>> ((1 : Int32).toUInt32 &&& Int32.toUInt32 31)).toInt32) &&& 1431655765)).toUInt32 >>> ((2 : Int32).toUInt32 &&& Int32.toUInt32 31)).toInt32) &&& 858993459)))]) hx hb dJ6_bitCount_0f7a4_23 rfl hl (by decide) rfl (fun ls hl => ?_)
  refine lv_iload_n hx hb dJ6_bitCount_0f7a4_24 rfl (lv_at hl 0 rfl) ?_
  refine lv_iload_n hx hb dJ6_bitCount_0f7a4_25 rfl (lv_at hl 0 rfl) ?_
  refine lv_iconst (v := 4) hx hb dJ6_bitCount_0f7a4_26 (by decide) ?_
  refine lv_iushr hx hb dJ6_bitCount_0f7a4_27 rfl ?_
  refine lv_iadd hx hb dJ6_bitCount_0f7a4_28 ?_
  refine lv_ldcw hx hb hown (hts _ wm_45_6) dJ6_bitCount_0f7a4_29 ?_
  refine lv_iand hx hb dJ6_bitCount_0f7a4_32 ?_
  refine lv_istore_n (lv' := [(0, .int (((((v0 - (((v0.toUInt32 >>> ((1 : Int32).toUInt32 &&& Int32.toUInt32 31)).toInt32) &&& 1431655765)) &&& 858993459) + ((((v0 - (((v0.toUInt32 >>> ((1 : Int32).toUInt32 &&& Int32.toUInt32 31)).toInt32) &&& 1431655765)).toUInt32 >>> ((2 : Int32).toUInt32 &&& Int32.toUInt32 31)).toInt32) &&& 858993459)) + (((((v0 - (((v0.toUInt32 >>> ((1 : Int32).toUInt32 &&& Int32.toUInt32 31)).toInt32) &&& 1431655765)) &&& 858993459) + ((((v0 - (((v0.toUInt32 >>> ((1 : Int32).toUInt32 &&& Int32.toUInt32 31)).toInt32) &&& 1431655765)).toUInt32 >>> ((2 : Int32).toUInt32 &&& Int32.toUInt32 31)).toInt32) &&& 858993459)).toUInt32 >>> ((4 : Int32).toUInt32 &&& Int32.toUInt32 31)).toInt32)) &&& 252645135))]) hx hb dJ6_bitCount_0f7a4_33 rfl hl (by decide) rfl (fun ls hl => ?_)
  refine lv_iload_n hx hb dJ6_bitCount_0f7a4_34 rfl (lv_at hl 0 rfl) ?_
  refine lv_iload_n hx hb dJ6_bitCount_0f7a4_35 rfl (lv_at hl 0 rfl) ?_
  refine lv_bipush (v := 8) hx hb dJ6_bitCount_0f7a4_36 (by decide) ?_
  refine lv_iushr hx hb dJ6_bitCount_0f7a4_38 rfl ?_
  refine lv_iadd hx hb dJ6_bitCount_0f7a4_39 ?_
  refine lv_istore_n (lv' := [(0, .int ((((((v0 - (((v0.toUInt32 >>> ((1 : Int32).toUInt32 &&& Int32.toUInt32 31)).toInt32) &&& 1431655765)) &&& 858993459) + ((((v0 - (((v0.toUInt32 >>> ((1 : Int32).toUInt32 &&& Int32.toUInt32 31)).toInt32) &&& 1431655765)).toUInt32 >>> ((2 : Int32).toUInt32 &&& Int32.toUInt32 31)).toInt32) &&& 858993459)) + (((((v0 - (((v0.toUInt32 >>> ((1 : Int32).toUInt32 &&& Int32.toUInt32 31)).toInt32) &&& 1431655765)) &&& 858993459) + ((((v0 - (((v0.toUInt32 >>> ((1 : Int32).toUInt32 &&& Int32.toUInt32 31)).toInt32) &&& 1431655765)).toUInt32 >>> ((2 : Int32).toUInt32 &&& Int32.toUInt32 31)).toInt32) &&& 858993459)).toUInt32 >>> ((4 : Int32).toUInt32 &&& Int32.toUInt32 31)).toInt32)) &&& 252645135) + (((((((v0 - (((v0.toUInt32 >>> ((1 : Int32).toUInt32 &&& Int32.toUInt32 31)).toInt32) &&& 1431655765)) &&& 858993459) + ((((v0 - (((v0.toUInt32 >>> ((1 : Int32).toUInt32 &&& Int32.toUInt32 31)).toInt32) &&& 1431655765)).toUInt32 >>> ((2 : Int32).toUInt32 &&& Int32.toUInt32 31)).toInt32) &&& 858993459)) + (((((v0 - (((v0.toUInt32 >>> ((1 : Int32).toUInt32 &&& Int32.toUInt32 31)).toInt32) &&& 1431655765)) &&& 858993459) + ((((v0 - (((v0.toUInt32 >>> ((1 : Int32).toUInt32 &&& Int32.toUInt32 31)).toInt32) &&& 1431655765)).toUInt32 >>> ((2 : Int32).toUInt32 &&& Int32.toUInt32 31)).toInt32) &&& 858993459)).toUInt32 >>> ((4 : Int32).toUInt32 &&& Int32.toUInt32 31)).toInt32)) &&& 252645135).toUInt32 >>> ((8 : Int32).toUInt32 &&& Int32.toUInt32 31)).toInt32)))]) hx hb dJ6_bitCount_0f7a4_40 rfl hl (by decide) rfl (fun ls hl => ?_)
  refine lv_iload_n hx hb dJ6_bitCount_0f7a4_41 rfl (lv_at hl 0 rfl) ?_
  refine lv_iload_n hx hb dJ6_bitCount_0f7a4_42 rfl (lv_at hl 0 rfl) ?_
  refine lv_bipush (v := 16) hx hb dJ6_bitCount_0f7a4_43 (by decide) ?_
  refine lv_iushr hx hb dJ6_bitCount_0f7a4_45 rfl ?_
  refine lv_iadd hx hb dJ6_bitCount_0f7a4_46 ?_
  refine lv_istore_n (lv' := [(0, .int (((((((v0 - (((v0.toUInt32 >>> ((1 : Int32).toUInt32 &&& Int32.toUInt32 31)).toInt32) &&& 1431655765)) &&& 858993459) + ((((v0 - (((v0.toUInt32 >>> ((1 : Int32).toUInt32 &&& Int32.toUInt32 31)).toInt32) &&& 1431655765)).toUInt32 >>> ((2 : Int32).toUInt32 &&& Int32.toUInt32 31)).toInt32) &&& 858993459)) + (((((v0 - (((v0.toUInt32 >>> ((1 : Int32).toUInt32 &&& Int32.toUInt32 31)).toInt32) &&& 1431655765)) &&& 858993459) + ((((v0 - (((v0.toUInt32 >>> ((1 : Int32).toUInt32 &&& Int32.toUInt32 31)).toInt32) &&& 1431655765)).toUInt32 >>> ((2 : Int32).toUInt32 &&& Int32.toUInt32 31)).toInt32) &&& 858993459)).toUInt32 >>> ((4 : Int32).toUInt32 &&& Int32.toUInt32 31)).toInt32)) &&& 252645135) + (((((((v0 - (((v0.toUInt32 >>> ((1 : Int32).toUInt32 &&& Int32.toUInt32 31)).toInt32) &&& 1431655765)) &&& 858993459) + ((((v0 - (((v0.toUInt32 >>> ((1 : Int32).toUInt32 &&& Int32.toUInt32 31)).toInt32) &&& 1431655765)).toUInt32 >>> ((2 : Int32).toUInt32 &&& Int32.toUInt32 31)).toInt32) &&& 858993459)) + (((((v0 - (((v0.toUInt32 >>> ((1 : Int32).toUInt32 &&& Int32.toUInt32 31)).toInt32) &&& 1431655765)) &&& 858993459) + ((((v0 - (((v0.toUInt32 >>> ((1 : Int32).toUInt32 &&& Int32.toUInt32 31)).toInt32) &&& 1431655765)).toUInt32 >>> ((2 : Int32).toUInt32 &&& Int32.toUInt32 31)).toInt32) &&& 858993459)).toUInt32 >>> ((4 : Int32).toUInt32 &&& Int32.toUInt32 31)).toInt32)) &&& 252645135).toUInt32 >>> ((8 : Int32).toUInt32 &&& Int32.toUInt32 31)).toInt32)) + ((((((((v0 - (((v0.toUInt32 >>> ((1 : Int32).toUInt32 &&& Int32.toUInt32 31)).toInt32) &&& 1431655765)) &&& 858993459) + ((((v0 - (((v0.toUInt32 >>> ((1 : Int32).toUInt32 &&& Int32.toUInt32 31)).toInt32) &&& 1431655765)).toUInt32 >>> ((2 : Int32).toUInt32 &&& Int32.toUInt32 31)).toInt32) &&& 858993459)) + (((((v0 - (((v0.toUInt32 >>> ((1 : Int32).toUInt32 &&& Int32.toUInt32 31)).toInt32) &&& 1431655765)) &&& 858993459) + ((((v0 - (((v0.toUInt32 >>> ((1 : Int32).toUInt32 &&& Int32.toUInt32 31)).toInt32) &&& 1431655765)).toUInt32 >>> ((2 : Int32).toUInt32 &&& Int32.toUInt32 31)).toInt32) &&& 858993459)).toUInt32 >>> ((4 : Int32).toUInt32 &&& Int32.toUInt32 31)).toInt32)) &&& 252645135) + (((((((v0 - (((v0.toUInt32 >>> ((1 : Int32).toUInt32 &&& Int32.toUInt32 31)).toInt32) &&& 1431655765)) &&& 858993459) + ((((v0 - (((v0.toUInt32 >>> ((1 : Int32).toUInt32 &&& Int32.toUInt32 31)).toInt32) &&& 1431655765)).toUInt32 >>> ((2 : Int32).toUInt32 &&& Int32.toUInt32 31)).toInt32) &&& 858993459)) + (((((v0 - (((v0.toUInt32 >>> ((1 : Int32).toUInt32 &&& Int32.toUInt32 31)).toInt32) &&& 1431655765)) &&& 858993459) + ((((v0 - (((v0.toUInt32 >>> ((1 : Int32).toUInt32 &&& Int32.toUInt32 31)).toInt32) &&& 1431655765)).toUInt32 >>> ((2 : Int32).toUInt32 &&& Int32.toUInt32 31)).toInt32) &&& 858993459)).toUInt32 >>> ((4 : Int32).toUInt32 &&& Int32.toUInt32 31)).toInt32)) &&& 252645135).toUInt32 >>> ((8 : Int32).toUInt32 &&& Int32.toUInt32 31)).toInt32)).toUInt32 >>> ((16 : Int32).toUInt32 &&& Int32.toUInt32 31)).toInt32)))]) hx hb dJ6_bitCount_0f7a4_47 rfl hl (by decide) rfl (fun ls hl => ?_)
  refine lv_iload_n hx hb dJ6_bitCount_0f7a4_48 rfl (lv_at hl 0 rfl) ?_
  refine lv_bipush (v := 63) hx hb dJ6_bitCount_0f7a4_49 (by decide) ?_
  refine lv_iand hx hb dJ6_bitCount_0f7a4_51 ?_
  exact g_iret hx hb hr hlk hP hS dJ6_bitCount_0f7a4_52 hf
def fJ6_bitCount_0f7a4 (n : Nat)  (a0 : Int32) (st : St) : Option (Int32 × St) := fJ6_bitCount_0f7a4_s0 n a0 st
theorem okJ6_bitCount_0f7a4 : okY yJ6_bitCount_0f7a4 RJ6 1 := by unfold okY; decide +kernel
end
set_option maxRecDepth 100000 in
theorem kJ6_bitCount_0f7a4 (l : Launch) (D : va_G) (G : G3) (ad : Nat → Nat) (had : Adr ad) (n : Nat)   (a0 : Int32) (st : St) (res : (Int32 × St)) (hf : fJ6_bitCount_0f7a4 n  a0 st = some res) {sz : Nat} : CtI l yJ6_bitCount_0f7a4 (wsU yJ6_bitCount_0f7a4 cJ6_bitCount_0f7a4 1 (some .int)) (rmK 0) D G ad sz [.int a0] st res := by
  refine Met.ofW (cc := cJ6_bitCount_0f7a4) (maxL := 1) (ret := (some .int)) (by decide) rfl ?_
  intro p e s m args below meth c s₁ B hml hv
  obtain ⟨rfl, hsz, hP, hK, hSt⟩ := hv
  have hts := atoms_spec (ws := wsU yJ6_bitCount_0f7a4 cJ6_bitCount_0f7a4 1 (some .int)) B.pre
  have C : Cx p s m _ meth c cJ6_bitCount_0f7a4 1 wsL_law RJ6 (some .int) D G ad := ⟨B.exec, B.bytes, hml, findClass_of_methodNamed B.named, fun w h => hts w (List.mem_cons_of_mem _ h), B.returns, B.notSynchronized, hK, had, hSt⟩
  subst hsz
  have hl := lv_entry ([.int a0]) (n := 1) (Nat.le_of_ble_eq_true rfl)
  rw [lg_entry_eq]
  generalize (lg_sl ([.int a0]) ++ List.replicate (1 - (lg_sl ([.int a0])).length) Slot.unset).toArray = ls at hl ⊢
  exact wJ6_bitCount_0f7a4_s0 C n  a0   st res hf s.heap [] ls (lv_sub hl [0] rfl) hP va_S.rf
section
variable {p : Program} {l : Launch} {e : Env} {s : State} {m : MethodId} {args : Array Value} {below : List Frame} {meth : Method} {c : Code} {D : va_G} {G : G3} {ad : Nat → Nat}
def fX10_lookAhead_s110 (n : Nat)    (st : St) : Option (Unit × St) := some ((), st)
set_option maxHeartbeats 4000000 in
set_option maxRecDepth 100000 in
theorem wX10_lookAhead_s110 (C : Cx p s m args meth c cX10_lookAhead 8 wsL_law RX10 none D G ad) (n : Nat)      (st : St) (res : (Unit × St))  (hf : fX10_lookAhead_s110 n    st = some res) : At p l e (rmK 5) s m args below meth c D G ad (MQV D G ad below args s res) 8 st [] 110 [] := by
  obtain ⟨hx, hb, hml, hown, hts, hr, hlk, hK, had, hSt⟩ := id C
  intro H locs ls hl hP hS
  unfold fX10_lookAhead_s110 at hf
  exact g_vret hx hb hr hlk hP hS dX10_lookAhead_110 hf
def fX10_lookAhead_s103 (n : Nat)   (v1 : Int32) (st : St) : Option (Unit × St) := if inb v1 8 = true then (fX10_lookAhead_s110 n (setI st 51 v1.toNatClampNeg 0)) else none
set_option maxHeartbeats 4000000 in
set_option maxRecDepth 100000 in
theorem wX10_lookAhead_s103 (C : Cx p s m args meth c cX10_lookAhead 8 wsL_law RX10 none D G ad) (n : Nat)   (v1 : Int32)   (st : St) (res : (Unit × St))  (hf : fX10_lookAhead_s103 n   v1 st = some res) : At p l e (rmK 5) s m args below meth c D G ad (MQV D G ad below args s res) 8 st [(0, .ref (ad 0)), (1, .int v1)] 103 [] := by
  obtain ⟨hx, hb, hml, hown, hts, hr, hlk, hK, had, hSt⟩ := id C
  intro H locs ls hl hP hS
  unfold fX10_lookAhead_s103 at hf
  refine lv_aload_n hx hb dX10_lookAhead_103 rfl (lv_at hl 0 rfl) ?_
  refine g_getR hx hb hts inlX10 hown hK hP 0 ct_0 rfl 13 (by decide) (hts _ wm_3_10) rfl dX10_lookAhead_104 ?_
  refine lv_iload_n hx hb dX10_lookAhead_107 rfl (lv_at hl 1 rfl) ?_
  refine lv_iconst (v := 0) hx hb dX10_lookAhead_108 (by decide) ?_
  obtain ⟨g1, hf⟩ := gd hf
  refine g_iast hx hb hK had hP hS 51 ct_51 g1 dX10_lookAhead_109 (fun H locs hP hS => ?_)
  exact wX10_lookAhead_s110 C n (setI st 51 v1.toNatClampNeg 0) res hf H locs ls (lv_sub hl [] rfl) hP hS
def fX10_lookAhead_s96 (n : Nat) (K20 : Int32 → Int32 → Int32 → Int32 → Int32 → Int32 → St → Option (Unit × St))  (v1 : Int32) (v2 : Int32) (v3 : Int32) (v4 : Int32) (v5 : Int32) (v7 : Int32) (k0 : Int32) (st : St) : Option (Unit × St) := K20 v1 v2 v3 v4 v5 (v7 + 1) st
set_option maxHeartbeats 4000000 in
set_option maxRecDepth 100000 in
theorem wX10_lookAhead_s96 (C : Cx p s m args meth c cX10_lookAhead 8 wsL_law RX10 none D G ad) (n : Nat) (K20 : Int32 → Int32 → Int32 → Int32 → Int32 → Int32 → St → Option (Unit × St))  (v1 : Int32) (v2 : Int32) (v3 : Int32) (v4 : Int32) (v5 : Int32) (v7 : Int32) (k0 : Int32)   (st : St) (res : (Unit × St)) (hK20 : ∀ (v1 : Int32) (v2 : Int32) (v3 : Int32) (v4 : Int32) (v5 : Int32) (v7 : Int32) (st : St), K20 v1 v2 v3 v4 v5 v7 st = some res → At p l e (rmK 5) s m args below meth c D G ad (MQV D G ad below args s res) 8 st [(0, .ref (ad 0)), (1, .int v1), (2, .int v2), (3, .int v3), (4, .int v4), (5, .int v5), (7, .int v7)] 20 []) (hf : fX10_lookAhead_s96 n K20  v1 v2 v3 v4 v5 v7 k0 st = some res) : At p l e (rmK 5) s m args below meth c D G ad (MQV D G ad below args s res) 8 st [(0, .ref (ad 0)), (1, .int v1), (2, .int v2), (3, .int v3), (4, .int v4), (5, .int v5), (7, .int v7)] 96 [.int k0] := by
  obtain ⟨hx, hb, hml, hown, hts, hr, hlk, hK, had, hSt⟩ := id C
  intro H locs ls hl hP hS
  unfold fX10_lookAhead_s96 at hf
  refine lv_pop hx hb dX10_lookAhead_96 rfl ?_
  refine lv_iinc (v := v7 + 1) (lv' := [(7, .int (v7 + 1)), (0, .ref (ad 0)), (1, .int v1), (2, .int v2), (3, .int v3), (4, .int v4), (5, .int v5)]) hx hb dX10_lookAhead_97 hl (k := 6) rfl rfl (by decide) rfl (fun ls hl => ?_)
  refine lv_goto (tgt := 20) hx hb dX10_lookAhead_100 (by decide) ?_
  exact hK20 v1 v2 v3 v4 v5 (v7 + 1)  st hf H locs ls (lv_sub hl [1, 2, 3, 4, 5, 6, 0] rfl) hP hS
def fX10_lookAhead_s68 (n : Nat) (K20 : Int32 → Int32 → Int32 → Int32 → Int32 → Int32 → St → Option (Unit × St))  (v1 : Int32) (v2 : Int32) (v3 : Int32) (v4 : Int32) (v5 : Int32) (v7 : Int32) (st : St) : Option (Unit × St) := if inb (v7 + 1) 7 = true then ((fX1_pass n (53 + 11 * (v7 + 1).toNatClampNeg) 51 st).bind (fun q => fX10_lookAhead_s96 n K20 v1 v2 v3 v4 v5 v7 q.1 q.2)) else none
set_option maxHeartbeats 4000000 in
set_option maxRecDepth 100000 in
theorem wX10_lookAhead_s68 (C : Cx p s m args meth c cX10_lookAhead 8 wsL_law RX10 none D G ad) (n : Nat) (K20 : Int32 → Int32 → Int32 → Int32 → Int32 → Int32 → St → Option (Unit × St))  (v1 : Int32) (v2 : Int32) (v3 : Int32) (v4 : Int32) (v5 : Int32) (v7 : Int32)   (st : St) (res : (Unit × St)) (hK20 : ∀ (v1 : Int32) (v2 : Int32) (v3 : Int32) (v4 : Int32) (v5 : Int32) (v7 : Int32) (st : St), K20 v1 v2 v3 v4 v5 v7 st = some res → At p l e (rmK 5) s m args below meth c D G ad (MQV D G ad below args s res) 8 st [(0, .ref (ad 0)), (1, .int v1), (2, .int v2), (3, .int v3), (4, .int v4), (5, .int v5), (7, .int v7)] 20 []) (hf : fX10_lookAhead_s68 n K20  v1 v2 v3 v4 v5 v7 st = some res) : At p l e (rmK 5) s m args below meth c D G ad (MQV D G ad below args s res) 8 st [(0, .ref (ad 0)), (1, .int v1), (2, .int v2), (3, .int v3), (4, .int v4), (5, .int v5), (7, .int v7)] 68 [] := by
  obtain ⟨hx, hb, hml, hown, hts, hr, hlk, hK, had, hSt⟩ := id C
  intro H locs ls hl hP hS
  unfold fX10_lookAhead_s68 at hf
  refine lv_aload_n hx hb dX10_lookAhead_68 rfl (lv_at hl 0 rfl) ?_
  refine g_getR hx hb hts inlX10 hown hK hP 0 ct_0 rfl 10 (by decide) (hts _ wm_3_4) rfl dX10_lookAhead_69 ?_
  refine lv_iload hx hb dX10_lookAhead_72 (lv_at hl 6 rfl) ?_
  refine lv_iconst (v := 1) hx hb dX10_lookAhead_74 (by decide) ?_
  refine lv_iadd hx hb dX10_lookAhead_75 ?_
  obtain ⟨g1, hf⟩ := gd hf
  refine g_aald hx hb hK hP 49 ct_49 g1 dX10_lookAhead_76 ?_
  refine lv_aload_n hx hb dX10_lookAhead_77 rfl (lv_at hl 0 rfl) ?_
  refine g_getR hx hb hts inlX10 hown hK hP 0 ct_0 rfl 0 (by decide) (hts _ wm_1_16) rfl dX10_lookAhead_78 ?_
  refine lv_aload_n hx hb dX10_lookAhead_81 rfl (lv_at hl 0 rfl) ?_
  refine g_getR hx hb hts inlX10 hown hK hP 0 ct_0 rfl 1 (by decide) (hts _ wm_1_20) rfl dX10_lookAhead_82 ?_
  refine lv_aload_n hx hb dX10_lookAhead_85 rfl (lv_at hl 0 rfl) ?_
  refine g_getR hx hb hts inlX10 hown hK hP 0 ct_0 rfl 3 (by decide) (hts _ wm_2_4) rfl dX10_lookAhead_86 ?_
  refine lv_aload_n hx hb dX10_lookAhead_89 rfl (lv_at hl 0 rfl) ?_
  refine g_getR hx hb hts inlX10 hown hK hP 0 ct_0 rfl 13 (by decide) (hts _ wm_3_10) rfl dX10_lookAhead_90 ?_
  obtain ⟨q, hq, hf⟩ := bd hf
  refine gcV_i (k := 4) (o := (53 + 11 * (v7 + 1).toNatClampNeg)) (As := [.ref (ad 1), .ref (ad 11), .ref (ad 18), .ref (ad 51)]) (rest := []) hx hb hml hown hts hK hSt hP hS hl.1 (goodV wm_17_13 wm_17_14 wm_17_15 wm_3_6 wm_17_16) okX1_pass (fl_0 (isFl_of g1)) rfl rfl (Nat.le_of_ble_eq_true rfl) (Nat.le_of_ble_eq_true rfl) rfl rfl (Nat.le_of_ble_eq_true rfl) dX10_lookAhead_93 (kX1_pass l D G ad had n (53 + 11 * (v7 + 1).toNatClampNeg) 51 (isFl_of g1) ct_51  st q hq) (fun H locs hP hS => ?_)
  exact wX10_lookAhead_s96 C n K20 v1 v2 v3 v4 v5 v7 q.1 q.2 res hK20 hf H locs ls (lv_sub hl [0, 1, 2, 3, 4, 5, 6] rfl) hP hS
def fX10_lookAhead_s67 (n : Nat) (K20 : Int32 → Int32 → Int32 → Int32 → Int32 → Int32 → St → Option (Unit × St))  (v1 : Int32) (v2 : Int32) (v3 : Int32) (v4 : Int32) (v5 : Int32) (v7 : Int32) (k1 : Int32) (k2 : Int32) (st : St) : Option (Unit × St) := if inb k1 8 = true then (fX10_lookAhead_s68 n K20 v1 v2 v3 v4 v5 v7 (setI st 51 k1.toNatClampNeg k2)) else none
set_option maxHeartbeats 4000000 in
set_option maxRecDepth 100000 in
theorem wX10_lookAhead_s67 (C : Cx p s m args meth c cX10_lookAhead 8 wsL_law RX10 none D G ad) (n : Nat) (K20 : Int32 → Int32 → Int32 → Int32 → Int32 → Int32 → St → Option (Unit × St))  (v1 : Int32) (v2 : Int32) (v3 : Int32) (v4 : Int32) (v5 : Int32) (v7 : Int32) (k1 : Int32) (k2 : Int32)   (st : St) (res : (Unit × St)) (hK20 : ∀ (v1 : Int32) (v2 : Int32) (v3 : Int32) (v4 : Int32) (v5 : Int32) (v7 : Int32) (st : St), K20 v1 v2 v3 v4 v5 v7 st = some res → At p l e (rmK 5) s m args below meth c D G ad (MQV D G ad below args s res) 8 st [(0, .ref (ad 0)), (1, .int v1), (2, .int v2), (3, .int v3), (4, .int v4), (5, .int v5), (7, .int v7)] 20 []) (hf : fX10_lookAhead_s67 n K20  v1 v2 v3 v4 v5 v7 k1 k2 st = some res) : At p l e (rmK 5) s m args below meth c D G ad (MQV D G ad below args s res) 8 st [(0, .ref (ad 0)), (1, .int v1), (2, .int v2), (3, .int v3), (4, .int v4), (5, .int v5), (7, .int v7)] 67 [.int k2, .int k1, .ref (ad 51)] := by
  obtain ⟨hx, hb, hml, hown, hts, hr, hlk, hK, had, hSt⟩ := id C
  intro H locs ls hl hP hS
  unfold fX10_lookAhead_s67 at hf
  obtain ⟨g1, hf⟩ := gd hf
  refine g_iast hx hb hK had hP hS 51 ct_51 g1 dX10_lookAhead_67 (fun H locs hP hS => ?_)
  exact wX10_lookAhead_s68 C n K20 v1 v2 v3 v4 v5 v7 (setI st 51 k1.toNatClampNeg k2) res hK20 hf H locs ls (lv_sub hl [0, 1, 2, 3, 4, 5, 6] rfl) hP hS
def fX10_lookAhead_s65 (n : Nat) (K20 : Int32 → Int32 → Int32 → Int32 → Int32 → Int32 → St → Option (Unit × St))  (v1 : Int32) (v2 : Int32) (v3 : Int32) (v4 : Int32) (v5 : Int32) (v7 : Int32) (k1 : Int32) (st : St) : Option (Unit × St) := fX10_lookAhead_s67 n K20 v1 v2 v3 v4 v5 v7 k1 v4 st
set_option maxHeartbeats 4000000 in
set_option maxRecDepth 100000 in
theorem wX10_lookAhead_s65 (C : Cx p s m args meth c cX10_lookAhead 8 wsL_law RX10 none D G ad) (n : Nat) (K20 : Int32 → Int32 → Int32 → Int32 → Int32 → Int32 → St → Option (Unit × St))  (v1 : Int32) (v2 : Int32) (v3 : Int32) (v4 : Int32) (v5 : Int32) (v7 : Int32) (k1 : Int32)   (st : St) (res : (Unit × St)) (hK20 : ∀ (v1 : Int32) (v2 : Int32) (v3 : Int32) (v4 : Int32) (v5 : Int32) (v7 : Int32) (st : St), K20 v1 v2 v3 v4 v5 v7 st = some res → At p l e (rmK 5) s m args below meth c D G ad (MQV D G ad below args s res) 8 st [(0, .ref (ad 0)), (1, .int v1), (2, .int v2), (3, .int v3), (4, .int v4), (5, .int v5), (7, .int v7)] 20 []) (hf : fX10_lookAhead_s65 n K20  v1 v2 v3 v4 v5 v7 k1 st = some res) : At p l e (rmK 5) s m args below meth c D G ad (MQV D G ad below args s res) 8 st [(0, .ref (ad 0)), (1, .int v1), (2, .int v2), (3, .int v3), (4, .int v4), (5, .int v5), (7, .int v7)] 65 [.int k1, .ref (ad 51)] := by
  obtain ⟨hx, hb, hml, hown, hts, hr, hlk, hK, had, hSt⟩ := id C
  intro H locs ls hl hP hS
  unfold fX10_lookAhead_s65 at hf
  refine lv_iload hx hb dX10_lookAhead_65 (lv_at hl 4 rfl) ?_
  exact wX10_lookAhead_s67 C n K20 v1 v2 v3 v4 v5 v7 k1 v4 st res hK20 hf H locs ls (lv_sub hl [0, 1, 2, 3, 4, 5, 6] rfl) hP hS
def fX10_lookAhead_s60 (n : Nat) (K20 : Int32 → Int32 → Int32 → Int32 → Int32 → Int32 → St → Option (Unit × St))  (v1 : Int32) (v2 : Int32) (v3 : Int32) (v4 : Int32) (v5 : Int32) (v7 : Int32) (k1 : Int32) (st : St) : Option (Unit × St) := fX10_lookAhead_s67 n K20 v1 v2 v3 v4 v5 v7 k1 v5 st
set_option maxHeartbeats 4000000 in
set_option maxRecDepth 100000 in
theorem wX10_lookAhead_s60 (C : Cx p s m args meth c cX10_lookAhead 8 wsL_law RX10 none D G ad) (n : Nat) (K20 : Int32 → Int32 → Int32 → Int32 → Int32 → Int32 → St → Option (Unit × St))  (v1 : Int32) (v2 : Int32) (v3 : Int32) (v4 : Int32) (v5 : Int32) (v7 : Int32) (k1 : Int32)   (st : St) (res : (Unit × St)) (hK20 : ∀ (v1 : Int32) (v2 : Int32) (v3 : Int32) (v4 : Int32) (v5 : Int32) (v7 : Int32) (st : St), K20 v1 v2 v3 v4 v5 v7 st = some res → At p l e (rmK 5) s m args below meth c D G ad (MQV D G ad below args s res) 8 st [(0, .ref (ad 0)), (1, .int v1), (2, .int v2), (3, .int v3), (4, .int v4), (5, .int v5), (7, .int v7)] 20 []) (hf : fX10_lookAhead_s60 n K20  v1 v2 v3 v4 v5 v7 k1 st = some res) : At p l e (rmK 5) s m args below meth c D G ad (MQV D G ad below args s res) 8 st [(0, .ref (ad 0)), (1, .int v1), (2, .int v2), (3, .int v3), (4, .int v4), (5, .int v5), (7, .int v7)] 60 [.int k1, .ref (ad 51)] := by
  obtain ⟨hx, hb, hml, hown, hts, hr, hlk, hK, had, hSt⟩ := id C
  intro H locs ls hl hP hS
  unfold fX10_lookAhead_s60 at hf
  refine lv_iload hx hb dX10_lookAhead_60 (lv_at hl 5 rfl) ?_
  refine lv_goto (tgt := 67) hx hb dX10_lookAhead_62 (by decide) ?_
  exact wX10_lookAhead_s67 C n K20 v1 v2 v3 v4 v5 v7 k1 v5 st res hK20 hf H locs ls (lv_sub hl [0, 1, 2, 3, 4, 5, 6] rfl) hP hS
def fX10_lookAhead_s57 (n : Nat) (K20 : Int32 → Int32 → Int32 → Int32 → Int32 → Int32 → St → Option (Unit × St))  (v1 : Int32) (v2 : Int32) (v3 : Int32) (v4 : Int32) (v5 : Int32) (v7 : Int32) (k1 : Int32) (k2 : Int32) (st : St) : Option (Unit × St) := if k2 = 0 then fX10_lookAhead_s65 n K20 v1 v2 v3 v4 v5 v7 k1 st else fX10_lookAhead_s60 n K20 v1 v2 v3 v4 v5 v7 k1 st
set_option maxHeartbeats 4000000 in
set_option maxRecDepth 100000 in
theorem wX10_lookAhead_s57 (C : Cx p s m args meth c cX10_lookAhead 8 wsL_law RX10 none D G ad) (n : Nat) (K20 : Int32 → Int32 → Int32 → Int32 → Int32 → Int32 → St → Option (Unit × St))  (v1 : Int32) (v2 : Int32) (v3 : Int32) (v4 : Int32) (v5 : Int32) (v7 : Int32) (k1 : Int32) (k2 : Int32)   (st : St) (res : (Unit × St)) (hK20 : ∀ (v1 : Int32) (v2 : Int32) (v3 : Int32) (v4 : Int32) (v5 : Int32) (v7 : Int32) (st : St), K20 v1 v2 v3 v4 v5 v7 st = some res → At p l e (rmK 5) s m args below meth c D G ad (MQV D G ad below args s res) 8 st [(0, .ref (ad 0)), (1, .int v1), (2, .int v2), (3, .int v3), (4, .int v4), (5, .int v5), (7, .int v7)] 20 []) (hf : fX10_lookAhead_s57 n K20  v1 v2 v3 v4 v5 v7 k1 k2 st = some res) : At p l e (rmK 5) s m args below meth c D G ad (MQV D G ad below args s res) 8 st [(0, .ref (ad 0)), (1, .int v1), (2, .int v2), (3, .int v3), (4, .int v4), (5, .int v5), (7, .int v7)] 57 [.int k2, .int k1, .ref (ad 51)] := by
  obtain ⟨hx, hb, hml, hown, hts, hr, hlk, hK, had, hSt⟩ := id C
  intro H locs ls hl hP hS
  unfold fX10_lookAhead_s57 at hf
  refine lv_if_eq (tgt := 65) hx hb dX10_lookAhead_57 (by decide) (fun q => ?_) (fun q => ?_)
  · exact wX10_lookAhead_s65 C n K20 v1 v2 v3 v4 v5 v7 k1 st res hK20 (it hf q) H locs ls (lv_sub hl [0, 1, 2, 3, 4, 5, 6] rfl) hP hS
  · exact wX10_lookAhead_s60 C n K20 v1 v2 v3 v4 v5 v7 k1 st res hK20 (ie hf q) H locs ls (lv_sub hl [0, 1, 2, 3, 4, 5, 6] rfl) hP hS
def fX10_lookAhead_s45 (n : Nat) (K20 : Int32 → Int32 → Int32 → Int32 → Int32 → Int32 → St → Option (Unit × St))  (v1 : Int32) (v2 : Int32) (v3 : Int32) (v4 : Int32) (v5 : Int32) (v7 : Int32) (st : St) : Option (Unit × St) := (fX10_isHigh n v2 v7 v3 st).bind (fun q => fX10_lookAhead_s57 n K20 v1 v2 v3 v4 v5 v7 v1 q.1 q.2)
set_option maxHeartbeats 4000000 in
set_option maxRecDepth 100000 in
theorem wX10_lookAhead_s45 (C : Cx p s m args meth c cX10_lookAhead 8 wsL_law RX10 none D G ad) (n : Nat) (K20 : Int32 → Int32 → Int32 → Int32 → Int32 → Int32 → St → Option (Unit × St))  (v1 : Int32) (v2 : Int32) (v3 : Int32) (v4 : Int32) (v5 : Int32) (v7 : Int32)   (st : St) (res : (Unit × St)) (hK20 : ∀ (v1 : Int32) (v2 : Int32) (v3 : Int32) (v4 : Int32) (v5 : Int32) (v7 : Int32) (st : St), K20 v1 v2 v3 v4 v5 v7 st = some res → At p l e (rmK 5) s m args below meth c D G ad (MQV D G ad below args s res) 8 st [(0, .ref (ad 0)), (1, .int v1), (2, .int v2), (3, .int v3), (4, .int v4), (5, .int v5), (7, .int v7)] 20 []) (hf : fX10_lookAhead_s45 n K20  v1 v2 v3 v4 v5 v7 st = some res) : At p l e (rmK 5) s m args below meth c D G ad (MQV D G ad below args s res) 8 st [(0, .ref (ad 0)), (1, .int v1), (2, .int v2), (3, .int v3), (4, .int v4), (5, .int v5), (7, .int v7)] 45 [] := by
  obtain ⟨hx, hb, hml, hown, hts, hr, hlk, hK, had, hSt⟩ := id C
  intro H locs ls hl hP hS
  unfold fX10_lookAhead_s45 at hf
  refine lv_aload_n hx hb dX10_lookAhead_45 rfl (lv_at hl 0 rfl) ?_
  refine g_getR hx hb hts inlX10 hown hK hP 0 ct_0 rfl 13 (by decide) (hts _ wm_3_10) rfl dX10_lookAhead_46 ?_
  refine lv_iload_n hx hb dX10_lookAhead_49 rfl (lv_at hl 1 rfl) ?_
  refine lv_iload_n hx hb dX10_lookAhead_50 rfl (lv_at hl 2 rfl) ?_
  refine lv_iload hx hb dX10_lookAhead_51 (lv_at hl 6 rfl) ?_
  refine lv_iload_n hx hb dX10_lookAhead_53 rfl (lv_at hl 3 rfl) ?_
  obtain ⟨q, hq, hf⟩ := bd hf
  refine gcS_i (k := 0) (As := [.int v2, .int v7, .int v3]) (rest := [.int v1, .ref (ad 51)]) hx hb hml hown hts hK hSt hP hS hl.1 (goodS wm_45_11 wm_45_12 wm_1_2 wm_45_13) okX10_isHigh (Nat.le_of_ble_eq_true rfl) (Nat.le_of_ble_eq_true rfl) rfl rfl (Nat.le_of_ble_eq_true rfl) dX10_lookAhead_54 (kX10_isHigh l D G ad had n  v2 v7 v3 st q hq) (fun H locs hP hS => ?_)
  exact wX10_lookAhead_s57 C n K20 v1 v2 v3 v4 v5 v7 v1 q.1 q.2 res hK20 hf H locs ls (lv_sub hl [0, 1, 2, 3, 4, 5, 6] rfl) hP hS
def fX10_lookAhead_s26 (n : Nat) (K20 : Int32 → Int32 → Int32 → Int32 → Int32 → Int32 → St → Option (Unit × St))  (v1 : Int32) (v2 : Int32) (v3 : Int32) (v4 : Int32) (v5 : Int32) (v7 : Int32) (st : St) : Option (Unit × St) := if inb (v7 + 1) 7 = true then (if inb v7 7 = true then ((fX1_copy n (53 + 11 * (v7 + 1).toNatClampNeg) (53 + 11 * v7.toNatClampNeg) st).bind (fun q => fX10_lookAhead_s45 n K20 v1 v2 v3 v4 v5 v7 q.2)) else none) else none
set_option maxHeartbeats 4000000 in
set_option maxRecDepth 100000 in
theorem wX10_lookAhead_s26 (C : Cx p s m args meth c cX10_lookAhead 8 wsL_law RX10 none D G ad) (n : Nat) (K20 : Int32 → Int32 → Int32 → Int32 → Int32 → Int32 → St → Option (Unit × St))  (v1 : Int32) (v2 : Int32) (v3 : Int32) (v4 : Int32) (v5 : Int32) (v7 : Int32)   (st : St) (res : (Unit × St)) (hK20 : ∀ (v1 : Int32) (v2 : Int32) (v3 : Int32) (v4 : Int32) (v5 : Int32) (v7 : Int32) (st : St), K20 v1 v2 v3 v4 v5 v7 st = some res → At p l e (rmK 5) s m args below meth c D G ad (MQV D G ad below args s res) 8 st [(0, .ref (ad 0)), (1, .int v1), (2, .int v2), (3, .int v3), (4, .int v4), (5, .int v5), (7, .int v7)] 20 []) (hf : fX10_lookAhead_s26 n K20  v1 v2 v3 v4 v5 v7 st = some res) : At p l e (rmK 5) s m args below meth c D G ad (MQV D G ad below args s res) 8 st [(0, .ref (ad 0)), (1, .int v1), (2, .int v2), (3, .int v3), (4, .int v4), (5, .int v5), (7, .int v7)] 26 [] := by
  obtain ⟨hx, hb, hml, hown, hts, hr, hlk, hK, had, hSt⟩ := id C
  intro H locs ls hl hP hS
  unfold fX10_lookAhead_s26 at hf
  refine lv_aload_n hx hb dX10_lookAhead_26 rfl (lv_at hl 0 rfl) ?_
  refine g_getR hx hb hts inlX10 hown hK hP 0 ct_0 rfl 10 (by decide) (hts _ wm_3_4) rfl dX10_lookAhead_27 ?_
  refine lv_iload hx hb dX10_lookAhead_30 (lv_at hl 6 rfl) ?_
  refine lv_iconst (v := 1) hx hb dX10_lookAhead_32 (by decide) ?_
  refine lv_iadd hx hb dX10_lookAhead_33 ?_
  obtain ⟨g1, hf⟩ := gd hf
  refine g_aald hx hb hK hP 49 ct_49 g1 dX10_lookAhead_34 ?_
  refine lv_aload_n hx hb dX10_lookAhead_35 rfl (lv_at hl 0 rfl) ?_
  refine g_getR hx hb hts inlX10 hown hK hP 0 ct_0 rfl 10 (by decide) (hts _ wm_3_4) rfl dX10_lookAhead_36 ?_
  refine lv_iload hx hb dX10_lookAhead_39 (lv_at hl 6 rfl) ?_
  obtain ⟨g2, hf⟩ := gd hf
  refine g_aald hx hb hK hP 49 ct_49 g2 dX10_lookAhead_41 ?_
  obtain ⟨q, hq, hf⟩ := bd hf
  refine gcV_v (k := 1) (o := (53 + 11 * (v7 + 1).toNatClampNeg)) (As := [.ref (ad (53 + 11 * v7.toNatClampNeg))]) (rest := []) hx hb hml hown hts hK hSt hP hS hl.1 (goodV wm_45_7 wm_45_8 wm_45_9 wm_3_6 wm_45_10) okX1_copy (fl_0 (isFl_of g1)) rfl rfl (Nat.le_of_ble_eq_true rfl) (Nat.le_of_ble_eq_true rfl) rfl rfl (Nat.le_of_ble_eq_true rfl) dX10_lookAhead_42 (kX1_copy l D G ad had n (53 + 11 * (v7 + 1).toNatClampNeg) (53 + 11 * v7.toNatClampNeg) (isFl_of g1) (isFl_of g2)  st q hq) (fun H locs hP hS => ?_)
  exact wX10_lookAhead_s45 C n K20 v1 v2 v3 v4 v5 v7 q.2 res hK20 hf H locs ls (lv_sub hl [0, 1, 2, 3, 4, 5, 6] rfl) hP hS
def fX10_lookAhead_s20 (n : Nat) (K20 : Int32 → Int32 → Int32 → Int32 → Int32 → Int32 → St → Option (Unit × St))  (v1 : Int32) (v2 : Int32) (v3 : Int32) (v4 : Int32) (v5 : Int32) (v7 : Int32) (st : St) : Option (Unit × St) := if v3 ≤ v7 then fX10_lookAhead_s103 n v1 st else fX10_lookAhead_s26 n K20 v1 v2 v3 v4 v5 v7 st
set_option maxHeartbeats 4000000 in
set_option maxRecDepth 100000 in
theorem wX10_lookAhead_s20 (C : Cx p s m args meth c cX10_lookAhead 8 wsL_law RX10 none D G ad) (n : Nat) (K20 : Int32 → Int32 → Int32 → Int32 → Int32 → Int32 → St → Option (Unit × St))  (v1 : Int32) (v2 : Int32) (v3 : Int32) (v4 : Int32) (v5 : Int32) (v7 : Int32)   (st : St) (res : (Unit × St)) (hK20 : ∀ (v1 : Int32) (v2 : Int32) (v3 : Int32) (v4 : Int32) (v5 : Int32) (v7 : Int32) (st : St), K20 v1 v2 v3 v4 v5 v7 st = some res → At p l e (rmK 5) s m args below meth c D G ad (MQV D G ad below args s res) 8 st [(0, .ref (ad 0)), (1, .int v1), (2, .int v2), (3, .int v3), (4, .int v4), (5, .int v5), (7, .int v7)] 20 []) (hf : fX10_lookAhead_s20 n K20  v1 v2 v3 v4 v5 v7 st = some res) : At p l e (rmK 5) s m args below meth c D G ad (MQV D G ad below args s res) 8 st [(0, .ref (ad 0)), (1, .int v1), (2, .int v2), (3, .int v3), (4, .int v4), (5, .int v5), (7, .int v7)] 20 [] := by
  obtain ⟨hx, hb, hml, hown, hts, hr, hlk, hK, had, hSt⟩ := id C
  intro H locs ls hl hP hS
  unfold fX10_lookAhead_s20 at hf
  refine lv_iload hx hb dX10_lookAhead_20 (lv_at hl 6 rfl) ?_
  refine lv_iload_n hx hb dX10_lookAhead_22 rfl (lv_at hl 3 rfl) ?_
  refine lv_icmp_ge (tgt := 103) hx hb dX10_lookAhead_23 (by decide) (fun q => ?_) (fun q => ?_)
  · exact wX10_lookAhead_s103 C n v1 st res (it hf q) H locs ls (lv_sub hl [0, 1] rfl) hP hS
  · exact wX10_lookAhead_s26 C n K20 v1 v2 v3 v4 v5 v7 st res hK20 (ie hf q) H locs ls (lv_sub hl [0, 1, 2, 3, 4, 5, 6] rfl) hP hS
def fX10_lookAhead_L20 (n : Nat)   : Nat → Int32 → Int32 → Int32 → Int32 → Int32 → Int32 → St → Option (Unit × St)
  | 0, _, _, _, _, _, _, _ => none
  | k + 1, v1, v2, v3, v4, v5, v7, st => fX10_lookAhead_s20 n (fX10_lookAhead_L20 n k)  v1 v2 v3 v4 v5 v7 st
theorem wX10_lookAhead_L20 (C : Cx p s m args meth c cX10_lookAhead 8 wsL_law RX10 none D G ad) (n : Nat)    (res : (Unit × St))  : ∀ (k : Nat) (v1 : Int32) (v2 : Int32) (v3 : Int32) (v4 : Int32) (v5 : Int32) (v7 : Int32)  (st : St), fX10_lookAhead_L20 n k v1 v2 v3 v4 v5 v7 st = some res → At p l e (rmK 5) s m args below meth c D G ad (MQV D G ad below args s res) 8 st [(0, .ref (ad 0)), (1, .int v1), (2, .int v2), (3, .int v3), (4, .int v4), (5, .int v5), (7, .int v7)] 20 [] := by
  intro k
  induction k with
  | zero => intro v1 v2 v3 v4 v5 v7  st h; exact absurd h (by intro q; cases q)
  | succ k ih => intro v1 v2 v3 v4 v5 v7  st h; exact wX10_lookAhead_s20 C n (fX10_lookAhead_L20 n k)  v1 v2 v3 v4 v5 v7   st res ih h
def fX10_lookAhead_s10 (n : Nat)   (v1 : Int32) (v2 : Int32) (v3 : Int32) (v4 : Int32) (v5 : Int32) (k0 : Int32) (k1 : Int32) (k2 : Int32) (st : St) : Option (Unit × St) := fX10_lookAhead_L20 n n v1 v2 v3 v4 v5 (if k0 < (k1 - k2) then (k1 - k2) else k0) st
set_option maxHeartbeats 4000000 in
set_option maxRecDepth 100000 in
theorem wX10_lookAhead_s10 (C : Cx p s m args meth c cX10_lookAhead 8 wsL_law RX10 none D G ad) (n : Nat)   (v1 : Int32) (v2 : Int32) (v3 : Int32) (v4 : Int32) (v5 : Int32) (k0 : Int32) (k1 : Int32) (k2 : Int32)   (st : St) (res : (Unit × St))  (hf : fX10_lookAhead_s10 n   v1 v2 v3 v4 v5 k0 k1 k2 st = some res) : At p l e (rmK 5) s m args below meth c D G ad (MQV D G ad below args s res) 8 st [(0, .ref (ad 0)), (1, .int v1), (2, .int v2), (3, .int v3), (4, .int v4), (5, .int v5)] 10 [.int k2, .int k1, .int k0] := by
  obtain ⟨hx, hb, hml, hown, hts, hr, hlk, hK, had, hSt⟩ := id C
  intro H locs ls hl hP hS
  unfold fX10_lookAhead_s10 at hf
  refine lv_isub hx hb dX10_lookAhead_10 ?_
  refine va_mmax hx hb (hml.trans hl.1.symm) hown (hts _ wm_44_23) (hts _ wm_20_22) (hts _ wm_18_20) (hts _ wm_20_23) (Nat.le_of_ble_eq_true rfl) (Nat.le_of_ble_eq_true rfl) (Nat.zero_le _) (Nat.zero_le _) dX10_lookAhead_11 ?_
  refine lv_istore (lv' := [(6, .int (if k0 < (k1 - k2) then (k1 - k2) else k0)), (0, .ref (ad 0)), (1, .int v1), (2, .int v2), (3, .int v3), (4, .int v4), (5, .int v5)]) hx hb dX10_lookAhead_14 hl (by decide) rfl (fun ls hl => ?_)
  refine lv_iload hx hb dX10_lookAhead_16 (lv_at hl 0 rfl) ?_
  refine lv_istore (lv' := [(7, .int (if k0 < (k1 - k2) then (k1 - k2) else k0)), (6, .int (if k0 < (k1 - k2) then (k1 - k2) else k0)), (0, .ref (ad 0)), (1, .int v1), (2, .int v2), (3, .int v3), (4, .int v4), (5, .int v5)]) hx hb dX10_lookAhead_18 hl (by decide) rfl (fun ls hl => ?_)
  exact wX10_lookAhead_L20 C n res n v1 v2 v3 v4 v5 (if k0 < (k1 - k2) then (k1 - k2) else k0) st hf H locs ls (lv_sub hl [2, 3, 4, 5, 6, 7, 0] rfl) hP hS
def fX10_lookAhead_s0 (n : Nat)   (v1 : Int32) (v2 : Int32) (v3 : Int32) (v4 : Int32) (v5 : Int32) (st : St) : Option (Unit × St) := (fJ6_bitCount_0f7a4 n (v2 ^^^ (v2 - 1)) st).bind (fun q => fX10_lookAhead_s10 n v1 v2 v3 v4 v5 0 v3 q.1 q.2)
set_option maxHeartbeats 4000000 in
set_option maxRecDepth 100000 in
theorem wX10_lookAhead_s0 (C : Cx p s m args meth c cX10_lookAhead 8 wsL_law RX10 none D G ad) (n : Nat)   (v1 : Int32) (v2 : Int32) (v3 : Int32) (v4 : Int32) (v5 : Int32)   (st : St) (res : (Unit × St))  (hf : fX10_lookAhead_s0 n   v1 v2 v3 v4 v5 st = some res) : At p l e (rmK 5) s m args below meth c D G ad (MQV D G ad below args s res) 8 st [(0, .ref (ad 0)), (1, .int v1), (2, .int v2), (3, .int v3), (4, .int v4), (5, .int v5)] 0 [] := by
  obtain ⟨hx, hb, hml, hown, hts, hr, hlk, hK, had, hSt⟩ := id C
  intro H locs ls hl hP hS
  unfold fX10_lookAhead_s0 at hf
  refine lv_iconst (v := 0) hx hb dX10_lookAhead_0 (by decide) ?_
  refine lv_iload_n hx hb dX10_lookAhead_1 rfl (lv_at hl 3 rfl) ?_
  refine lv_iload_n hx hb dX10_lookAhead_2 rfl (lv_at hl 2 rfl) ?_
  refine lv_iload_n hx hb dX10_lookAhead_3 rfl (lv_at hl 2 rfl) ?_
  refine lv_iconst (v := 1) hx hb dX10_lookAhead_4 (by decide) ?_
  refine lv_isub hx hb dX10_lookAhead_5 ?_
  refine lv_ixor hx hb dX10_lookAhead_6 ?_
  obtain ⟨q, hq, hf⟩ := bd hf
  refine gcT_i (k := 0) (As := [.int (v2 ^^^ (v2 - 1))]) (rest := [.int v3, .int 0]) hx hb hml hown hts hK hSt hP hS hl.1 (goodU wm_45_3) wm_45_1 wm_45_2 wm_45_0 okJ6_bitCount_0f7a4 (Nat.le_of_ble_eq_true rfl) (Nat.le_of_ble_eq_true rfl) rfl rfl (Nat.le_of_ble_eq_true rfl) dX10_lookAhead_7 (kJ6_bitCount_0f7a4 l D G ad had n  (v2 ^^^ (v2 - 1)) st q hq) (fun H locs hP hS => ?_)
  exact wX10_lookAhead_s10 C n v1 v2 v3 v4 v5 0 v3 q.1 q.2 res hf H locs ls (lv_sub hl [0, 1, 2, 3, 4, 5] rfl) hP hS
def fX10_lookAhead (n : Nat)  (a1 : Int32) (a2 : Int32) (a3 : Int32) (a4 : Int32) (a5 : Int32) (st : St) : Option (Unit × St) := fX10_lookAhead_s0 n a1 a2 a3 a4 a5 st
theorem okX10_lookAhead : okY yX10_lookAhead RX10 5 := by unfold okY; decide +kernel
end
set_option maxRecDepth 100000 in
theorem kX10_lookAhead (l : Launch) (D : va_G) (G : G3) (ad : Nat → Nat) (had : Adr ad) (n : Nat)   (a1 : Int32) (a2 : Int32) (a3 : Int32) (a4 : Int32) (a5 : Int32) (st : St) (res : (Unit × St)) (hf : fX10_lookAhead n  a1 a2 a3 a4 a5 st = some res) {sz : Nat} : CtV l yX10_lookAhead (wsU yX10_lookAhead cX10_lookAhead 8 none) (rmK 5) D G ad sz [.ref (ad 0), .int a1, .int a2, .int a3, .int a4, .int a5] st res := by
  refine Met.ofW (cc := cX10_lookAhead) (maxL := 8) (ret := none) (by decide) rfl ?_
  intro p e s m args below meth c s₁ B hml hv
  obtain ⟨rfl, hsz, hP, hK, hSt⟩ := hv
  have hts := atoms_spec (ws := wsU yX10_lookAhead cX10_lookAhead 8 none) B.pre
  have C : Cx p s m _ meth c cX10_lookAhead 8 wsL_law RX10 none D G ad := ⟨B.exec, B.bytes, hml, findClass_of_methodNamed B.named, fun w h => hts w (List.mem_cons_of_mem _ h), B.returns, B.notSynchronized, hK, had, hSt⟩
  subst hsz
  have hl := lv_entry ([.ref (ad 0), .int a1, .int a2, .int a3, .int a4, .int a5]) (n := 8) (Nat.le_of_ble_eq_true rfl)
  rw [lg_entry_eq]
  generalize (lg_sl ([.ref (ad 0), .int a1, .int a2, .int a3, .int a4, .int a5]) ++ List.replicate (8 - (lg_sl ([.ref (ad 0), .int a1, .int a2, .int a3, .int a4, .int a5])).length) Slot.unset).toArray = ls at hl ⊢
  exact wX10_lookAhead_s0 C n  a1 a2 a3 a4 a5   st res hf s.heap [] ls (lv_sub hl [0, 1, 2, 3, 4, 5] rfl) hP va_S.rf
section
variable {p : Program} {l : Launch} {e : Env} {s : State} {m : MethodId} {args : Array Value} {below : List Frame} {meth : Method} {c : Code} {D : va_G} {G : G3} {ad : Nat → Nat}
def fX10_worst_s20 (n : Nat)    (st : St) : Option (Int64 × St) := some ((-1), st)
set_option maxHeartbeats 4000000 in
set_option maxRecDepth 100000 in
theorem wX10_worst_s20 (C : Cx p s m args meth c cX10_worst 12 wsL_law RX10 (some .long) D G ad) (n : Nat)      (st : St) (res : (Int64 × St))  (hf : fX10_worst_s20 n    st = some res) : At p l e (rmK 6) s m args below meth c D G ad (MQJ D G ad below args s res) 12 st [] 20 [] := by
  obtain ⟨hx, hb, hml, hown, hts, hr, hlk, hK, had, hSt⟩ := id C
  intro H locs ls hl hP hS
  unfold fX10_worst_s20 at hf
  refine lv_ldc2 hx hb hown (hts _ wm_44_15) dX10_worst_20 ?_
  exact g_lret hx hb hr hlk hP hS dX10_worst_23 hf
def fX10_worst_s59 (n : Nat)    (st : St) : Option (Int64 × St) := some ((-2), st)
set_option maxHeartbeats 4000000 in
set_option maxRecDepth 100000 in
theorem wX10_worst_s59 (C : Cx p s m args meth c cX10_worst 12 wsL_law RX10 (some .long) D G ad) (n : Nat)      (st : St) (res : (Int64 × St))  (hf : fX10_worst_s59 n    st = some res) : At p l e (rmK 6) s m args below meth c D G ad (MQJ D G ad below args s res) 12 st [] 59 [] := by
  obtain ⟨hx, hb, hml, hown, hts, hr, hlk, hK, had, hSt⟩ := id C
  intro H locs ls hl hP hS
  unfold fX10_worst_s59 at hf
  refine lv_ldc2 hx hb hown (hts _ wm_44_16) dX10_worst_59 ?_
  exact g_lret hx hb hr hlk hP hS dX10_worst_62 hf
def fX10_worst_s204 (n : Nat)   (v6 : Int64) (st : St) : Option (Int64 × St) := some (v6, st)
set_option maxHeartbeats 4000000 in
set_option maxRecDepth 100000 in
theorem wX10_worst_s204 (C : Cx p s m args meth c cX10_worst 12 wsL_law RX10 (some .long) D G ad) (n : Nat)   (v6 : Int64)   (st : St) (res : (Int64 × St))  (hf : fX10_worst_s204 n   v6 st = some res) : At p l e (rmK 6) s m args below meth c D G ad (MQJ D G ad below args s res) 12 st [(6, .long v6)] 204 [] := by
  obtain ⟨hx, hb, hml, hown, hts, hr, hlk, hK, had, hSt⟩ := id C
  intro H locs ls hl hP hS
  unfold fX10_worst_s204 at hf
  refine lv_lload hx hb dX10_worst_204 (lv_at hl 0 rfl) ?_
  exact g_lret hx hb hr hlk hP hS dX10_worst_206 hf
def fX10_worst_s199 (n : Nat)   (v3 : Int32) (v6 : Int64) (st : St) : Option (Int64 × St) := fX10_worst_s204 n v6 (setI st 0 15 v3)
set_option maxHeartbeats 4000000 in
set_option maxRecDepth 100000 in
theorem wX10_worst_s199 (C : Cx p s m args meth c cX10_worst 12 wsL_law RX10 (some .long) D G ad) (n : Nat)   (v3 : Int32) (v6 : Int64)   (st : St) (res : (Int64 × St))  (hf : fX10_worst_s199 n   v3 v6 st = some res) : At p l e (rmK 6) s m args below meth c D G ad (MQJ D G ad below args s res) 12 st [(0, .ref (ad 0)), (3, .int v3), (6, .long v6)] 199 [] := by
  obtain ⟨hx, hb, hml, hown, hts, hr, hlk, hK, had, hSt⟩ := id C
  intro H locs ls hl hP hS
  unfold fX10_worst_s199 at hf
  refine lv_aload_n hx hb dX10_worst_199 rfl (lv_at hl 0 rfl) ?_
  refine lv_iload_n hx hb dX10_worst_200 rfl (lv_at hl 1 rfl) ?_
  refine g_putI hx hb hts inlX10 tyX10_ok nmX10 hown hK had hP hS 0 ct_0 rfl 15 (by decide) (hts _ wm_44_18) rfl rfl rfl rfl rfl dX10_worst_201 (fun H locs hP hS => ?_)
  exact wX10_worst_s204 C n v6 (setI st 0 15 v3) res hf H locs ls (lv_sub hl [2] rfl) hP hS
def fX10_worst_s193 (n : Nat) (K162 : Int32 → Int32 → Int32 → Int64 → Int32 → Int32 → St → Option (Int64 × St))  (v3 : Int32) (v4 : Int32) (v5 : Int32) (v6 : Int64) (v8 : Int32) (v9 : Int32) (st : St) : Option (Int64 × St) := K162 v3 v4 v5 v6 v8 (v9 + 1) st
set_option maxHeartbeats 4000000 in
set_option maxRecDepth 100000 in
theorem wX10_worst_s193 (C : Cx p s m args meth c cX10_worst 12 wsL_law RX10 (some .long) D G ad) (n : Nat) (K162 : Int32 → Int32 → Int32 → Int64 → Int32 → Int32 → St → Option (Int64 × St))  (v3 : Int32) (v4 : Int32) (v5 : Int32) (v6 : Int64) (v8 : Int32) (v9 : Int32)   (st : St) (res : (Int64 × St)) (hK162 : ∀ (v3 : Int32) (v4 : Int32) (v5 : Int32) (v6 : Int64) (v8 : Int32) (v9 : Int32) (st : St), K162 v3 v4 v5 v6 v8 v9 st = some res → At p l e (rmK 6) s m args below meth c D G ad (MQJ D G ad below args s res) 12 st [(0, .ref (ad 0)), (3, .int v3), (4, .int v4), (5, .int v5), (6, .long v6), (8, .int v8), (9, .int v9)] 162 []) (hf : fX10_worst_s193 n K162  v3 v4 v5 v6 v8 v9 st = some res) : At p l e (rmK 6) s m args below meth c D G ad (MQJ D G ad below args s res) 12 st [(0, .ref (ad 0)), (3, .int v3), (4, .int v4), (5, .int v5), (6, .long v6), (8, .int v8), (9, .int v9)] 193 [] := by
  obtain ⟨hx, hb, hml, hown, hts, hr, hlk, hK, had, hSt⟩ := id C
  intro H locs ls hl hP hS
  unfold fX10_worst_s193 at hf
  refine lv_iinc (v := v9 + 1) (lv' := [(9, .int (v9 + 1)), (0, .ref (ad 0)), (3, .int v3), (4, .int v4), (5, .int v5), (6, .long v6), (8, .int v8)]) hx hb dX10_worst_193 hl (k := 6) rfl rfl (by decide) rfl (fun ls hl => ?_)
  refine lv_goto (tgt := 162) hx hb dX10_worst_196 (by decide) ?_
  exact hK162 v3 v4 v5 v6 v8 (v9 + 1)  st hf H locs ls (lv_sub hl [1, 2, 3, 4, 5, 6, 0] rfl) hP hS
def fX10_worst_s192 (n : Nat) (K162 : Int32 → Int32 → Int32 → Int64 → Int32 → Int32 → St → Option (Int64 × St))  (v3 : Int32) (v4 : Int32) (v5 : Int32) (v6 : Int64) (v8 : Int32) (v9 : Int32) (k1 : Int32) (k2 : Int32) (st : St) : Option (Int64 × St) := if inb k1 6 = true then (fX10_worst_s193 n K162 v3 v4 v5 v6 v8 v9 (setI st 52 k1.toNatClampNeg k2)) else none
set_option maxHeartbeats 4000000 in
set_option maxRecDepth 100000 in
theorem wX10_worst_s192 (C : Cx p s m args meth c cX10_worst 12 wsL_law RX10 (some .long) D G ad) (n : Nat) (K162 : Int32 → Int32 → Int32 → Int64 → Int32 → Int32 → St → Option (Int64 × St))  (v3 : Int32) (v4 : Int32) (v5 : Int32) (v6 : Int64) (v8 : Int32) (v9 : Int32) (k1 : Int32) (k2 : Int32)   (st : St) (res : (Int64 × St)) (hK162 : ∀ (v3 : Int32) (v4 : Int32) (v5 : Int32) (v6 : Int64) (v8 : Int32) (v9 : Int32) (st : St), K162 v3 v4 v5 v6 v8 v9 st = some res → At p l e (rmK 6) s m args below meth c D G ad (MQJ D G ad below args s res) 12 st [(0, .ref (ad 0)), (3, .int v3), (4, .int v4), (5, .int v5), (6, .long v6), (8, .int v8), (9, .int v9)] 162 []) (hf : fX10_worst_s192 n K162  v3 v4 v5 v6 v8 v9 k1 k2 st = some res) : At p l e (rmK 6) s m args below meth c D G ad (MQJ D G ad below args s res) 12 st [(0, .ref (ad 0)), (3, .int v3), (4, .int v4), (5, .int v5), (6, .long v6), (8, .int v8), (9, .int v9)] 192 [.int k2, .int k1, .ref (ad 52)] := by
  obtain ⟨hx, hb, hml, hown, hts, hr, hlk, hK, had, hSt⟩ := id C
  intro H locs ls hl hP hS
  unfold fX10_worst_s192 at hf
  obtain ⟨g1, hf⟩ := gd hf
  refine g_iast hx hb hK had hP hS 52 ct_52 g1 dX10_worst_192 (fun H locs hP hS => ?_)
  exact wX10_worst_s193 C n K162 v3 v4 v5 v6 v8 v9 (setI st 52 k1.toNatClampNeg k2) res hK162 hf H locs ls (lv_sub hl [0, 1, 2, 3, 4, 5, 6] rfl) hP hS
def fX10_worst_s190 (n : Nat) (K162 : Int32 → Int32 → Int32 → Int64 → Int32 → Int32 → St → Option (Int64 × St))  (v3 : Int32) (v4 : Int32) (v5 : Int32) (v6 : Int64) (v8 : Int32) (v9 : Int32) (k1 : Int32) (st : St) : Option (Int64 × St) := fX10_worst_s192 n K162 v3 v4 v5 v6 v8 v9 k1 v4 st
set_option maxHeartbeats 4000000 in
set_option maxRecDepth 100000 in
theorem wX10_worst_s190 (C : Cx p s m args meth c cX10_worst 12 wsL_law RX10 (some .long) D G ad) (n : Nat) (K162 : Int32 → Int32 → Int32 → Int64 → Int32 → Int32 → St → Option (Int64 × St))  (v3 : Int32) (v4 : Int32) (v5 : Int32) (v6 : Int64) (v8 : Int32) (v9 : Int32) (k1 : Int32)   (st : St) (res : (Int64 × St)) (hK162 : ∀ (v3 : Int32) (v4 : Int32) (v5 : Int32) (v6 : Int64) (v8 : Int32) (v9 : Int32) (st : St), K162 v3 v4 v5 v6 v8 v9 st = some res → At p l e (rmK 6) s m args below meth c D G ad (MQJ D G ad below args s res) 12 st [(0, .ref (ad 0)), (3, .int v3), (4, .int v4), (5, .int v5), (6, .long v6), (8, .int v8), (9, .int v9)] 162 []) (hf : fX10_worst_s190 n K162  v3 v4 v5 v6 v8 v9 k1 st = some res) : At p l e (rmK 6) s m args below meth c D G ad (MQJ D G ad below args s res) 12 st [(0, .ref (ad 0)), (3, .int v3), (4, .int v4), (5, .int v5), (6, .long v6), (8, .int v8), (9, .int v9)] 190 [.int k1, .ref (ad 52)] := by
  obtain ⟨hx, hb, hml, hown, hts, hr, hlk, hK, had, hSt⟩ := id C
  intro H locs ls hl hP hS
  unfold fX10_worst_s190 at hf
  refine lv_iload hx hb dX10_worst_190 (lv_at hl 2 rfl) ?_
  exact wX10_worst_s192 C n K162 v3 v4 v5 v6 v8 v9 k1 v4 st res hK162 hf H locs ls (lv_sub hl [0, 1, 2, 3, 4, 5, 6] rfl) hP hS
def fX10_worst_s185 (n : Nat) (K162 : Int32 → Int32 → Int32 → Int64 → Int32 → Int32 → St → Option (Int64 × St))  (v3 : Int32) (v4 : Int32) (v5 : Int32) (v6 : Int64) (v8 : Int32) (v9 : Int32) (k1 : Int32) (st : St) : Option (Int64 × St) := fX10_worst_s192 n K162 v3 v4 v5 v6 v8 v9 k1 v5 st
set_option maxHeartbeats 4000000 in
set_option maxRecDepth 100000 in
theorem wX10_worst_s185 (C : Cx p s m args meth c cX10_worst 12 wsL_law RX10 (some .long) D G ad) (n : Nat) (K162 : Int32 → Int32 → Int32 → Int64 → Int32 → Int32 → St → Option (Int64 × St))  (v3 : Int32) (v4 : Int32) (v5 : Int32) (v6 : Int64) (v8 : Int32) (v9 : Int32) (k1 : Int32)   (st : St) (res : (Int64 × St)) (hK162 : ∀ (v3 : Int32) (v4 : Int32) (v5 : Int32) (v6 : Int64) (v8 : Int32) (v9 : Int32) (st : St), K162 v3 v4 v5 v6 v8 v9 st = some res → At p l e (rmK 6) s m args below meth c D G ad (MQJ D G ad below args s res) 12 st [(0, .ref (ad 0)), (3, .int v3), (4, .int v4), (5, .int v5), (6, .long v6), (8, .int v8), (9, .int v9)] 162 []) (hf : fX10_worst_s185 n K162  v3 v4 v5 v6 v8 v9 k1 st = some res) : At p l e (rmK 6) s m args below meth c D G ad (MQJ D G ad below args s res) 12 st [(0, .ref (ad 0)), (3, .int v3), (4, .int v4), (5, .int v5), (6, .long v6), (8, .int v8), (9, .int v9)] 185 [.int k1, .ref (ad 52)] := by
  obtain ⟨hx, hb, hml, hown, hts, hr, hlk, hK, had, hSt⟩ := id C
  intro H locs ls hl hP hS
  unfold fX10_worst_s185 at hf
  refine lv_iload hx hb dX10_worst_185 (lv_at hl 3 rfl) ?_
  refine lv_goto (tgt := 192) hx hb dX10_worst_187 (by decide) ?_
  exact wX10_worst_s192 C n K162 v3 v4 v5 v6 v8 v9 k1 v5 st res hK162 hf H locs ls (lv_sub hl [0, 1, 2, 3, 4, 5, 6] rfl) hP hS
def fX10_worst_s182 (n : Nat) (K162 : Int32 → Int32 → Int32 → Int64 → Int32 → Int32 → St → Option (Int64 × St))  (v3 : Int32) (v4 : Int32) (v5 : Int32) (v6 : Int64) (v8 : Int32) (v9 : Int32) (k1 : Int32) (k2 : Int32) (st : St) : Option (Int64 × St) := if k2 = 0 then fX10_worst_s190 n K162 v3 v4 v5 v6 v8 v9 k1 st else fX10_worst_s185 n K162 v3 v4 v5 v6 v8 v9 k1 st
set_option maxHeartbeats 4000000 in
set_option maxRecDepth 100000 in
theorem wX10_worst_s182 (C : Cx p s m args meth c cX10_worst 12 wsL_law RX10 (some .long) D G ad) (n : Nat) (K162 : Int32 → Int32 → Int32 → Int64 → Int32 → Int32 → St → Option (Int64 × St))  (v3 : Int32) (v4 : Int32) (v5 : Int32) (v6 : Int64) (v8 : Int32) (v9 : Int32) (k1 : Int32) (k2 : Int32)   (st : St) (res : (Int64 × St)) (hK162 : ∀ (v3 : Int32) (v4 : Int32) (v5 : Int32) (v6 : Int64) (v8 : Int32) (v9 : Int32) (st : St), K162 v3 v4 v5 v6 v8 v9 st = some res → At p l e (rmK 6) s m args below meth c D G ad (MQJ D G ad below args s res) 12 st [(0, .ref (ad 0)), (3, .int v3), (4, .int v4), (5, .int v5), (6, .long v6), (8, .int v8), (9, .int v9)] 162 []) (hf : fX10_worst_s182 n K162  v3 v4 v5 v6 v8 v9 k1 k2 st = some res) : At p l e (rmK 6) s m args below meth c D G ad (MQJ D G ad below args s res) 12 st [(0, .ref (ad 0)), (3, .int v3), (4, .int v4), (5, .int v5), (6, .long v6), (8, .int v8), (9, .int v9)] 182 [.int k2, .int k1, .ref (ad 52)] := by
  obtain ⟨hx, hb, hml, hown, hts, hr, hlk, hK, had, hSt⟩ := id C
  intro H locs ls hl hP hS
  unfold fX10_worst_s182 at hf
  refine lv_if_eq (tgt := 190) hx hb dX10_worst_182 (by decide) (fun q => ?_) (fun q => ?_)
  · exact wX10_worst_s190 C n K162 v3 v4 v5 v6 v8 v9 k1 st res hK162 (it hf q) H locs ls (lv_sub hl [0, 1, 2, 3, 4, 5, 6] rfl) hP hS
  · exact wX10_worst_s185 C n K162 v3 v4 v5 v6 v8 v9 k1 st res hK162 (ie hf q) H locs ls (lv_sub hl [0, 1, 2, 3, 4, 5, 6] rfl) hP hS
def fX10_worst_s168 (n : Nat) (K162 : Int32 → Int32 → Int32 → Int64 → Int32 → Int32 → St → Option (Int64 × St))  (v3 : Int32) (v4 : Int32) (v5 : Int32) (v6 : Int64) (v8 : Int32) (v9 : Int32) (st : St) : Option (Int64 × St) := (fX10_isHigh n v8 v9 v3 st).bind (fun q => fX10_worst_s182 n K162 v3 v4 v5 v6 v8 v9 v9 q.1 q.2)
set_option maxHeartbeats 4000000 in
set_option maxRecDepth 100000 in
theorem wX10_worst_s168 (C : Cx p s m args meth c cX10_worst 12 wsL_law RX10 (some .long) D G ad) (n : Nat) (K162 : Int32 → Int32 → Int32 → Int64 → Int32 → Int32 → St → Option (Int64 × St))  (v3 : Int32) (v4 : Int32) (v5 : Int32) (v6 : Int64) (v8 : Int32) (v9 : Int32)   (st : St) (res : (Int64 × St)) (hK162 : ∀ (v3 : Int32) (v4 : Int32) (v5 : Int32) (v6 : Int64) (v8 : Int32) (v9 : Int32) (st : St), K162 v3 v4 v5 v6 v8 v9 st = some res → At p l e (rmK 6) s m args below meth c D G ad (MQJ D G ad below args s res) 12 st [(0, .ref (ad 0)), (3, .int v3), (4, .int v4), (5, .int v5), (6, .long v6), (8, .int v8), (9, .int v9)] 162 []) (hf : fX10_worst_s168 n K162  v3 v4 v5 v6 v8 v9 st = some res) : At p l e (rmK 6) s m args below meth c D G ad (MQJ D G ad below args s res) 12 st [(0, .ref (ad 0)), (3, .int v3), (4, .int v4), (5, .int v5), (6, .long v6), (8, .int v8), (9, .int v9)] 168 [] := by
  obtain ⟨hx, hb, hml, hown, hts, hr, hlk, hK, had, hSt⟩ := id C
  intro H locs ls hl hP hS
  unfold fX10_worst_s168 at hf
  refine lv_aload_n hx hb dX10_worst_168 rfl (lv_at hl 0 rfl) ?_
  refine g_getR hx hb hts inlX10 hown hK hP 0 ct_0 rfl 14 (by decide) (hts _ wm_3_11) rfl dX10_worst_169 ?_
  refine lv_iload hx hb dX10_worst_172 (lv_at hl 6 rfl) ?_
  refine lv_iload hx hb dX10_worst_174 (lv_at hl 5 rfl) ?_
  refine lv_iload hx hb dX10_worst_176 (lv_at hl 6 rfl) ?_
  refine lv_iload_n hx hb dX10_worst_178 rfl (lv_at hl 1 rfl) ?_
  obtain ⟨q, hq, hf⟩ := bd hf
  refine gcS_i (k := 0) (As := [.int v8, .int v9, .int v3]) (rest := [.int v9, .ref (ad 52)]) hx hb hml hown hts hK hSt hP hS hl.1 (goodS wm_45_11 wm_45_12 wm_1_2 wm_45_13) okX10_isHigh (Nat.le_of_ble_eq_true rfl) (Nat.le_of_ble_eq_true rfl) rfl rfl (Nat.le_of_ble_eq_true rfl) dX10_worst_179 (kX10_isHigh l D G ad had n  v8 v9 v3 st q hq) (fun H locs hP hS => ?_)
  exact wX10_worst_s182 C n K162 v3 v4 v5 v6 v8 v9 v9 q.1 q.2 res hK162 hf H locs ls (lv_sub hl [0, 1, 2, 3, 4, 5, 6] rfl) hP hS
def fX10_worst_s162 (n : Nat) (K162 : Int32 → Int32 → Int32 → Int64 → Int32 → Int32 → St → Option (Int64 × St))  (v3 : Int32) (v4 : Int32) (v5 : Int32) (v6 : Int64) (v8 : Int32) (v9 : Int32) (st : St) : Option (Int64 × St) := if v3 ≤ v9 then fX10_worst_s199 n v3 v6 st else fX10_worst_s168 n K162 v3 v4 v5 v6 v8 v9 st
set_option maxHeartbeats 4000000 in
set_option maxRecDepth 100000 in
theorem wX10_worst_s162 (C : Cx p s m args meth c cX10_worst 12 wsL_law RX10 (some .long) D G ad) (n : Nat) (K162 : Int32 → Int32 → Int32 → Int64 → Int32 → Int32 → St → Option (Int64 × St))  (v3 : Int32) (v4 : Int32) (v5 : Int32) (v6 : Int64) (v8 : Int32) (v9 : Int32)   (st : St) (res : (Int64 × St)) (hK162 : ∀ (v3 : Int32) (v4 : Int32) (v5 : Int32) (v6 : Int64) (v8 : Int32) (v9 : Int32) (st : St), K162 v3 v4 v5 v6 v8 v9 st = some res → At p l e (rmK 6) s m args below meth c D G ad (MQJ D G ad below args s res) 12 st [(0, .ref (ad 0)), (3, .int v3), (4, .int v4), (5, .int v5), (6, .long v6), (8, .int v8), (9, .int v9)] 162 []) (hf : fX10_worst_s162 n K162  v3 v4 v5 v6 v8 v9 st = some res) : At p l e (rmK 6) s m args below meth c D G ad (MQJ D G ad below args s res) 12 st [(0, .ref (ad 0)), (3, .int v3), (4, .int v4), (5, .int v5), (6, .long v6), (8, .int v8), (9, .int v9)] 162 [] := by
  obtain ⟨hx, hb, hml, hown, hts, hr, hlk, hK, had, hSt⟩ := id C
  intro H locs ls hl hP hS
  unfold fX10_worst_s162 at hf
  refine lv_iload hx hb dX10_worst_162 (lv_at hl 6 rfl) ?_
  refine lv_iload_n hx hb dX10_worst_164 rfl (lv_at hl 1 rfl) ?_
  refine lv_icmp_ge (tgt := 199) hx hb dX10_worst_165 (by decide) (fun q => ?_) (fun q => ?_)
  · exact wX10_worst_s199 C n v3 v6 st res (it hf q) H locs ls (lv_sub hl [0, 1, 4] rfl) hP hS
  · exact wX10_worst_s168 C n K162 v3 v4 v5 v6 v8 v9 st res hK162 (ie hf q) H locs ls (lv_sub hl [0, 1, 2, 3, 4, 5, 6] rfl) hP hS
def fX10_worst_L162 (n : Nat)   : Nat → Int32 → Int32 → Int32 → Int64 → Int32 → Int32 → St → Option (Int64 × St)
  | 0, _, _, _, _, _, _, _ => none
  | k + 1, v3, v4, v5, v6, v8, v9, st => fX10_worst_s162 n (fX10_worst_L162 n k)  v3 v4 v5 v6 v8 v9 st
theorem wX10_worst_L162 (C : Cx p s m args meth c cX10_worst 12 wsL_law RX10 (some .long) D G ad) (n : Nat)    (res : (Int64 × St))  : ∀ (k : Nat) (v3 : Int32) (v4 : Int32) (v5 : Int32) (v6 : Int64) (v8 : Int32) (v9 : Int32)  (st : St), fX10_worst_L162 n k v3 v4 v5 v6 v8 v9 st = some res → At p l e (rmK 6) s m args below meth c D G ad (MQJ D G ad below args s res) 12 st [(0, .ref (ad 0)), (3, .int v3), (4, .int v4), (5, .int v5), (6, .long v6), (8, .int v8), (9, .int v9)] 162 [] := by
  intro k
  induction k with
  | zero => intro v3 v4 v5 v6 v8 v9  st h; exact absurd h (by intro q; cases q)
  | succ k ih => intro v3 v4 v5 v6 v8 v9  st h; exact wX10_worst_s162 C n (fX10_worst_L162 n k)  v3 v4 v5 v6 v8 v9   st res ih h
def fX10_worst_s159 (n : Nat)   (v3 : Int32) (v4 : Int32) (v5 : Int32) (v6 : Int64) (v8 : Int32) (st : St) : Option (Int64 × St) := fX10_worst_L162 n n v3 v4 v5 v6 v8 0 st
set_option maxHeartbeats 4000000 in
set_option maxRecDepth 100000 in
theorem wX10_worst_s159 (C : Cx p s m args meth c cX10_worst 12 wsL_law RX10 (some .long) D G ad) (n : Nat)   (v3 : Int32) (v4 : Int32) (v5 : Int32) (v6 : Int64) (v8 : Int32)   (st : St) (res : (Int64 × St))  (hf : fX10_worst_s159 n   v3 v4 v5 v6 v8 st = some res) : At p l e (rmK 6) s m args below meth c D G ad (MQJ D G ad below args s res) 12 st [(0, .ref (ad 0)), (3, .int v3), (4, .int v4), (5, .int v5), (6, .long v6), (8, .int v8)] 159 [] := by
  obtain ⟨hx, hb, hml, hown, hts, hr, hlk, hK, had, hSt⟩ := id C
  intro H locs ls hl hP hS
  unfold fX10_worst_s159 at hf
  refine lv_iconst (v := 0) hx hb dX10_worst_159 (by decide) ?_
  refine lv_istore (lv' := [(9, .int 0), (0, .ref (ad 0)), (3, .int v3), (4, .int v4), (5, .int v5), (6, .long v6), (8, .int v8)]) hx hb dX10_worst_160 hl (by decide) rfl (fun ls hl => ?_)
  exact wX10_worst_L162 C n res n v3 v4 v5 v6 v8 0 st hf H locs ls (lv_sub hl [1, 2, 3, 4, 5, 6, 0] rfl) hP hS
def fX10_worst_s153 (n : Nat) (K93 : Int32 → Int32 → Int32 → Int32 → Int32 → Int64 → Int32 → Int32 → St → Option (Int64 × St))  (v1 : Int32) (v2 : Int32) (v3 : Int32) (v4 : Int32) (v5 : Int32) (v6 : Int64) (v8 : Int32) (v9 : Int32) (st : St) : Option (Int64 × St) := K93 v1 v2 v3 v4 v5 v6 v8 (v9 + 1) st
set_option maxHeartbeats 4000000 in
set_option maxRecDepth 100000 in
theorem wX10_worst_s153 (C : Cx p s m args meth c cX10_worst 12 wsL_law RX10 (some .long) D G ad) (n : Nat) (K93 : Int32 → Int32 → Int32 → Int32 → Int32 → Int64 → Int32 → Int32 → St → Option (Int64 × St))  (v1 : Int32) (v2 : Int32) (v3 : Int32) (v4 : Int32) (v5 : Int32) (v6 : Int64) (v8 : Int32) (v9 : Int32)   (st : St) (res : (Int64 × St)) (hK93 : ∀ (v1 : Int32) (v2 : Int32) (v3 : Int32) (v4 : Int32) (v5 : Int32) (v6 : Int64) (v8 : Int32) (v9 : Int32) (st : St), K93 v1 v2 v3 v4 v5 v6 v8 v9 st = some res → At p l e (rmK 6) s m args below meth c D G ad (MQJ D G ad below args s res) 12 st [(0, .ref (ad 0)), (1, .int v1), (2, .int v2), (3, .int v3), (4, .int v4), (5, .int v5), (6, .long v6), (8, .int v8), (9, .int v9)] 93 []) (hf : fX10_worst_s153 n K93  v1 v2 v3 v4 v5 v6 v8 v9 st = some res) : At p l e (rmK 6) s m args below meth c D G ad (MQJ D G ad below args s res) 12 st [(0, .ref (ad 0)), (1, .int v1), (2, .int v2), (3, .int v3), (4, .int v4), (5, .int v5), (6, .long v6), (8, .int v8), (9, .int v9)] 153 [] := by
  obtain ⟨hx, hb, hml, hown, hts, hr, hlk, hK, had, hSt⟩ := id C
  intro H locs ls hl hP hS
  unfold fX10_worst_s153 at hf
  refine lv_iinc (v := v9 + 1) (lv' := [(9, .int (v9 + 1)), (0, .ref (ad 0)), (1, .int v1), (2, .int v2), (3, .int v3), (4, .int v4), (5, .int v5), (6, .long v6), (8, .int v8)]) hx hb dX10_worst_153 hl (k := 8) rfl rfl (by decide) rfl (fun ls hl => ?_)
  refine lv_goto (tgt := 93) hx hb dX10_worst_156 (by decide) ?_
  exact hK93 v1 v2 v3 v4 v5 v6 v8 (v9 + 1)  st hf H locs ls (lv_sub hl [1, 2, 3, 4, 5, 6, 7, 8, 0] rfl) hP hS
def fX10_worst_s145 (n : Nat) (K93 : Int32 → Int32 → Int32 → Int32 → Int32 → Int64 → Int32 → Int32 → St → Option (Int64 × St))  (v1 : Int32) (v2 : Int32) (v3 : Int32) (v4 : Int32) (v5 : Int32) (v9 : Int32) (v10 : Int64) (st : St) : Option (Int64 × St) := fX10_worst_s153 n K93 v1 v2 v3 v4 v5 v10 v9 v9 st
set_option maxHeartbeats 4000000 in
set_option maxRecDepth 100000 in
theorem wX10_worst_s145 (C : Cx p s m args meth c cX10_worst 12 wsL_law RX10 (some .long) D G ad) (n : Nat) (K93 : Int32 → Int32 → Int32 → Int32 → Int32 → Int64 → Int32 → Int32 → St → Option (Int64 × St))  (v1 : Int32) (v2 : Int32) (v3 : Int32) (v4 : Int32) (v5 : Int32) (v9 : Int32) (v10 : Int64)   (st : St) (res : (Int64 × St)) (hK93 : ∀ (v1 : Int32) (v2 : Int32) (v3 : Int32) (v4 : Int32) (v5 : Int32) (v6 : Int64) (v8 : Int32) (v9 : Int32) (st : St), K93 v1 v2 v3 v4 v5 v6 v8 v9 st = some res → At p l e (rmK 6) s m args below meth c D G ad (MQJ D G ad below args s res) 12 st [(0, .ref (ad 0)), (1, .int v1), (2, .int v2), (3, .int v3), (4, .int v4), (5, .int v5), (6, .long v6), (8, .int v8), (9, .int v9)] 93 []) (hf : fX10_worst_s145 n K93  v1 v2 v3 v4 v5 v9 v10 st = some res) : At p l e (rmK 6) s m args below meth c D G ad (MQJ D G ad below args s res) 12 st [(0, .ref (ad 0)), (1, .int v1), (2, .int v2), (3, .int v3), (4, .int v4), (5, .int v5), (9, .int v9), (10, .long v10)] 145 [] := by
  obtain ⟨hx, hb, hml, hown, hts, hr, hlk, hK, had, hSt⟩ := id C
  intro H locs ls hl hP hS
  unfold fX10_worst_s145 at hf
  refine lv_lload hx hb dX10_worst_145 (lv_at hl 7 rfl) ?_
  refine lv_lstore (lv' := [(6, .long v10), (0, .ref (ad 0)), (1, .int v1), (2, .int v2), (3, .int v3), (4, .int v4), (5, .int v5), (9, .int v9), (10, .long v10)]) hx hb dX10_worst_147 hl (by decide) rfl (fun ls hl => ?_)
  refine lv_iload hx hb dX10_worst_149 (lv_at hl 7 rfl) ?_
  refine lv_istore (lv' := [(8, .int v9), (6, .long v10), (0, .ref (ad 0)), (1, .int v1), (2, .int v2), (3, .int v3), (4, .int v4), (5, .int v5), (9, .int v9), (10, .long v10)]) hx hb dX10_worst_151 hl (by decide) rfl (fun ls hl => ?_)
  exact wX10_worst_s153 C n K93 v1 v2 v3 v4 v5 v10 v9 v9 st res hK93 hf H locs ls (lv_sub hl [2, 3, 4, 5, 6, 7, 1, 0, 8] rfl) hP hS
def fX10_worst_s135 (n : Nat) (K93 : Int32 → Int32 → Int32 → Int32 → Int32 → Int64 → Int32 → Int32 → St → Option (Int64 × St))  (v1 : Int32) (v2 : Int32) (v3 : Int32) (v4 : Int32) (v5 : Int32) (v6 : Int64) (v8 : Int32) (v9 : Int32) (k0 : Int64) (st : St) : Option (Int64 × St) := if k0 ≤ v6 then fX10_worst_s153 n K93 v1 v2 v3 v4 v5 v6 v8 v9 st else fX10_worst_s145 n K93 v1 v2 v3 v4 v5 v9 k0 st
set_option maxHeartbeats 4000000 in
set_option maxRecDepth 100000 in
theorem wX10_worst_s135 (C : Cx p s m args meth c cX10_worst 12 wsL_law RX10 (some .long) D G ad) (n : Nat) (K93 : Int32 → Int32 → Int32 → Int32 → Int32 → Int64 → Int32 → Int32 → St → Option (Int64 × St))  (v1 : Int32) (v2 : Int32) (v3 : Int32) (v4 : Int32) (v5 : Int32) (v6 : Int64) (v8 : Int32) (v9 : Int32) (k0 : Int64)   (st : St) (res : (Int64 × St)) (hK93 : ∀ (v1 : Int32) (v2 : Int32) (v3 : Int32) (v4 : Int32) (v5 : Int32) (v6 : Int64) (v8 : Int32) (v9 : Int32) (st : St), K93 v1 v2 v3 v4 v5 v6 v8 v9 st = some res → At p l e (rmK 6) s m args below meth c D G ad (MQJ D G ad below args s res) 12 st [(0, .ref (ad 0)), (1, .int v1), (2, .int v2), (3, .int v3), (4, .int v4), (5, .int v5), (6, .long v6), (8, .int v8), (9, .int v9)] 93 []) (hf : fX10_worst_s135 n K93  v1 v2 v3 v4 v5 v6 v8 v9 k0 st = some res) : At p l e (rmK 6) s m args below meth c D G ad (MQJ D G ad below args s res) 12 st [(0, .ref (ad 0)), (1, .int v1), (2, .int v2), (3, .int v3), (4, .int v4), (5, .int v5), (6, .long v6), (8, .int v8), (9, .int v9)] 135 [.long k0] := by
  obtain ⟨hx, hb, hml, hown, hts, hr, hlk, hK, had, hSt⟩ := id C
  intro H locs ls hl hP hS
  unfold fX10_worst_s135 at hf
  refine lv_lstore (lv' := [(10, .long k0), (0, .ref (ad 0)), (1, .int v1), (2, .int v2), (3, .int v3), (4, .int v4), (5, .int v5), (6, .long v6), (8, .int v8), (9, .int v9)]) hx hb dX10_worst_135 hl (by decide) rfl (fun ls hl => ?_)
  refine lv_lload hx hb dX10_worst_137 (lv_at hl 0 rfl) ?_
  refine lv_lload hx hb dX10_worst_139 (lv_at hl 7 rfl) ?_
  refine g_lcmp_le (tgt := 153) hx hb dX10_worst_141 dX10_worst_142 (by decide) (fun q => ?_) (fun q => ?_)
  · exact wX10_worst_s153 C n K93 v1 v2 v3 v4 v5 v6 v8 v9 st res hK93 (it hf q) H locs ls (lv_sub hl [1, 2, 3, 4, 5, 6, 7, 8, 9] rfl) hP hS
  · exact wX10_worst_s145 C n K93 v1 v2 v3 v4 v5 v9 k0 st res hK93 (ie hf q) H locs ls (lv_sub hl [1, 2, 3, 4, 5, 6, 9, 0] rfl) hP hS
def fX10_worst_s134 (n : Nat) (K93 : Int32 → Int32 → Int32 → Int32 → Int32 → Int64 → Int32 → Int32 → St → Option (Int64 × St))  (v1 : Int32) (v2 : Int32) (v3 : Int32) (v4 : Int32) (v5 : Int32) (v6 : Int64) (v8 : Int32) (v9 : Int32) (k0 : Int32) (st : St) : Option (Int64 × St) := fX10_worst_s135 n K93 v1 v2 v3 v4 v5 v6 v8 v9 k0.toInt64 st
set_option maxHeartbeats 4000000 in
set_option maxRecDepth 100000 in
theorem wX10_worst_s134 (C : Cx p s m args meth c cX10_worst 12 wsL_law RX10 (some .long) D G ad) (n : Nat) (K93 : Int32 → Int32 → Int32 → Int32 → Int32 → Int64 → Int32 → Int32 → St → Option (Int64 × St))  (v1 : Int32) (v2 : Int32) (v3 : Int32) (v4 : Int32) (v5 : Int32) (v6 : Int64) (v8 : Int32) (v9 : Int32) (k0 : Int32)   (st : St) (res : (Int64 × St)) (hK93 : ∀ (v1 : Int32) (v2 : Int32) (v3 : Int32) (v4 : Int32) (v5 : Int32) (v6 : Int64) (v8 : Int32) (v9 : Int32) (st : St), K93 v1 v2 v3 v4 v5 v6 v8 v9 st = some res → At p l e (rmK 6) s m args below meth c D G ad (MQJ D G ad below args s res) 12 st [(0, .ref (ad 0)), (1, .int v1), (2, .int v2), (3, .int v3), (4, .int v4), (5, .int v5), (6, .long v6), (8, .int v8), (9, .int v9)] 93 []) (hf : fX10_worst_s134 n K93  v1 v2 v3 v4 v5 v6 v8 v9 k0 st = some res) : At p l e (rmK 6) s m args below meth c D G ad (MQJ D G ad below args s res) 12 st [(0, .ref (ad 0)), (1, .int v1), (2, .int v2), (3, .int v3), (4, .int v4), (5, .int v5), (6, .long v6), (8, .int v8), (9, .int v9)] 134 [.int k0] := by
  obtain ⟨hx, hb, hml, hown, hts, hr, hlk, hK, had, hSt⟩ := id C
  intro H locs ls hl hP hS
  unfold fX10_worst_s134 at hf
  refine lv_i2l hx hb dX10_worst_134 rfl ?_
  exact wX10_worst_s135 C n K93 v1 v2 v3 v4 v5 v6 v8 v9 k0.toInt64 st res hK93 hf H locs ls (lv_sub hl [0, 1, 2, 3, 4, 5, 6, 7, 8] rfl) hP hS
def fX10_worst_s129 (n : Nat) (K93 : Int32 → Int32 → Int32 → Int32 → Int32 → Int64 → Int32 → Int32 → St → Option (Int64 × St))  (v1 : Int32) (v2 : Int32) (v3 : Int32) (v4 : Int32) (v5 : Int32) (v6 : Int64) (v8 : Int32) (v9 : Int32) (st : St) : Option (Int64 × St) := (fX10_greatestOrder n v3 st).bind (fun q => fX10_worst_s134 n K93 v1 v2 v3 v4 v5 v6 v8 v9 q.1 q.2)
set_option maxHeartbeats 4000000 in
set_option maxRecDepth 100000 in
theorem wX10_worst_s129 (C : Cx p s m args meth c cX10_worst 12 wsL_law RX10 (some .long) D G ad) (n : Nat) (K93 : Int32 → Int32 → Int32 → Int32 → Int32 → Int64 → Int32 → Int32 → St → Option (Int64 × St))  (v1 : Int32) (v2 : Int32) (v3 : Int32) (v4 : Int32) (v5 : Int32) (v6 : Int64) (v8 : Int32) (v9 : Int32)   (st : St) (res : (Int64 × St)) (hK93 : ∀ (v1 : Int32) (v2 : Int32) (v3 : Int32) (v4 : Int32) (v5 : Int32) (v6 : Int64) (v8 : Int32) (v9 : Int32) (st : St), K93 v1 v2 v3 v4 v5 v6 v8 v9 st = some res → At p l e (rmK 6) s m args below meth c D G ad (MQJ D G ad below args s res) 12 st [(0, .ref (ad 0)), (1, .int v1), (2, .int v2), (3, .int v3), (4, .int v4), (5, .int v5), (6, .long v6), (8, .int v8), (9, .int v9)] 93 []) (hf : fX10_worst_s129 n K93  v1 v2 v3 v4 v5 v6 v8 v9 st = some res) : At p l e (rmK 6) s m args below meth c D G ad (MQJ D G ad below args s res) 12 st [(0, .ref (ad 0)), (1, .int v1), (2, .int v2), (3, .int v3), (4, .int v4), (5, .int v5), (6, .long v6), (8, .int v8), (9, .int v9)] 129 [] := by
  obtain ⟨hx, hb, hml, hown, hts, hr, hlk, hK, had, hSt⟩ := id C
  intro H locs ls hl hP hS
  unfold fX10_worst_s129 at hf
  refine lv_aload_n hx hb dX10_worst_129 rfl (lv_at hl 0 rfl) ?_
  refine lv_iload_n hx hb dX10_worst_130 rfl (lv_at hl 3 rfl) ?_
  obtain ⟨q, hq, hf⟩ := bd hf
  refine gcV_i (k := 1) (o := 0) (As := [.int v3]) (rest := []) hx hb hml hown hts hK hSt hP hS hl.1 (goodV wm_45_18 wm_45_19 wm_45_20 wm_1_2 wm_45_21) okX10_greatestOrder ct_0 rfl rfl (Nat.le_of_ble_eq_true rfl) (Nat.le_of_ble_eq_true rfl) rfl rfl (Nat.le_of_ble_eq_true rfl) dX10_worst_131 (kX10_greatestOrder l D G ad had n  v3 st q hq) (fun H locs hP hS => ?_)
  exact wX10_worst_s134 C n K93 v1 v2 v3 v4 v5 v6 v8 v9 q.1 q.2 res hK93 hf H locs ls (lv_sub hl [0, 1, 2, 3, 4, 5, 6, 7, 8] rfl) hP hS
def fX10_worst_s126 (n : Nat) (K93 : Int32 → Int32 → Int32 → Int32 → Int32 → Int64 → Int32 → Int32 → St → Option (Int64 × St))  (v1 : Int32) (v2 : Int32) (v3 : Int32) (v4 : Int32) (v5 : Int32) (v6 : Int64) (v8 : Int32) (v9 : Int32) (k0 : Int64) (st : St) : Option (Int64 × St) := fX10_worst_s135 n K93 v1 v2 v3 v4 v5 v6 v8 v9 k0 st
set_option maxHeartbeats 4000000 in
set_option maxRecDepth 100000 in
theorem wX10_worst_s126 (C : Cx p s m args meth c cX10_worst 12 wsL_law RX10 (some .long) D G ad) (n : Nat) (K93 : Int32 → Int32 → Int32 → Int32 → Int32 → Int64 → Int32 → Int32 → St → Option (Int64 × St))  (v1 : Int32) (v2 : Int32) (v3 : Int32) (v4 : Int32) (v5 : Int32) (v6 : Int64) (v8 : Int32) (v9 : Int32) (k0 : Int64)   (st : St) (res : (Int64 × St)) (hK93 : ∀ (v1 : Int32) (v2 : Int32) (v3 : Int32) (v4 : Int32) (v5 : Int32) (v6 : Int64) (v8 : Int32) (v9 : Int32) (st : St), K93 v1 v2 v3 v4 v5 v6 v8 v9 st = some res → At p l e (rmK 6) s m args below meth c D G ad (MQJ D G ad below args s res) 12 st [(0, .ref (ad 0)), (1, .int v1), (2, .int v2), (3, .int v3), (4, .int v4), (5, .int v5), (6, .long v6), (8, .int v8), (9, .int v9)] 93 []) (hf : fX10_worst_s126 n K93  v1 v2 v3 v4 v5 v6 v8 v9 k0 st = some res) : At p l e (rmK 6) s m args below meth c D G ad (MQJ D G ad below args s res) 12 st [(0, .ref (ad 0)), (1, .int v1), (2, .int v2), (3, .int v3), (4, .int v4), (5, .int v5), (6, .long v6), (8, .int v8), (9, .int v9)] 126 [.long k0] := by
  obtain ⟨hx, hb, hml, hown, hts, hr, hlk, hK, had, hSt⟩ := id C
  intro H locs ls hl hP hS
  unfold fX10_worst_s126 at hf
  refine lv_goto (tgt := 135) hx hb dX10_worst_126 (by decide) ?_
  exact wX10_worst_s135 C n K93 v1 v2 v3 v4 v5 v6 v8 v9 k0 st res hK93 hf H locs ls (lv_sub hl [0, 1, 2, 3, 4, 5, 6, 7, 8] rfl) hP hS
def fX10_worst_s117 (n : Nat) (K93 : Int32 → Int32 → Int32 → Int32 → Int32 → Int64 → Int32 → Int32 → St → Option (Int64 × St))  (v1 : Int32) (v2 : Int32) (v3 : Int32) (v4 : Int32) (v5 : Int32) (v6 : Int64) (v8 : Int32) (v9 : Int32) (st : St) : Option (Int64 × St) := if inb v3 7 = true then ((fX1_costOfAll n (53 + 11 * v3.toNatClampNeg) st).bind (fun q => fX10_worst_s126 n K93 v1 v2 v3 v4 v5 v6 v8 v9 q.1 q.2)) else none
set_option maxHeartbeats 4000000 in
set_option maxRecDepth 100000 in
theorem wX10_worst_s117 (C : Cx p s m args meth c cX10_worst 12 wsL_law RX10 (some .long) D G ad) (n : Nat) (K93 : Int32 → Int32 → Int32 → Int32 → Int32 → Int64 → Int32 → Int32 → St → Option (Int64 × St))  (v1 : Int32) (v2 : Int32) (v3 : Int32) (v4 : Int32) (v5 : Int32) (v6 : Int64) (v8 : Int32) (v9 : Int32)   (st : St) (res : (Int64 × St)) (hK93 : ∀ (v1 : Int32) (v2 : Int32) (v3 : Int32) (v4 : Int32) (v5 : Int32) (v6 : Int64) (v8 : Int32) (v9 : Int32) (st : St), K93 v1 v2 v3 v4 v5 v6 v8 v9 st = some res → At p l e (rmK 6) s m args below meth c D G ad (MQJ D G ad below args s res) 12 st [(0, .ref (ad 0)), (1, .int v1), (2, .int v2), (3, .int v3), (4, .int v4), (5, .int v5), (6, .long v6), (8, .int v8), (9, .int v9)] 93 []) (hf : fX10_worst_s117 n K93  v1 v2 v3 v4 v5 v6 v8 v9 st = some res) : At p l e (rmK 6) s m args below meth c D G ad (MQJ D G ad below args s res) 12 st [(0, .ref (ad 0)), (1, .int v1), (2, .int v2), (3, .int v3), (4, .int v4), (5, .int v5), (6, .long v6), (8, .int v8), (9, .int v9)] 117 [] := by
  obtain ⟨hx, hb, hml, hown, hts, hr, hlk, hK, had, hSt⟩ := id C
  intro H locs ls hl hP hS
  unfold fX10_worst_s117 at hf
  refine lv_aload_n hx hb dX10_worst_117 rfl (lv_at hl 0 rfl) ?_
  refine g_getR hx hb hts inlX10 hown hK hP 0 ct_0 rfl 10 (by decide) (hts _ wm_3_4) rfl dX10_worst_118 ?_
  refine lv_iload_n hx hb dX10_worst_121 rfl (lv_at hl 3 rfl) ?_
  obtain ⟨g1, hf⟩ := gd hf
  refine g_aald hx hb hK hP 49 ct_49 g1 dX10_worst_122 ?_
  obtain ⟨q, hq, hf⟩ := bd hf
  refine gcV_j (k := 0) (o := (53 + 11 * v3.toNatClampNeg)) (As := []) (rest := []) hx hb hml hown hts hK hSt hP hS hl.1 (goodV wm_45_14 wm_45_15 wm_45_16 wm_3_6 wm_45_17) okX1_costOfAll (fl_0 (isFl_of g1)) rfl rfl (Nat.le_of_ble_eq_true rfl) (Nat.le_of_ble_eq_true rfl) rfl rfl (Nat.le_of_ble_eq_true rfl) dX10_worst_123 (kX1_costOfAll l D G ad had n (53 + 11 * v3.toNatClampNeg) (isFl_of g1)  st q hq) (fun H locs hP hS => ?_)
  exact wX10_worst_s126 C n K93 v1 v2 v3 v4 v5 v6 v8 v9 q.1 q.2 res hK93 hf H locs ls (lv_sub hl [0, 1, 2, 3, 4, 5, 6, 7, 8] rfl) hP hS
def fX10_worst_s113 (n : Nat) (K93 : Int32 → Int32 → Int32 → Int32 → Int32 → Int64 → Int32 → Int32 → St → Option (Int64 × St))  (v1 : Int32) (v2 : Int32) (v3 : Int32) (v4 : Int32) (v5 : Int32) (v6 : Int64) (v8 : Int32) (v9 : Int32) (st : St) : Option (Int64 × St) := if v2 = 0 then fX10_worst_s117 n K93 v1 v2 v3 v4 v5 v6 v8 v9 st else fX10_worst_s129 n K93 v1 v2 v3 v4 v5 v6 v8 v9 st
set_option maxHeartbeats 4000000 in
set_option maxRecDepth 100000 in
theorem wX10_worst_s113 (C : Cx p s m args meth c cX10_worst 12 wsL_law RX10 (some .long) D G ad) (n : Nat) (K93 : Int32 → Int32 → Int32 → Int32 → Int32 → Int64 → Int32 → Int32 → St → Option (Int64 × St))  (v1 : Int32) (v2 : Int32) (v3 : Int32) (v4 : Int32) (v5 : Int32) (v6 : Int64) (v8 : Int32) (v9 : Int32)   (st : St) (res : (Int64 × St)) (hK93 : ∀ (v1 : Int32) (v2 : Int32) (v3 : Int32) (v4 : Int32) (v5 : Int32) (v6 : Int64) (v8 : Int32) (v9 : Int32) (st : St), K93 v1 v2 v3 v4 v5 v6 v8 v9 st = some res → At p l e (rmK 6) s m args below meth c D G ad (MQJ D G ad below args s res) 12 st [(0, .ref (ad 0)), (1, .int v1), (2, .int v2), (3, .int v3), (4, .int v4), (5, .int v5), (6, .long v6), (8, .int v8), (9, .int v9)] 93 []) (hf : fX10_worst_s113 n K93  v1 v2 v3 v4 v5 v6 v8 v9 st = some res) : At p l e (rmK 6) s m args below meth c D G ad (MQJ D G ad below args s res) 12 st [(0, .ref (ad 0)), (1, .int v1), (2, .int v2), (3, .int v3), (4, .int v4), (5, .int v5), (6, .long v6), (8, .int v8), (9, .int v9)] 113 [] := by
  obtain ⟨hx, hb, hml, hown, hts, hr, hlk, hK, had, hSt⟩ := id C
  intro H locs ls hl hP hS
  unfold fX10_worst_s113 at hf
  refine lv_iload_n hx hb dX10_worst_113 rfl (lv_at hl 2 rfl) ?_
  refine lv_if_ne (tgt := 129) hx hb dX10_worst_114 (by decide) (fun q => ?_) (fun q => ?_)
  · exact wX10_worst_s129 C n K93 v1 v2 v3 v4 v5 v6 v8 v9 st res hK93 (ie hf q) H locs ls (lv_sub hl [0, 1, 2, 3, 4, 5, 6, 7, 8] rfl) hP hS
  · exact wX10_worst_s117 C n K93 v1 v2 v3 v4 v5 v6 v8 v9 st res hK93 (it hf q) H locs ls (lv_sub hl [0, 1, 2, 3, 4, 5, 6, 7, 8] rfl) hP hS
def fX10_worst_s101 (n : Nat) (K93 : Int32 → Int32 → Int32 → Int32 → Int32 → Int64 → Int32 → Int32 → St → Option (Int64 × St))  (v1 : Int32) (v2 : Int32) (v3 : Int32) (v4 : Int32) (v5 : Int32) (v6 : Int64) (v8 : Int32) (v9 : Int32) (st : St) : Option (Int64 × St) := (fX10_lookAhead n v1 v9 v3 v4 v5 st).bind (fun q => fX10_worst_s113 n K93 v1 v2 v3 v4 v5 v6 v8 v9 q.2)
set_option maxHeartbeats 4000000 in
set_option maxRecDepth 100000 in
theorem wX10_worst_s101 (C : Cx p s m args meth c cX10_worst 12 wsL_law RX10 (some .long) D G ad) (n : Nat) (K93 : Int32 → Int32 → Int32 → Int32 → Int32 → Int64 → Int32 → Int32 → St → Option (Int64 × St))  (v1 : Int32) (v2 : Int32) (v3 : Int32) (v4 : Int32) (v5 : Int32) (v6 : Int64) (v8 : Int32) (v9 : Int32)   (st : St) (res : (Int64 × St)) (hK93 : ∀ (v1 : Int32) (v2 : Int32) (v3 : Int32) (v4 : Int32) (v5 : Int32) (v6 : Int64) (v8 : Int32) (v9 : Int32) (st : St), K93 v1 v2 v3 v4 v5 v6 v8 v9 st = some res → At p l e (rmK 6) s m args below meth c D G ad (MQJ D G ad below args s res) 12 st [(0, .ref (ad 0)), (1, .int v1), (2, .int v2), (3, .int v3), (4, .int v4), (5, .int v5), (6, .long v6), (8, .int v8), (9, .int v9)] 93 []) (hf : fX10_worst_s101 n K93  v1 v2 v3 v4 v5 v6 v8 v9 st = some res) : At p l e (rmK 6) s m args below meth c D G ad (MQJ D G ad below args s res) 12 st [(0, .ref (ad 0)), (1, .int v1), (2, .int v2), (3, .int v3), (4, .int v4), (5, .int v5), (6, .long v6), (8, .int v8), (9, .int v9)] 101 [] := by
  obtain ⟨hx, hb, hml, hown, hts, hr, hlk, hK, had, hSt⟩ := id C
  intro H locs ls hl hP hS
  unfold fX10_worst_s101 at hf
  refine lv_aload_n hx hb dX10_worst_101 rfl (lv_at hl 0 rfl) ?_
  refine lv_iload_n hx hb dX10_worst_102 rfl (lv_at hl 1 rfl) ?_
  refine lv_iload hx hb dX10_worst_103 (lv_at hl 8 rfl) ?_
  refine lv_iload_n hx hb dX10_worst_105 rfl (lv_at hl 3 rfl) ?_
  refine lv_iload hx hb dX10_worst_106 (lv_at hl 4 rfl) ?_
  refine lv_iload hx hb dX10_worst_108 (lv_at hl 5 rfl) ?_
  obtain ⟨q, hq, hf⟩ := bd hf
  refine gcV_v (k := 5) (o := 0) (As := [.int v1, .int v9, .int v3, .int v4, .int v5]) (rest := []) hx hb hml hown hts hK hSt hP hS hl.1 (goodV wm_44_19 wm_44_20 wm_44_21 wm_1_2 wm_44_22) okX10_lookAhead ct_0 rfl rfl (Nat.le_of_ble_eq_true rfl) (Nat.le_of_ble_eq_true rfl) rfl rfl (Nat.le_of_ble_eq_true rfl) dX10_worst_110 (kX10_lookAhead l D G ad had n  v1 v9 v3 v4 v5 st q hq) (fun H locs hP hS => ?_)
  exact wX10_worst_s113 C n K93 v1 v2 v3 v4 v5 v6 v8 v9 q.2 res hK93 hf H locs ls (lv_sub hl [0, 1, 2, 3, 4, 5, 6, 7, 8] rfl) hP hS
def fX10_worst_s93 (n : Nat) (K93 : Int32 → Int32 → Int32 → Int32 → Int32 → Int64 → Int32 → Int32 → St → Option (Int64 × St))  (v1 : Int32) (v2 : Int32) (v3 : Int32) (v4 : Int32) (v5 : Int32) (v6 : Int64) (v8 : Int32) (v9 : Int32) (st : St) : Option (Int64 × St) := if (1 <<< (v3 &&& 31)) ≤ v9 then fX10_worst_s159 n v3 v4 v5 v6 v8 st else fX10_worst_s101 n K93 v1 v2 v3 v4 v5 v6 v8 v9 st
set_option maxHeartbeats 4000000 in
set_option maxRecDepth 100000 in
theorem wX10_worst_s93 (C : Cx p s m args meth c cX10_worst 12 wsL_law RX10 (some .long) D G ad) (n : Nat) (K93 : Int32 → Int32 → Int32 → Int32 → Int32 → Int64 → Int32 → Int32 → St → Option (Int64 × St))  (v1 : Int32) (v2 : Int32) (v3 : Int32) (v4 : Int32) (v5 : Int32) (v6 : Int64) (v8 : Int32) (v9 : Int32)   (st : St) (res : (Int64 × St)) (hK93 : ∀ (v1 : Int32) (v2 : Int32) (v3 : Int32) (v4 : Int32) (v5 : Int32) (v6 : Int64) (v8 : Int32) (v9 : Int32) (st : St), K93 v1 v2 v3 v4 v5 v6 v8 v9 st = some res → At p l e (rmK 6) s m args below meth c D G ad (MQJ D G ad below args s res) 12 st [(0, .ref (ad 0)), (1, .int v1), (2, .int v2), (3, .int v3), (4, .int v4), (5, .int v5), (6, .long v6), (8, .int v8), (9, .int v9)] 93 []) (hf : fX10_worst_s93 n K93  v1 v2 v3 v4 v5 v6 v8 v9 st = some res) : At p l e (rmK 6) s m args below meth c D G ad (MQJ D G ad below args s res) 12 st [(0, .ref (ad 0)), (1, .int v1), (2, .int v2), (3, .int v3), (4, .int v4), (5, .int v5), (6, .long v6), (8, .int v8), (9, .int v9)] 93 [] := by
  obtain ⟨hx, hb, hml, hown, hts, hr, hlk, hK, had, hSt⟩ := id C
  intro H locs ls hl hP hS
  unfold fX10_worst_s93 at hf
  refine lv_iload hx hb dX10_worst_93 (lv_at hl 8 rfl) ?_
  refine lv_iconst (v := 1) hx hb dX10_worst_95 (by decide) ?_
  refine lv_iload_n hx hb dX10_worst_96 rfl (lv_at hl 3 rfl) ?_
  refine lv_ishl hx hb dX10_worst_97 ?_
  refine lv_icmp_ge (tgt := 159) hx hb dX10_worst_98 (by decide) (fun q => ?_) (fun q => ?_)
  · exact wX10_worst_s159 C n v3 v4 v5 v6 v8 st res (it hf q) H locs ls (lv_sub hl [0, 3, 4, 5, 6, 7] rfl) hP hS
  · exact wX10_worst_s101 C n K93 v1 v2 v3 v4 v5 v6 v8 v9 st res hK93 (ie hf q) H locs ls (lv_sub hl [0, 1, 2, 3, 4, 5, 6, 7, 8] rfl) hP hS
def fX10_worst_L93 (n : Nat)   : Nat → Int32 → Int32 → Int32 → Int32 → Int32 → Int64 → Int32 → Int32 → St → Option (Int64 × St)
  | 0, _, _, _, _, _, _, _, _, _ => none
  | k + 1, v1, v2, v3, v4, v5, v6, v8, v9, st => fX10_worst_s93 n (fX10_worst_L93 n k)  v1 v2 v3 v4 v5 v6 v8 v9 st
theorem wX10_worst_L93 (C : Cx p s m args meth c cX10_worst 12 wsL_law RX10 (some .long) D G ad) (n : Nat)    (res : (Int64 × St))  : ∀ (k : Nat) (v1 : Int32) (v2 : Int32) (v3 : Int32) (v4 : Int32) (v5 : Int32) (v6 : Int64) (v8 : Int32) (v9 : Int32)  (st : St), fX10_worst_L93 n k v1 v2 v3 v4 v5 v6 v8 v9 st = some res → At p l e (rmK 6) s m args below meth c D G ad (MQJ D G ad below args s res) 12 st [(0, .ref (ad 0)), (1, .int v1), (2, .int v2), (3, .int v3), (4, .int v4), (5, .int v5), (6, .long v6), (8, .int v8), (9, .int v9)] 93 [] := by
  intro k
  induction k with
  | zero => intro v1 v2 v3 v4 v5 v6 v8 v9  st h; exact absurd h (by intro q; cases q)
  | succ k ih => intro v1 v2 v3 v4 v5 v6 v8 v9  st h; exact wX10_worst_s93 C n (fX10_worst_L93 n k)  v1 v2 v3 v4 v5 v6 v8 v9   st res ih h
def fX10_worst_s82 (n : Nat)   (v1 : Int32) (v2 : Int32) (v3 : Int32) (v4 : Int32) (v5 : Int32) (st : St) : Option (Int64 × St) := fX10_worst_L93 n n v1 v2 v3 v4 v5 (-1) 0 0 st
set_option maxHeartbeats 4000000 in
set_option maxRecDepth 100000 in
theorem wX10_worst_s82 (C : Cx p s m args meth c cX10_worst 12 wsL_law RX10 (some .long) D G ad) (n : Nat)   (v1 : Int32) (v2 : Int32) (v3 : Int32) (v4 : Int32) (v5 : Int32)   (st : St) (res : (Int64 × St))  (hf : fX10_worst_s82 n   v1 v2 v3 v4 v5 st = some res) : At p l e (rmK 6) s m args below meth c D G ad (MQJ D G ad below args s res) 12 st [(0, .ref (ad 0)), (1, .int v1), (2, .int v2), (3, .int v3), (4, .int v4), (5, .int v5)] 82 [] := by
  obtain ⟨hx, hb, hml, hown, hts, hr, hlk, hK, had, hSt⟩ := id C
  intro H locs ls hl hP hS
  unfold fX10_worst_s82 at hf
  refine lv_ldc2 hx hb hown (hts _ wm_44_15) dX10_worst_82 ?_
  refine lv_lstore (lv' := [(6, .long (-1)), (0, .ref (ad 0)), (1, .int v1), (2, .int v2), (3, .int v3), (4, .int v4), (5, .int v5)]) hx hb dX10_worst_85 hl (by decide) rfl (fun ls hl => ?_)
  refine lv_iconst (v := 0) hx hb dX10_worst_87 (by decide) ?_
  refine lv_istore (lv' := [(8, .int 0), (6, .long (-1)), (0, .ref (ad 0)), (1, .int v1), (2, .int v2), (3, .int v3), (4, .int v4), (5, .int v5)]) hx hb dX10_worst_88 hl (by decide) rfl (fun ls hl => ?_)
  refine lv_iconst (v := 0) hx hb dX10_worst_90 (by decide) ?_
  refine lv_istore (lv' := [(9, .int 0), (8, .int 0), (6, .long (-1)), (0, .ref (ad 0)), (1, .int v1), (2, .int v2), (3, .int v3), (4, .int v4), (5, .int v5)]) hx hb dX10_worst_91 hl (by decide) rfl (fun ls hl => ?_)
  exact wX10_worst_L93 C n res n v1 v2 v3 v4 v5 (-1) 0 0 st hf H locs ls (lv_sub hl [3, 4, 5, 6, 7, 8, 2, 1, 0] rfl) hP hS
def fX10_worst_s78 (n : Nat)    (st : St) : Option (Int64 × St) := some ((-3), st)
set_option maxHeartbeats 4000000 in
set_option maxRecDepth 100000 in
theorem wX10_worst_s78 (C : Cx p s m args meth c cX10_worst 12 wsL_law RX10 (some .long) D G ad) (n : Nat)      (st : St) (res : (Int64 × St))  (hf : fX10_worst_s78 n    st = some res) : At p l e (rmK 6) s m args below meth c D G ad (MQJ D G ad below args s res) 12 st [] 78 [] := by
  obtain ⟨hx, hb, hml, hown, hts, hr, hlk, hK, had, hSt⟩ := id C
  intro H locs ls hl hP hS
  unfold fX10_worst_s78 at hf
  refine lv_ldc2 hx hb hown (hts _ wm_44_17) dX10_worst_78 ?_
  exact g_lret hx hb hr hlk hP hS dX10_worst_81 hf
def fX10_worst_s63 (n : Nat)   (v1 : Int32) (v2 : Int32) (v3 : Int32) (v4 : Int32) (v5 : Int32) (st : St) : Option (Int64 × St) := if ((st.1 53 10) + v3) ≤ 400 then fX10_worst_s82 n v1 v2 v3 v4 v5 st else fX10_worst_s78 n st
set_option maxHeartbeats 4000000 in
set_option maxRecDepth 100000 in
theorem wX10_worst_s63 (C : Cx p s m args meth c cX10_worst 12 wsL_law RX10 (some .long) D G ad) (n : Nat)   (v1 : Int32) (v2 : Int32) (v3 : Int32) (v4 : Int32) (v5 : Int32)   (st : St) (res : (Int64 × St))  (hf : fX10_worst_s63 n   v1 v2 v3 v4 v5 st = some res) : At p l e (rmK 6) s m args below meth c D G ad (MQJ D G ad below args s res) 12 st [(0, .ref (ad 0)), (1, .int v1), (2, .int v2), (3, .int v3), (4, .int v4), (5, .int v5)] 63 [] := by
  obtain ⟨hx, hb, hml, hown, hts, hr, hlk, hK, had, hSt⟩ := id C
  intro H locs ls hl hP hS
  unfold fX10_worst_s63 at hf
  refine lv_aload_n hx hb dX10_worst_63 rfl (lv_at hl 0 rfl) ?_
  refine g_getR hx hb hts inlX10 hown hK hP 0 ct_0 rfl 11 (by decide) (hts _ wm_3_7) rfl dX10_worst_64 ?_
  refine g_getI hx hb hts inlX1 hown hK hP 53 ct_53 rfl 10 (by decide) (hts _ wm_9_10) rfl dX10_worst_67 ?_
  refine lv_iload_n hx hb dX10_worst_70 rfl (lv_at hl 3 rfl) ?_
  refine lv_iadd hx hb dX10_worst_71 ?_
  refine lv_sipush (v := 400) hx hb dX10_worst_72 (by decide) ?_
  refine lv_icmp_le (tgt := 82) hx hb dX10_worst_75 (by decide) (fun q => ?_) (fun q => ?_)
  · exact wX10_worst_s82 C n v1 v2 v3 v4 v5 st res (it hf q) H locs ls (lv_sub hl [0, 1, 2, 3, 4, 5] rfl) hP hS
  · exact wX10_worst_s78 C n st res (ie hf q) H locs ls (lv_sub hl [] rfl) hP hS
def fX10_worst_s56 (n : Nat)   (v1 : Int32) (v2 : Int32) (v3 : Int32) (v4 : Int32) (v5 : Int32) (k0 : Int32) (st : St) : Option (Int64 × St) := if k0 = 0 then fX10_worst_s59 n st else fX10_worst_s63 n v1 v2 v3 v4 v5 st
set_option maxHeartbeats 4000000 in
set_option maxRecDepth 100000 in
theorem wX10_worst_s56 (C : Cx p s m args meth c cX10_worst 12 wsL_law RX10 (some .long) D G ad) (n : Nat)   (v1 : Int32) (v2 : Int32) (v3 : Int32) (v4 : Int32) (v5 : Int32) (k0 : Int32)   (st : St) (res : (Int64 × St))  (hf : fX10_worst_s56 n   v1 v2 v3 v4 v5 k0 st = some res) : At p l e (rmK 6) s m args below meth c D G ad (MQJ D G ad below args s res) 12 st [(0, .ref (ad 0)), (1, .int v1), (2, .int v2), (3, .int v3), (4, .int v4), (5, .int v5)] 56 [.int k0] := by
  obtain ⟨hx, hb, hml, hown, hts, hr, hlk, hK, had, hSt⟩ := id C
  intro H locs ls hl hP hS
  unfold fX10_worst_s56 at hf
  refine lv_if_ne (tgt := 63) hx hb dX10_worst_56 (by decide) (fun q => ?_) (fun q => ?_)
  · exact wX10_worst_s63 C n v1 v2 v3 v4 v5 st res (ie hf q) H locs ls (lv_sub hl [0, 1, 2, 3, 4, 5] rfl) hP hS
  · exact wX10_worst_s59 C n st res (it hf q) H locs ls (lv_sub hl [] rfl) hP hS
def fX10_worst_s46 (n : Nat)   (v1 : Int32) (v2 : Int32) (v3 : Int32) (v4 : Int32) (v5 : Int32) (st : St) : Option (Int64 × St) := (fX10_within n v5 v4 999 st).bind (fun q => fX10_worst_s56 n v1 v2 v3 v4 v5 q.1 q.2)
set_option maxHeartbeats 4000000 in
set_option maxRecDepth 100000 in
theorem wX10_worst_s46 (C : Cx p s m args meth c cX10_worst 12 wsL_law RX10 (some .long) D G ad) (n : Nat)   (v1 : Int32) (v2 : Int32) (v3 : Int32) (v4 : Int32) (v5 : Int32)   (st : St) (res : (Int64 × St))  (hf : fX10_worst_s46 n   v1 v2 v3 v4 v5 st = some res) : At p l e (rmK 6) s m args below meth c D G ad (MQJ D G ad below args s res) 12 st [(0, .ref (ad 0)), (1, .int v1), (2, .int v2), (3, .int v3), (4, .int v4), (5, .int v5)] 46 [] := by
  obtain ⟨hx, hb, hml, hown, hts, hr, hlk, hK, had, hSt⟩ := id C
  intro H locs ls hl hP hS
  unfold fX10_worst_s46 at hf
  refine lv_iload hx hb dX10_worst_46 (lv_at hl 5 rfl) ?_
  refine lv_iload hx hb dX10_worst_48 (lv_at hl 4 rfl) ?_
  refine lv_sipush (v := 999) hx hb dX10_worst_50 (by decide) ?_
  obtain ⟨q, hq, hf⟩ := bd hf
  refine gcS_i (k := 0) (As := [.int v5, .int v4, .int 999]) (rest := []) hx hb hml hown hts hK hSt hP hS hl.1 (goodS wm_9_17 wm_9_18 wm_1_2 wm_9_19) okX10_within (Nat.le_of_ble_eq_true rfl) (Nat.le_of_ble_eq_true rfl) rfl rfl (Nat.le_of_ble_eq_true rfl) dX10_worst_53 (kX10_within l D G ad had n  v5 v4 999 st q hq) (fun H locs hP hS => ?_)
  exact wX10_worst_s56 C n v1 v2 v3 v4 v5 q.1 q.2 res hf H locs ls (lv_sub hl [0, 1, 2, 3, 4, 5] rfl) hP hS
def fX10_worst_s43 (n : Nat)   (v1 : Int32) (v2 : Int32) (v3 : Int32) (v4 : Int32) (v5 : Int32) (k0 : Int32) (st : St) : Option (Int64 × St) := if k0 = 0 then fX10_worst_s59 n st else fX10_worst_s46 n v1 v2 v3 v4 v5 st
set_option maxHeartbeats 4000000 in
set_option maxRecDepth 100000 in
theorem wX10_worst_s43 (C : Cx p s m args meth c cX10_worst 12 wsL_law RX10 (some .long) D G ad) (n : Nat)   (v1 : Int32) (v2 : Int32) (v3 : Int32) (v4 : Int32) (v5 : Int32) (k0 : Int32)   (st : St) (res : (Int64 × St))  (hf : fX10_worst_s43 n   v1 v2 v3 v4 v5 k0 st = some res) : At p l e (rmK 6) s m args below meth c D G ad (MQJ D G ad below args s res) 12 st [(0, .ref (ad 0)), (1, .int v1), (2, .int v2), (3, .int v3), (4, .int v4), (5, .int v5)] 43 [.int k0] := by
  obtain ⟨hx, hb, hml, hown, hts, hr, hlk, hK, had, hSt⟩ := id C
  intro H locs ls hl hP hS
  unfold fX10_worst_s43 at hf
  refine lv_if_eq (tgt := 59) hx hb dX10_worst_43 (by decide) (fun q => ?_) (fun q => ?_)
  · exact wX10_worst_s59 C n st res (it hf q) H locs ls (lv_sub hl [] rfl) hP hS
  · exact wX10_worst_s46 C n v1 v2 v3 v4 v5 st res (ie hf q) H locs ls (lv_sub hl [0, 1, 2, 3, 4, 5] rfl) hP hS
def fX10_worst_s34 (n : Nat)   (v1 : Int32) (v2 : Int32) (v3 : Int32) (v4 : Int32) (v5 : Int32) (st : St) : Option (Int64 × St) := (fX10_within n v4 0 999 st).bind (fun q => fX10_worst_s43 n v1 v2 v3 v4 v5 q.1 q.2)
set_option maxHeartbeats 4000000 in
set_option maxRecDepth 100000 in
theorem wX10_worst_s34 (C : Cx p s m args meth c cX10_worst 12 wsL_law RX10 (some .long) D G ad) (n : Nat)   (v1 : Int32) (v2 : Int32) (v3 : Int32) (v4 : Int32) (v5 : Int32)   (st : St) (res : (Int64 × St))  (hf : fX10_worst_s34 n   v1 v2 v3 v4 v5 st = some res) : At p l e (rmK 6) s m args below meth c D G ad (MQJ D G ad below args s res) 12 st [(0, .ref (ad 0)), (1, .int v1), (2, .int v2), (3, .int v3), (4, .int v4), (5, .int v5)] 34 [] := by
  obtain ⟨hx, hb, hml, hown, hts, hr, hlk, hK, had, hSt⟩ := id C
  intro H locs ls hl hP hS
  unfold fX10_worst_s34 at hf
  refine lv_iload hx hb dX10_worst_34 (lv_at hl 4 rfl) ?_
  refine lv_iconst (v := 0) hx hb dX10_worst_36 (by decide) ?_
  refine lv_sipush (v := 999) hx hb dX10_worst_37 (by decide) ?_
  obtain ⟨q, hq, hf⟩ := bd hf
  refine gcS_i (k := 0) (As := [.int v4, .int 0, .int 999]) (rest := []) hx hb hml hown hts hK hSt hP hS hl.1 (goodS wm_9_17 wm_9_18 wm_1_2 wm_9_19) okX10_within (Nat.le_of_ble_eq_true rfl) (Nat.le_of_ble_eq_true rfl) rfl rfl (Nat.le_of_ble_eq_true rfl) dX10_worst_40 (kX10_within l D G ad had n  v4 0 999 st q hq) (fun H locs hP hS => ?_)
  exact wX10_worst_s43 C n v1 v2 v3 v4 v5 q.1 q.2 res hf H locs ls (lv_sub hl [0, 1, 2, 3, 4, 5] rfl) hP hS
def fX10_worst_s31 (n : Nat)   (v1 : Int32) (v2 : Int32) (v3 : Int32) (v4 : Int32) (v5 : Int32) (k0 : Int32) (st : St) : Option (Int64 × St) := if k0 = 0 then fX10_worst_s59 n st else fX10_worst_s34 n v1 v2 v3 v4 v5 st
set_option maxHeartbeats 4000000 in
set_option maxRecDepth 100000 in
theorem wX10_worst_s31 (C : Cx p s m args meth c cX10_worst 12 wsL_law RX10 (some .long) D G ad) (n : Nat)   (v1 : Int32) (v2 : Int32) (v3 : Int32) (v4 : Int32) (v5 : Int32) (k0 : Int32)   (st : St) (res : (Int64 × St))  (hf : fX10_worst_s31 n   v1 v2 v3 v4 v5 k0 st = some res) : At p l e (rmK 6) s m args below meth c D G ad (MQJ D G ad below args s res) 12 st [(0, .ref (ad 0)), (1, .int v1), (2, .int v2), (3, .int v3), (4, .int v4), (5, .int v5)] 31 [.int k0] := by
  obtain ⟨hx, hb, hml, hown, hts, hr, hlk, hK, had, hSt⟩ := id C
  intro H locs ls hl hP hS
  unfold fX10_worst_s31 at hf
  refine lv_if_eq (tgt := 59) hx hb dX10_worst_31 (by decide) (fun q => ?_) (fun q => ?_)
  · exact wX10_worst_s59 C n st res (it hf q) H locs ls (lv_sub hl [] rfl) hP hS
  · exact wX10_worst_s34 C n v1 v2 v3 v4 v5 st res (ie hf q) H locs ls (lv_sub hl [0, 1, 2, 3, 4, 5] rfl) hP hS
def fX10_worst_s24 (n : Nat)   (v1 : Int32) (v2 : Int32) (v3 : Int32) (v4 : Int32) (v5 : Int32) (st : St) : Option (Int64 × St) := (fX10_within n v3 1 6 st).bind (fun q => fX10_worst_s31 n v1 v2 v3 v4 v5 q.1 q.2)
set_option maxHeartbeats 4000000 in
set_option maxRecDepth 100000 in
theorem wX10_worst_s24 (C : Cx p s m args meth c cX10_worst 12 wsL_law RX10 (some .long) D G ad) (n : Nat)   (v1 : Int32) (v2 : Int32) (v3 : Int32) (v4 : Int32) (v5 : Int32)   (st : St) (res : (Int64 × St))  (hf : fX10_worst_s24 n   v1 v2 v3 v4 v5 st = some res) : At p l e (rmK 6) s m args below meth c D G ad (MQJ D G ad below args s res) 12 st [(0, .ref (ad 0)), (1, .int v1), (2, .int v2), (3, .int v3), (4, .int v4), (5, .int v5)] 24 [] := by
  obtain ⟨hx, hb, hml, hown, hts, hr, hlk, hK, had, hSt⟩ := id C
  intro H locs ls hl hP hS
  unfold fX10_worst_s24 at hf
  refine lv_iload_n hx hb dX10_worst_24 rfl (lv_at hl 3 rfl) ?_
  refine lv_iconst (v := 1) hx hb dX10_worst_25 (by decide) ?_
  refine lv_bipush (v := 6) hx hb dX10_worst_26 (by decide) ?_
  obtain ⟨q, hq, hf⟩ := bd hf
  refine gcS_i (k := 0) (As := [.int v3, .int 1, .int 6]) (rest := []) hx hb hml hown hts hK hSt hP hS hl.1 (goodS wm_9_17 wm_9_18 wm_1_2 wm_9_19) okX10_within (Nat.le_of_ble_eq_true rfl) (Nat.le_of_ble_eq_true rfl) rfl rfl (Nat.le_of_ble_eq_true rfl) dX10_worst_28 (kX10_within l D G ad had n  v3 1 6 st q hq) (fun H locs hP hS => ?_)
  exact wX10_worst_s31 C n v1 v2 v3 v4 v5 q.1 q.2 res hf H locs ls (lv_sub hl [0, 1, 2, 3, 4, 5] rfl) hP hS
def fX10_worst_s17 (n : Nat)   (v1 : Int32) (v2 : Int32) (v3 : Int32) (v4 : Int32) (v5 : Int32) (k0 : Int32) (st : St) : Option (Int64 × St) := if k0 = 0 then fX10_worst_s20 n st else fX10_worst_s24 n v1 v2 v3 v4 v5 st
set_option maxHeartbeats 4000000 in
set_option maxRecDepth 100000 in
theorem wX10_worst_s17 (C : Cx p s m args meth c cX10_worst 12 wsL_law RX10 (some .long) D G ad) (n : Nat)   (v1 : Int32) (v2 : Int32) (v3 : Int32) (v4 : Int32) (v5 : Int32) (k0 : Int32)   (st : St) (res : (Int64 × St))  (hf : fX10_worst_s17 n   v1 v2 v3 v4 v5 k0 st = some res) : At p l e (rmK 6) s m args below meth c D G ad (MQJ D G ad below args s res) 12 st [(0, .ref (ad 0)), (1, .int v1), (2, .int v2), (3, .int v3), (4, .int v4), (5, .int v5)] 17 [.int k0] := by
  obtain ⟨hx, hb, hml, hown, hts, hr, hlk, hK, had, hSt⟩ := id C
  intro H locs ls hl hP hS
  unfold fX10_worst_s17 at hf
  refine lv_if_ne (tgt := 24) hx hb dX10_worst_17 (by decide) (fun q => ?_) (fun q => ?_)
  · exact wX10_worst_s24 C n v1 v2 v3 v4 v5 st res (ie hf q) H locs ls (lv_sub hl [0, 1, 2, 3, 4, 5] rfl) hP hS
  · exact wX10_worst_s20 C n st res (it hf q) H locs ls (lv_sub hl [] rfl) hP hS
def fX10_worst_s11 (n : Nat)   (v1 : Int32) (v2 : Int32) (v3 : Int32) (v4 : Int32) (v5 : Int32) (st : St) : Option (Int64 × St) := (fX10_within n v2 0 1 st).bind (fun q => fX10_worst_s17 n v1 v2 v3 v4 v5 q.1 q.2)
set_option maxHeartbeats 4000000 in
set_option maxRecDepth 100000 in
theorem wX10_worst_s11 (C : Cx p s m args meth c cX10_worst 12 wsL_law RX10 (some .long) D G ad) (n : Nat)   (v1 : Int32) (v2 : Int32) (v3 : Int32) (v4 : Int32) (v5 : Int32)   (st : St) (res : (Int64 × St))  (hf : fX10_worst_s11 n   v1 v2 v3 v4 v5 st = some res) : At p l e (rmK 6) s m args below meth c D G ad (MQJ D G ad below args s res) 12 st [(0, .ref (ad 0)), (1, .int v1), (2, .int v2), (3, .int v3), (4, .int v4), (5, .int v5)] 11 [] := by
  obtain ⟨hx, hb, hml, hown, hts, hr, hlk, hK, had, hSt⟩ := id C
  intro H locs ls hl hP hS
  unfold fX10_worst_s11 at hf
  refine lv_iload_n hx hb dX10_worst_11 rfl (lv_at hl 2 rfl) ?_
  refine lv_iconst (v := 0) hx hb dX10_worst_12 (by decide) ?_
  refine lv_iconst (v := 1) hx hb dX10_worst_13 (by decide) ?_
  obtain ⟨q, hq, hf⟩ := bd hf
  refine gcS_i (k := 0) (As := [.int v2, .int 0, .int 1]) (rest := []) hx hb hml hown hts hK hSt hP hS hl.1 (goodS wm_9_17 wm_9_18 wm_1_2 wm_9_19) okX10_within (Nat.le_of_ble_eq_true rfl) (Nat.le_of_ble_eq_true rfl) rfl rfl (Nat.le_of_ble_eq_true rfl) dX10_worst_14 (kX10_within l D G ad had n  v2 0 1 st q hq) (fun H locs hP hS => ?_)
  exact wX10_worst_s17 C n v1 v2 v3 v4 v5 q.1 q.2 res hf H locs ls (lv_sub hl [0, 1, 2, 3, 4, 5] rfl) hP hS
def fX10_worst_s8 (n : Nat)   (v1 : Int32) (v2 : Int32) (v3 : Int32) (v4 : Int32) (v5 : Int32) (k0 : Int32) (st : St) : Option (Int64 × St) := if k0 = 0 then fX10_worst_s20 n st else fX10_worst_s11 n v1 v2 v3 v4 v5 st
set_option maxHeartbeats 4000000 in
set_option maxRecDepth 100000 in
theorem wX10_worst_s8 (C : Cx p s m args meth c cX10_worst 12 wsL_law RX10 (some .long) D G ad) (n : Nat)   (v1 : Int32) (v2 : Int32) (v3 : Int32) (v4 : Int32) (v5 : Int32) (k0 : Int32)   (st : St) (res : (Int64 × St))  (hf : fX10_worst_s8 n   v1 v2 v3 v4 v5 k0 st = some res) : At p l e (rmK 6) s m args below meth c D G ad (MQJ D G ad below args s res) 12 st [(0, .ref (ad 0)), (1, .int v1), (2, .int v2), (3, .int v3), (4, .int v4), (5, .int v5)] 8 [.int k0] := by
  obtain ⟨hx, hb, hml, hown, hts, hr, hlk, hK, had, hSt⟩ := id C
  intro H locs ls hl hP hS
  unfold fX10_worst_s8 at hf
  refine lv_if_eq (tgt := 20) hx hb dX10_worst_8 (by decide) (fun q => ?_) (fun q => ?_)
  · exact wX10_worst_s20 C n st res (it hf q) H locs ls (lv_sub hl [] rfl) hP hS
  · exact wX10_worst_s11 C n v1 v2 v3 v4 v5 st res (ie hf q) H locs ls (lv_sub hl [0, 1, 2, 3, 4, 5] rfl) hP hS
def fX10_worst_s0 (n : Nat)   (v1 : Int32) (v2 : Int32) (v3 : Int32) (v4 : Int32) (v5 : Int32) (st : St) : Option (Int64 × St) := (fX6_isShop n v1 st).bind (fun q => fX10_worst_s8 n v1 v2 v3 v4 v5 q.1 q.2)
set_option maxHeartbeats 4000000 in
set_option maxRecDepth 100000 in
theorem wX10_worst_s0 (C : Cx p s m args meth c cX10_worst 12 wsL_law RX10 (some .long) D G ad) (n : Nat)   (v1 : Int32) (v2 : Int32) (v3 : Int32) (v4 : Int32) (v5 : Int32)   (st : St) (res : (Int64 × St))  (hf : fX10_worst_s0 n   v1 v2 v3 v4 v5 st = some res) : At p l e (rmK 6) s m args below meth c D G ad (MQJ D G ad below args s res) 12 st [(0, .ref (ad 0)), (1, .int v1), (2, .int v2), (3, .int v3), (4, .int v4), (5, .int v5)] 0 [] := by
  obtain ⟨hx, hb, hml, hown, hts, hr, hlk, hK, had, hSt⟩ := id C
  intro H locs ls hl hP hS
  unfold fX10_worst_s0 at hf
  refine lv_aload_n hx hb dX10_worst_0 rfl (lv_at hl 0 rfl) ?_
  refine g_getR hx hb hts inlX10 hown hK hP 0 ct_0 rfl 0 (by decide) (hts _ wm_1_16) rfl dX10_worst_1 ?_
  refine lv_iload_n hx hb dX10_worst_4 rfl (lv_at hl 1 rfl) ?_
  obtain ⟨q, hq, hf⟩ := bd hf
  refine gcV_i (k := 1) (o := 1) (As := [.int v1]) (rest := []) hx hb hml hown hts hK hSt hP hS hl.1 (goodV wm_9_20 wm_9_21 wm_9_22 wm_1_15 wm_9_23) okX6_isShop ct_1 rfl rfl (Nat.le_of_ble_eq_true rfl) (Nat.le_of_ble_eq_true rfl) rfl rfl (Nat.le_of_ble_eq_true rfl) dX10_worst_5 (kX6_isShop l D G ad had n  v1 st q hq) (fun H locs hP hS => ?_)
  exact wX10_worst_s8 C n v1 v2 v3 v4 v5 q.1 q.2 res hf H locs ls (lv_sub hl [0, 1, 2, 3, 4, 5] rfl) hP hS
def fX10_worst (n : Nat)  (a1 : Int32) (a2 : Int32) (a3 : Int32) (a4 : Int32) (a5 : Int32) (st : St) : Option (Int64 × St) := fX10_worst_s0 n a1 a2 a3 a4 a5 st
theorem okX10_worst : okY yX10_worst RX10 5 := by unfold okY; decide +kernel
end
set_option maxRecDepth 100000 in
theorem kX10_worst (l : Launch) (D : va_G) (G : G3) (ad : Nat → Nat) (had : Adr ad) (n : Nat)   (a1 : Int32) (a2 : Int32) (a3 : Int32) (a4 : Int32) (a5 : Int32) (st : St) (res : (Int64 × St)) (hf : fX10_worst n  a1 a2 a3 a4 a5 st = some res) {sz : Nat} : CtJ l yX10_worst (wsU yX10_worst cX10_worst 12 (some .long)) (rmK 6) D G ad sz [.ref (ad 0), .int a1, .int a2, .int a3, .int a4, .int a5] st res := by
  refine Met.ofW (cc := cX10_worst) (maxL := 12) (ret := (some .long)) (by decide) rfl ?_
  intro p e s m args below meth c s₁ B hml hv
  obtain ⟨rfl, hsz, hP, hK, hSt⟩ := hv
  have hts := atoms_spec (ws := wsU yX10_worst cX10_worst 12 (some .long)) B.pre
  have C : Cx p s m _ meth c cX10_worst 12 wsL_law RX10 (some .long) D G ad := ⟨B.exec, B.bytes, hml, findClass_of_methodNamed B.named, fun w h => hts w (List.mem_cons_of_mem _ h), B.returns, B.notSynchronized, hK, had, hSt⟩
  subst hsz
  have hl := lv_entry ([.ref (ad 0), .int a1, .int a2, .int a3, .int a4, .int a5]) (n := 12) (Nat.le_of_ble_eq_true rfl)
  rw [lg_entry_eq]
  generalize (lg_sl ([.ref (ad 0), .int a1, .int a2, .int a3, .int a4, .int a5]) ++ List.replicate (12 - (lg_sl ([.ref (ad 0), .int a1, .int a2, .int a3, .int a4, .int a5])).length) Slot.unset).toArray = ls at hl ⊢
  exact wX10_worst_s0 C n  a1 a2 a3 a4 a5   st res hf s.heap [] ls (lv_sub hl [0, 1, 2, 3, 4, 5] rfl) hP va_S.rf
section
variable {p : Program} {l : Launch} {e : Env} {s : State} {m : MethodId} {args : Array Value} {below : List Frame} {meth : Method} {c : Code} {D : va_G} {G : G3} {ad : Nat → Nat}
def fX10_worstAt_s22 (n : Nat)   (k0 : Int32) (st : St) : Option (Int32 × St) := some (k0, st)
set_option maxHeartbeats 4000000 in
set_option maxRecDepth 100000 in
theorem wX10_worstAt_s22 (C : Cx p s m args meth c cX10_worstAt 2 wsL_law RX10 (some .int) D G ad) (n : Nat)   (k0 : Int32)   (st : St) (res : (Int32 × St))  (hf : fX10_worstAt_s22 n   k0 st = some res) : At p l e (rmK 0) s m args below meth c D G ad (MQI D G ad below args s res) 2 st [] 22 [.int k0] := by
  obtain ⟨hx, hb, hml, hown, hts, hr, hlk, hK, had, hSt⟩ := id C
  intro H locs ls hl hP hS
  unfold fX10_worstAt_s22 at hf
  exact g_iret hx hb hr hlk hP hS dX10_worstAt_22 hf
def fX10_worstAt_s21 (n : Nat)    (st : St) : Option (Int32 × St) := fX10_worstAt_s22 n (-1) st
set_option maxHeartbeats 4000000 in
set_option maxRecDepth 100000 in
theorem wX10_worstAt_s21 (C : Cx p s m args meth c cX10_worstAt 2 wsL_law RX10 (some .int) D G ad) (n : Nat)      (st : St) (res : (Int32 × St))  (hf : fX10_worstAt_s21 n    st = some res) : At p l e (rmK 0) s m args below meth c D G ad (MQI D G ad below args s res) 2 st [] 21 [] := by
  obtain ⟨hx, hb, hml, hown, hts, hr, hlk, hK, had, hSt⟩ := id C
  intro H locs ls hl hP hS
  unfold fX10_worstAt_s21 at hf
  refine lv_iconst (v := (-1)) hx hb dX10_worstAt_21 (by decide) ?_
  exact wX10_worstAt_s22 C n (-1) st res hf H locs ls (lv_sub hl [] rfl) hP hS
def fX10_worstAt_s12 (n : Nat)   (v1 : Int32) (st : St) : Option (Int32 × St) := if inb v1 6 = true then (fX10_worstAt_s22 n (st.1 52 v1.toNatClampNeg) st) else none
set_option maxHeartbeats 4000000 in
set_option maxRecDepth 100000 in
theorem wX10_worstAt_s12 (C : Cx p s m args meth c cX10_worstAt 2 wsL_law RX10 (some .int) D G ad) (n : Nat)   (v1 : Int32)   (st : St) (res : (Int32 × St))  (hf : fX10_worstAt_s12 n   v1 st = some res) : At p l e (rmK 0) s m args below meth c D G ad (MQI D G ad below args s res) 2 st [(0, .ref (ad 0)), (1, .int v1)] 12 [] := by
  obtain ⟨hx, hb, hml, hown, hts, hr, hlk, hK, had, hSt⟩ := id C
  intro H locs ls hl hP hS
  unfold fX10_worstAt_s12 at hf
  refine lv_aload_n hx hb dX10_worstAt_12 rfl (lv_at hl 0 rfl) ?_
  refine g_getR hx hb hts inlX10 hown hK hP 0 ct_0 rfl 14 (by decide) (hts _ wm_3_11) rfl dX10_worstAt_13 ?_
  refine lv_iload_n hx hb dX10_worstAt_16 rfl (lv_at hl 1 rfl) ?_
  obtain ⟨g1, hf⟩ := gd hf
  refine g_iald hx hb hK hP 52 ct_52 g1 dX10_worstAt_17 ?_
  refine lv_goto (tgt := 22) hx hb dX10_worstAt_18 (by decide) ?_
  exact wX10_worstAt_s22 C n (st.1 52 v1.toNatClampNeg) st res hf H locs ls (lv_sub hl [] rfl) hP hS
def fX10_worstAt_s4 (n : Nat)   (v1 : Int32) (st : St) : Option (Int32 × St) := if (st.1 0 15) ≤ v1 then fX10_worstAt_s21 n st else fX10_worstAt_s12 n v1 st
set_option maxHeartbeats 4000000 in
set_option maxRecDepth 100000 in
theorem wX10_worstAt_s4 (C : Cx p s m args meth c cX10_worstAt 2 wsL_law RX10 (some .int) D G ad) (n : Nat)   (v1 : Int32)   (st : St) (res : (Int32 × St))  (hf : fX10_worstAt_s4 n   v1 st = some res) : At p l e (rmK 0) s m args below meth c D G ad (MQI D G ad below args s res) 2 st [(0, .ref (ad 0)), (1, .int v1)] 4 [] := by
  obtain ⟨hx, hb, hml, hown, hts, hr, hlk, hK, had, hSt⟩ := id C
  intro H locs ls hl hP hS
  unfold fX10_worstAt_s4 at hf
  refine lv_iload_n hx hb dX10_worstAt_4 rfl (lv_at hl 1 rfl) ?_
  refine lv_aload_n hx hb dX10_worstAt_5 rfl (lv_at hl 0 rfl) ?_
  refine g_getI hx hb hts inlX10 hown hK hP 0 ct_0 rfl 15 (by decide) (hts _ wm_44_18) rfl dX10_worstAt_6 ?_
  refine lv_icmp_ge (tgt := 21) hx hb dX10_worstAt_9 (by decide) (fun q => ?_) (fun q => ?_)
  · exact wX10_worstAt_s21 C n st res (it hf q) H locs ls (lv_sub hl [] rfl) hP hS
  · exact wX10_worstAt_s12 C n v1 st res (ie hf q) H locs ls (lv_sub hl [0, 1] rfl) hP hS
def fX10_worstAt_s0 (n : Nat)   (v1 : Int32) (st : St) : Option (Int32 × St) := if v1 < 0 then fX10_worstAt_s21 n st else fX10_worstAt_s4 n v1 st
set_option maxHeartbeats 4000000 in
set_option maxRecDepth 100000 in
theorem wX10_worstAt_s0 (C : Cx p s m args meth c cX10_worstAt 2 wsL_law RX10 (some .int) D G ad) (n : Nat)   (v1 : Int32)   (st : St) (res : (Int32 × St))  (hf : fX10_worstAt_s0 n   v1 st = some res) : At p l e (rmK 0) s m args below meth c D G ad (MQI D G ad below args s res) 2 st [(0, .ref (ad 0)), (1, .int v1)] 0 [] := by
  obtain ⟨hx, hb, hml, hown, hts, hr, hlk, hK, had, hSt⟩ := id C
  intro H locs ls hl hP hS
  unfold fX10_worstAt_s0 at hf
  refine lv_iload_n hx hb dX10_worstAt_0 rfl (lv_at hl 1 rfl) ?_
  refine lv_if_lt (tgt := 21) hx hb dX10_worstAt_1 (by decide) (fun q => ?_) (fun q => ?_)
  · exact wX10_worstAt_s21 C n st res (it hf q) H locs ls (lv_sub hl [] rfl) hP hS
  · exact wX10_worstAt_s4 C n v1 st res (ie hf q) H locs ls (lv_sub hl [0, 1] rfl) hP hS
def fX10_worstAt (n : Nat)  (a1 : Int32) (st : St) : Option (Int32 × St) := fX10_worstAt_s0 n a1 st
theorem okX10_worstAt : okY yX10_worstAt RX10 1 := by unfold okY; decide +kernel
end
set_option maxRecDepth 100000 in
theorem kX10_worstAt (l : Launch) (D : va_G) (G : G3) (ad : Nat → Nat) (had : Adr ad) (n : Nat)   (a1 : Int32) (st : St) (res : (Int32 × St)) (hf : fX10_worstAt n  a1 st = some res) {sz : Nat} : CtI l yX10_worstAt (wsU yX10_worstAt cX10_worstAt 2 (some .int)) (rmK 0) D G ad sz [.ref (ad 0), .int a1] st res := by
  refine Met.ofW (cc := cX10_worstAt) (maxL := 2) (ret := (some .int)) (by decide) rfl ?_
  intro p e s m args below meth c s₁ B hml hv
  obtain ⟨rfl, hsz, hP, hK, hSt⟩ := hv
  have hts := atoms_spec (ws := wsU yX10_worstAt cX10_worstAt 2 (some .int)) B.pre
  have C : Cx p s m _ meth c cX10_worstAt 2 wsL_law RX10 (some .int) D G ad := ⟨B.exec, B.bytes, hml, findClass_of_methodNamed B.named, fun w h => hts w (List.mem_cons_of_mem _ h), B.returns, B.notSynchronized, hK, had, hSt⟩
  subst hsz
  have hl := lv_entry ([.ref (ad 0), .int a1]) (n := 2) (Nat.le_of_ble_eq_true rfl)
  rw [lg_entry_eq]
  generalize (lg_sl ([.ref (ad 0), .int a1]) ++ List.replicate (2 - (lg_sl ([.ref (ad 0), .int a1])).length) Slot.unset).toArray = ls at hl ⊢
  exact wX10_worstAt_s0 C n  a1   st res hf s.heap [] ls (lv_sub hl [0, 1] rfl) hP va_S.rf
section
variable {p : Program} {l : Launch} {e : Env} {s : State} {m : MethodId} {args : Array Value} {below : List Frame} {meth : Method} {c : Code} {D : va_G} {G : G3} {ad : Nat → Nat}
def fX10_areClaimsFine_s33 (n : Nat)   (k0 : Int32) (st : St) : Option (Int32 × St) := if zb k0 = true then (some (k0, st)) else none
set_option maxHeartbeats 4000000 in
set_option maxRecDepth 100000 in
theorem wX10_areClaimsFine_s33 (C : Cx p s m args meth c cX10_areClaimsFine 3 wsL_law RX10 (some .boolean) D G ad) (n : Nat)   (k0 : Int32)   (st : St) (res : (Int32 × St))  (hf : fX10_areClaimsFine_s33 n   k0 st = some res) : At p l e (rmK 1) s m args below meth c D G ad (MQI D G ad below args s res) 3 st [] 33 [.int k0] := by
  obtain ⟨hx, hb, hml, hown, hts, hr, hlk, hK, had, hSt⟩ := id C
  intro H locs ls hl hP hS
  unfold fX10_areClaimsFine_s33 at hf
  obtain ⟨gz, hf⟩ := gd hf
  exact g_zret hx hb hr hlk hP hS (zb_of gz) dX10_areClaimsFine_33 hf
def fX10_areClaimsFine_s32 (n : Nat)    (st : St) : Option (Int32 × St) := fX10_areClaimsFine_s33 n 0 st
set_option maxHeartbeats 4000000 in
set_option maxRecDepth 100000 in
theorem wX10_areClaimsFine_s32 (C : Cx p s m args meth c cX10_areClaimsFine 3 wsL_law RX10 (some .boolean) D G ad) (n : Nat)      (st : St) (res : (Int32 × St))  (hf : fX10_areClaimsFine_s32 n    st = some res) : At p l e (rmK 1) s m args below meth c D G ad (MQI D G ad below args s res) 3 st [] 32 [] := by
  obtain ⟨hx, hb, hml, hown, hts, hr, hlk, hK, had, hSt⟩ := id C
  intro H locs ls hl hP hS
  unfold fX10_areClaimsFine_s32 at hf
  refine lv_iconst (v := 0) hx hb dX10_areClaimsFine_32 (by decide) ?_
  exact wX10_areClaimsFine_s33 C n 0 st res hf H locs ls (lv_sub hl [] rfl) hP hS
def fX10_areClaimsFine_s28 (n : Nat)    (st : St) : Option (Int32 × St) := fX10_areClaimsFine_s33 n 1 st
set_option maxHeartbeats 4000000 in
set_option maxRecDepth 100000 in
theorem wX10_areClaimsFine_s28 (C : Cx p s m args meth c cX10_areClaimsFine 3 wsL_law RX10 (some .boolean) D G ad) (n : Nat)      (st : St) (res : (Int32 × St))  (hf : fX10_areClaimsFine_s28 n    st = some res) : At p l e (rmK 1) s m args below meth c D G ad (MQI D G ad below args s res) 3 st [] 28 [] := by
  obtain ⟨hx, hb, hml, hown, hts, hr, hlk, hK, had, hSt⟩ := id C
  intro H locs ls hl hP hS
  unfold fX10_areClaimsFine_s28 at hf
  refine lv_iconst (v := 1) hx hb dX10_areClaimsFine_28 (by decide) ?_
  refine lv_goto (tgt := 33) hx hb dX10_areClaimsFine_29 (by decide) ?_
  exact wX10_areClaimsFine_s33 C n 1 st res hf H locs ls (lv_sub hl [] rfl) hP hS
def fX10_areClaimsFine_s25 (n : Nat)   (k0 : Int32) (st : St) : Option (Int32 × St) := if k0 = 0 then fX10_areClaimsFine_s32 n st else fX10_areClaimsFine_s28 n st
set_option maxHeartbeats 4000000 in
set_option maxRecDepth 100000 in
theorem wX10_areClaimsFine_s25 (C : Cx p s m args meth c cX10_areClaimsFine 3 wsL_law RX10 (some .boolean) D G ad) (n : Nat)   (k0 : Int32)   (st : St) (res : (Int32 × St))  (hf : fX10_areClaimsFine_s25 n   k0 st = some res) : At p l e (rmK 1) s m args below meth c D G ad (MQI D G ad below args s res) 3 st [] 25 [.int k0] := by
  obtain ⟨hx, hb, hml, hown, hts, hr, hlk, hK, had, hSt⟩ := id C
  intro H locs ls hl hP hS
  unfold fX10_areClaimsFine_s25 at hf
  refine lv_if_eq (tgt := 32) hx hb dX10_areClaimsFine_25 (by decide) (fun q => ?_) (fun q => ?_)
  · exact wX10_areClaimsFine_s32 C n st res (it hf q) H locs ls (lv_sub hl [] rfl) hP hS
  · exact wX10_areClaimsFine_s28 C n st res (ie hf q) H locs ls (lv_sub hl [] rfl) hP hS
def fX10_areClaimsFine_s19 (n : Nat)   (v2 : Int32) (st : St) : Option (Int32 × St) := (fX10_within n v2 2 4 st).bind (fun q => fX10_areClaimsFine_s25 n q.1 q.2)
set_option maxHeartbeats 4000000 in
set_option maxRecDepth 100000 in
theorem wX10_areClaimsFine_s19 (C : Cx p s m args meth c cX10_areClaimsFine 3 wsL_law RX10 (some .boolean) D G ad) (n : Nat)   (v2 : Int32)   (st : St) (res : (Int32 × St))  (hf : fX10_areClaimsFine_s19 n   v2 st = some res) : At p l e (rmK 1) s m args below meth c D G ad (MQI D G ad below args s res) 3 st [(2, .int v2)] 19 [] := by
  obtain ⟨hx, hb, hml, hown, hts, hr, hlk, hK, had, hSt⟩ := id C
  intro H locs ls hl hP hS
  unfold fX10_areClaimsFine_s19 at hf
  refine lv_iload_n hx hb dX10_areClaimsFine_19 rfl (lv_at hl 0 rfl) ?_
  refine lv_iconst (v := 2) hx hb dX10_areClaimsFine_20 (by decide) ?_
  refine lv_iconst (v := 4) hx hb dX10_areClaimsFine_21 (by decide) ?_
  obtain ⟨q, hq, hf⟩ := bd hf
  refine gcS_i (k := 0) (As := [.int v2, .int 2, .int 4]) (rest := []) hx hb hml hown hts hK hSt hP hS hl.1 (goodS wm_9_17 wm_9_18 wm_1_2 wm_9_19) okX10_within (Nat.le_of_ble_eq_true rfl) (Nat.le_of_ble_eq_true rfl) rfl rfl (Nat.le_of_ble_eq_true rfl) dX10_areClaimsFine_22 (kX10_within l D G ad had n  v2 2 4 st q hq) (fun H locs hP hS => ?_)
  exact wX10_areClaimsFine_s25 C n q.1 q.2 res hf H locs ls (lv_sub hl [] rfl) hP hS
def fX10_areClaimsFine_s16 (n : Nat)   (v2 : Int32) (k0 : Int32) (st : St) : Option (Int32 × St) := if k0 = 0 then fX10_areClaimsFine_s32 n st else fX10_areClaimsFine_s19 n v2 st
set_option maxHeartbeats 4000000 in
set_option maxRecDepth 100000 in
theorem wX10_areClaimsFine_s16 (C : Cx p s m args meth c cX10_areClaimsFine 3 wsL_law RX10 (some .boolean) D G ad) (n : Nat)   (v2 : Int32) (k0 : Int32)   (st : St) (res : (Int32 × St))  (hf : fX10_areClaimsFine_s16 n   v2 k0 st = some res) : At p l e (rmK 1) s m args below meth c D G ad (MQI D G ad below args s res) 3 st [(2, .int v2)] 16 [.int k0] := by
  obtain ⟨hx, hb, hml, hown, hts, hr, hlk, hK, had, hSt⟩ := id C
  intro H locs ls hl hP hS
  unfold fX10_areClaimsFine_s16 at hf
  refine lv_if_eq (tgt := 32) hx hb dX10_areClaimsFine_16 (by decide) (fun q => ?_) (fun q => ?_)
  · exact wX10_areClaimsFine_s32 C n st res (it hf q) H locs ls (lv_sub hl [] rfl) hP hS
  · exact wX10_areClaimsFine_s19 C n v2 st res (ie hf q) H locs ls (lv_sub hl [0] rfl) hP hS
def fX10_areClaimsFine_s9 (n : Nat)   (v1 : Int32) (v2 : Int32) (st : St) : Option (Int32 × St) := (fX10_within n v1 0 40 st).bind (fun q => fX10_areClaimsFine_s16 n v2 q.1 q.2)
set_option maxHeartbeats 4000000 in
set_option maxRecDepth 100000 in
theorem wX10_areClaimsFine_s9 (C : Cx p s m args meth c cX10_areClaimsFine 3 wsL_law RX10 (some .boolean) D G ad) (n : Nat)   (v1 : Int32) (v2 : Int32)   (st : St) (res : (Int32 × St))  (hf : fX10_areClaimsFine_s9 n   v1 v2 st = some res) : At p l e (rmK 1) s m args below meth c D G ad (MQI D G ad below args s res) 3 st [(1, .int v1), (2, .int v2)] 9 [] := by
  obtain ⟨hx, hb, hml, hown, hts, hr, hlk, hK, had, hSt⟩ := id C
  intro H locs ls hl hP hS
  unfold fX10_areClaimsFine_s9 at hf
  refine lv_iload_n hx hb dX10_areClaimsFine_9 rfl (lv_at hl 0 rfl) ?_
  refine lv_iconst (v := 0) hx hb dX10_areClaimsFine_10 (by decide) ?_
  refine lv_bipush (v := 40) hx hb dX10_areClaimsFine_11 (by decide) ?_
  obtain ⟨q, hq, hf⟩ := bd hf
  refine gcS_i (k := 0) (As := [.int v1, .int 0, .int 40]) (rest := []) hx hb hml hown hts hK hSt hP hS hl.1 (goodS wm_9_17 wm_9_18 wm_1_2 wm_9_19) okX10_within (Nat.le_of_ble_eq_true rfl) (Nat.le_of_ble_eq_true rfl) rfl rfl (Nat.le_of_ble_eq_true rfl) dX10_areClaimsFine_13 (kX10_within l D G ad had n  v1 0 40 st q hq) (fun H locs hP hS => ?_)
  exact wX10_areClaimsFine_s16 C n v2 q.1 q.2 res hf H locs ls (lv_sub hl [1] rfl) hP hS
def fX10_areClaimsFine_s6 (n : Nat)   (v1 : Int32) (v2 : Int32) (k0 : Int32) (st : St) : Option (Int32 × St) := if k0 = 0 then fX10_areClaimsFine_s32 n st else fX10_areClaimsFine_s9 n v1 v2 st
set_option maxHeartbeats 4000000 in
set_option maxRecDepth 100000 in
theorem wX10_areClaimsFine_s6 (C : Cx p s m args meth c cX10_areClaimsFine 3 wsL_law RX10 (some .boolean) D G ad) (n : Nat)   (v1 : Int32) (v2 : Int32) (k0 : Int32)   (st : St) (res : (Int32 × St))  (hf : fX10_areClaimsFine_s6 n   v1 v2 k0 st = some res) : At p l e (rmK 1) s m args below meth c D G ad (MQI D G ad below args s res) 3 st [(1, .int v1), (2, .int v2)] 6 [.int k0] := by
  obtain ⟨hx, hb, hml, hown, hts, hr, hlk, hK, had, hSt⟩ := id C
  intro H locs ls hl hP hS
  unfold fX10_areClaimsFine_s6 at hf
  refine lv_if_eq (tgt := 32) hx hb dX10_areClaimsFine_6 (by decide) (fun q => ?_) (fun q => ?_)
  · exact wX10_areClaimsFine_s32 C n st res (it hf q) H locs ls (lv_sub hl [] rfl) hP hS
  · exact wX10_areClaimsFine_s9 C n v1 v2 st res (ie hf q) H locs ls (lv_sub hl [0, 1] rfl) hP hS
def fX10_areClaimsFine_s0 (n : Nat)   (v0 : Int32) (v1 : Int32) (v2 : Int32) (st : St) : Option (Int32 × St) := (fX10_within n v0 0 2 st).bind (fun q => fX10_areClaimsFine_s6 n v1 v2 q.1 q.2)
set_option maxHeartbeats 4000000 in
set_option maxRecDepth 100000 in
theorem wX10_areClaimsFine_s0 (C : Cx p s m args meth c cX10_areClaimsFine 3 wsL_law RX10 (some .boolean) D G ad) (n : Nat)   (v0 : Int32) (v1 : Int32) (v2 : Int32)   (st : St) (res : (Int32 × St))  (hf : fX10_areClaimsFine_s0 n   v0 v1 v2 st = some res) : At p l e (rmK 1) s m args below meth c D G ad (MQI D G ad below args s res) 3 st [(0, .int v0), (1, .int v1), (2, .int v2)] 0 [] := by
  obtain ⟨hx, hb, hml, hown, hts, hr, hlk, hK, had, hSt⟩ := id C
  intro H locs ls hl hP hS
  unfold fX10_areClaimsFine_s0 at hf
  refine lv_iload_n hx hb dX10_areClaimsFine_0 rfl (lv_at hl 0 rfl) ?_
  refine lv_iconst (v := 0) hx hb dX10_areClaimsFine_1 (by decide) ?_
  refine lv_iconst (v := 2) hx hb dX10_areClaimsFine_2 (by decide) ?_
  obtain ⟨q, hq, hf⟩ := bd hf
  refine gcS_i (k := 0) (As := [.int v0, .int 0, .int 2]) (rest := []) hx hb hml hown hts hK hSt hP hS hl.1 (goodS wm_9_17 wm_9_18 wm_1_2 wm_9_19) okX10_within (Nat.le_of_ble_eq_true rfl) (Nat.le_of_ble_eq_true rfl) rfl rfl (Nat.le_of_ble_eq_true rfl) dX10_areClaimsFine_3 (kX10_within l D G ad had n  v0 0 2 st q hq) (fun H locs hP hS => ?_)
  exact wX10_areClaimsFine_s6 C n v1 v2 q.1 q.2 res hf H locs ls (lv_sub hl [1, 2] rfl) hP hS
def fX10_areClaimsFine (n : Nat)  (a0 : Int32) (a1 : Int32) (a2 : Int32) (st : St) : Option (Int32 × St) := fX10_areClaimsFine_s0 n a0 a1 a2 st
theorem okX10_areClaimsFine : okY yX10_areClaimsFine RX10 3 := by unfold okY; decide +kernel
end
set_option maxRecDepth 100000 in
theorem kX10_areClaimsFine (l : Launch) (D : va_G) (G : G3) (ad : Nat → Nat) (had : Adr ad) (n : Nat)   (a0 : Int32) (a1 : Int32) (a2 : Int32) (st : St) (res : (Int32 × St)) (hf : fX10_areClaimsFine n  a0 a1 a2 st = some res) {sz : Nat} : CtI l yX10_areClaimsFine (wsU yX10_areClaimsFine cX10_areClaimsFine 3 (some .boolean)) (rmK 1) D G ad sz [.int a0, .int a1, .int a2] st res := by
  refine Met.ofW (cc := cX10_areClaimsFine) (maxL := 3) (ret := (some .boolean)) (by decide) rfl ?_
  intro p e s m args below meth c s₁ B hml hv
  obtain ⟨rfl, hsz, hP, hK, hSt⟩ := hv
  have hts := atoms_spec (ws := wsU yX10_areClaimsFine cX10_areClaimsFine 3 (some .boolean)) B.pre
  have C : Cx p s m _ meth c cX10_areClaimsFine 3 wsL_law RX10 (some .boolean) D G ad := ⟨B.exec, B.bytes, hml, findClass_of_methodNamed B.named, fun w h => hts w (List.mem_cons_of_mem _ h), B.returns, B.notSynchronized, hK, had, hSt⟩
  subst hsz
  have hl := lv_entry ([.int a0, .int a1, .int a2]) (n := 3) (Nat.le_of_ble_eq_true rfl)
  rw [lg_entry_eq]
  generalize (lg_sl ([.int a0, .int a1, .int a2]) ++ List.replicate (3 - (lg_sl ([.int a0, .int a1, .int a2])).length) Slot.unset).toArray = ls at hl ⊢
  exact wX10_areClaimsFine_s0 C n  a0 a1 a2   st res hf s.heap [] ls (lv_sub hl [0, 1, 2] rfl) hP va_S.rf
section
variable {p : Program} {l : Launch} {e : Env} {s : State} {m : MethodId} {args : Array Value} {below : List Frame} {meth : Method} {c : Code} {D : va_G} {G : G3} {ad : Nat → Nat}
def fX10_gets_s12 (n : Nat)    (st : St) : Option (Int32 × St) := some ((-1), st)
set_option maxHeartbeats 4000000 in
set_option maxRecDepth 100000 in
theorem wX10_gets_s12 (C : Cx p s m args meth c cX10_gets 7 wsL_law RX10 (some .int) D G ad) (n : Nat)      (st : St) (res : (Int32 × St))  (hf : fX10_gets_s12 n    st = some res) : At p l e (rmK 4) s m args below meth c D G ad (MQI D G ad below args s res) 7 st [] 12 [] := by
  obtain ⟨hx, hb, hml, hown, hts, hr, hlk, hK, had, hSt⟩ := id C
  intro H locs ls hl hP hS
  unfold fX10_gets_s12 at hf
  refine lv_iconst (v := (-1)) hx hb dX10_gets_12 (by decide) ?_
  exact g_iret hx hb hr hlk hP hS dX10_gets_13 hf
def fX10_gets_s37 (n : Nat)    (st : St) : Option (Int32 × St) := some ((-2), st)
set_option maxHeartbeats 4000000 in
set_option maxRecDepth 100000 in
theorem wX10_gets_s37 (C : Cx p s m args meth c cX10_gets 7 wsL_law RX10 (some .int) D G ad) (n : Nat)      (st : St) (res : (Int32 × St))  (hf : fX10_gets_s37 n    st = some res) : At p l e (rmK 4) s m args below meth c D G ad (MQI D G ad below args s res) 7 st [] 37 [] := by
  obtain ⟨hx, hb, hml, hown, hts, hr, hlk, hK, had, hSt⟩ := id C
  intro H locs ls hl hP hS
  unfold fX10_gets_s37 at hf
  refine lv_bipush (v := (-2)) hx hb dX10_gets_37 (by decide) ?_
  exact g_iret hx hb hr hlk hP hS dX10_gets_39 hf
def fX10_gets_s51 (n : Nat)   (k0 : Int32) (st : St) : Option (Int32 × St) := some (k0, st)
set_option maxHeartbeats 4000000 in
set_option maxRecDepth 100000 in
theorem wX10_gets_s51 (C : Cx p s m args meth c cX10_gets 7 wsL_law RX10 (some .int) D G ad) (n : Nat)   (k0 : Int32)   (st : St) (res : (Int32 × St))  (hf : fX10_gets_s51 n   k0 st = some res) : At p l e (rmK 4) s m args below meth c D G ad (MQI D G ad below args s res) 7 st [] 51 [.int k0] := by
  obtain ⟨hx, hb, hml, hown, hts, hr, hlk, hK, had, hSt⟩ := id C
  intro H locs ls hl hP hS
  unfold fX10_gets_s51 at hf
  exact g_iret hx hb hr hlk hP hS dX10_gets_51 hf
def fX10_gets_s40 (n : Nat)   (v1 : Int32) (v2 : Int32) (v6 : Int32) (st : St) : Option (Int32 × St) := (fX0_gotBy n v6 v1 v2 st).bind (fun q => fX10_gets_s51 n q.1 q.2)
set_option maxHeartbeats 4000000 in
set_option maxRecDepth 100000 in
theorem wX10_gets_s40 (C : Cx p s m args meth c cX10_gets 7 wsL_law RX10 (some .int) D G ad) (n : Nat)   (v1 : Int32) (v2 : Int32) (v6 : Int32)   (st : St) (res : (Int32 × St))  (hf : fX10_gets_s40 n   v1 v2 v6 st = some res) : At p l e (rmK 4) s m args below meth c D G ad (MQI D G ad below args s res) 7 st [(0, .ref (ad 0)), (1, .int v1), (2, .int v2), (6, .int v6)] 40 [] := by
  obtain ⟨hx, hb, hml, hown, hts, hr, hlk, hK, had, hSt⟩ := id C
  intro H locs ls hl hP hS
  unfold fX10_gets_s40 at hf
  refine lv_aload_n hx hb dX10_gets_40 rfl (lv_at hl 0 rfl) ?_
  refine g_getR hx hb hts inlX10 hown hK hP 0 ct_0 rfl 8 (by decide) (hts _ wm_3_0) rfl dX10_gets_41 ?_
  refine lv_iload hx hb dX10_gets_44 (lv_at hl 3 rfl) ?_
  refine lv_iload_n hx hb dX10_gets_46 rfl (lv_at hl 1 rfl) ?_
  refine lv_iload_n hx hb dX10_gets_47 rfl (lv_at hl 2 rfl) ?_
  obtain ⟨q, hq, hf⟩ := bd hf
  refine gcV_i (k := 3) (o := 43) (As := [.int v6, .int v1, .int v2]) (rest := []) hx hb hml hown hts hK hSt hP hS hl.1 (goodV wm_47_14 wm_47_15 wm_47_16 wm_2_23 wm_47_17) okX0_gotBy ct_43 rfl rfl (Nat.le_of_ble_eq_true rfl) (Nat.le_of_ble_eq_true rfl) rfl rfl (Nat.le_of_ble_eq_true rfl) dX10_gets_48 (kX0_gotBy l D G ad had n  v6 v1 v2 st q hq) (fun H locs hP hS => ?_)
  exact wX10_gets_s51 C n q.1 q.2 res hf H locs ls (lv_sub hl [] rfl) hP hS
def fX10_gets_s34 (n : Nat)   (v1 : Int32) (v2 : Int32) (v6 : Int32) (k0 : Int32) (st : St) : Option (Int32 × St) := if k0 = 0 then fX10_gets_s37 n st else fX10_gets_s40 n v1 v2 v6 st
set_option maxHeartbeats 4000000 in
set_option maxRecDepth 100000 in
theorem wX10_gets_s34 (C : Cx p s m args meth c cX10_gets 7 wsL_law RX10 (some .int) D G ad) (n : Nat)   (v1 : Int32) (v2 : Int32) (v6 : Int32) (k0 : Int32)   (st : St) (res : (Int32 × St))  (hf : fX10_gets_s34 n   v1 v2 v6 k0 st = some res) : At p l e (rmK 4) s m args below meth c D G ad (MQI D G ad below args s res) 7 st [(0, .ref (ad 0)), (1, .int v1), (2, .int v2), (6, .int v6)] 34 [.int k0] := by
  obtain ⟨hx, hb, hml, hown, hts, hr, hlk, hK, had, hSt⟩ := id C
  intro H locs ls hl hP hS
  unfold fX10_gets_s34 at hf
  refine lv_if_ne (tgt := 40) hx hb dX10_gets_34 (by decide) (fun q => ?_) (fun q => ?_)
  · exact wX10_gets_s40 C n v1 v2 v6 st res (ie hf q) H locs ls (lv_sub hl [0, 1, 2, 3] rfl) hP hS
  · exact wX10_gets_s37 C n st res (it hf q) H locs ls (lv_sub hl [] rfl) hP hS
def fX10_gets_s24 (n : Nat)   (v1 : Int32) (v2 : Int32) (v3 : Int64) (v5 : Int32) (v6 : Int32) (st : St) : Option (Int32 × St) := (fX0_readClaims n v3 v5 st).bind (fun q => fX10_gets_s34 n v1 v2 v6 q.1 q.2)
set_option maxHeartbeats 4000000 in
set_option maxRecDepth 100000 in
theorem wX10_gets_s24 (C : Cx p s m args meth c cX10_gets 7 wsL_law RX10 (some .int) D G ad) (n : Nat)   (v1 : Int32) (v2 : Int32) (v3 : Int64) (v5 : Int32) (v6 : Int32)   (st : St) (res : (Int32 × St))  (hf : fX10_gets_s24 n   v1 v2 v3 v5 v6 st = some res) : At p l e (rmK 4) s m args below meth c D G ad (MQI D G ad below args s res) 7 st [(0, .ref (ad 0)), (1, .int v1), (2, .int v2), (3, .long v3), (5, .int v5), (6, .int v6)] 24 [] := by
  obtain ⟨hx, hb, hml, hown, hts, hr, hlk, hK, had, hSt⟩ := id C
  intro H locs ls hl hP hS
  unfold fX10_gets_s24 at hf
  refine lv_aload_n hx hb dX10_gets_24 rfl (lv_at hl 0 rfl) ?_
  refine g_getR hx hb hts inlX10 hown hK hP 0 ct_0 rfl 8 (by decide) (hts _ wm_3_0) rfl dX10_gets_25 ?_
  refine lv_lload_n hx hb dX10_gets_28 rfl (lv_at hl 3 rfl) ?_
  refine lv_iload hx hb dX10_gets_29 (lv_at hl 4 rfl) ?_
  obtain ⟨q, hq, hf⟩ := bd hf
  refine gcV_i (k := 1) (o := 43) (As := [.long v3, .int v5]) (rest := []) hx hb hml hown hts hK hSt hP hS hl.1 (goodV wm_47_8 wm_47_9 wm_47_10 wm_2_23 wm_47_11) okX0_readClaims ct_43 rfl rfl (Nat.le_of_ble_eq_true rfl) (Nat.le_of_ble_eq_true rfl) rfl rfl (Nat.le_of_ble_eq_true rfl) dX10_gets_31 (kX0_readClaims l D G ad had n  v3 v5 st q hq) (fun H locs hP hS => ?_)
  exact wX10_gets_s34 C n v1 v2 v6 q.1 q.2 res hf H locs ls (lv_sub hl [0, 1, 2, 5] rfl) hP hS
def fX10_gets_s21 (n : Nat)   (v1 : Int32) (v2 : Int32) (v3 : Int64) (v5 : Int32) (v6 : Int32) (k0 : Int32) (st : St) : Option (Int32 × St) := if k0 = 0 then fX10_gets_s37 n st else fX10_gets_s24 n v1 v2 v3 v5 v6 st
set_option maxHeartbeats 4000000 in
set_option maxRecDepth 100000 in
theorem wX10_gets_s21 (C : Cx p s m args meth c cX10_gets 7 wsL_law RX10 (some .int) D G ad) (n : Nat)   (v1 : Int32) (v2 : Int32) (v3 : Int64) (v5 : Int32) (v6 : Int32) (k0 : Int32)   (st : St) (res : (Int32 × St))  (hf : fX10_gets_s21 n   v1 v2 v3 v5 v6 k0 st = some res) : At p l e (rmK 4) s m args below meth c D G ad (MQI D G ad below args s res) 7 st [(0, .ref (ad 0)), (1, .int v1), (2, .int v2), (3, .long v3), (5, .int v5), (6, .int v6)] 21 [.int k0] := by
  obtain ⟨hx, hb, hml, hown, hts, hr, hlk, hK, had, hSt⟩ := id C
  intro H locs ls hl hP hS
  unfold fX10_gets_s21 at hf
  refine lv_if_eq (tgt := 37) hx hb dX10_gets_21 (by decide) (fun q => ?_) (fun q => ?_)
  · exact wX10_gets_s37 C n st res (it hf q) H locs ls (lv_sub hl [] rfl) hP hS
  · exact wX10_gets_s24 C n v1 v2 v3 v5 v6 st res (ie hf q) H locs ls (lv_sub hl [0, 1, 2, 3, 4, 5] rfl) hP hS
def fX10_gets_s14 (n : Nat)   (v1 : Int32) (v2 : Int32) (v3 : Int64) (v5 : Int32) (v6 : Int32) (st : St) : Option (Int32 × St) := (fX10_areClaimsFine n v1 v2 v5 st).bind (fun q => fX10_gets_s21 n v1 v2 v3 v5 v6 q.1 q.2)
set_option maxHeartbeats 4000000 in
set_option maxRecDepth 100000 in
theorem wX10_gets_s14 (C : Cx p s m args meth c cX10_gets 7 wsL_law RX10 (some .int) D G ad) (n : Nat)   (v1 : Int32) (v2 : Int32) (v3 : Int64) (v5 : Int32) (v6 : Int32)   (st : St) (res : (Int32 × St))  (hf : fX10_gets_s14 n   v1 v2 v3 v5 v6 st = some res) : At p l e (rmK 4) s m args below meth c D G ad (MQI D G ad below args s res) 7 st [(0, .ref (ad 0)), (1, .int v1), (2, .int v2), (3, .long v3), (5, .int v5), (6, .int v6)] 14 [] := by
  obtain ⟨hx, hb, hml, hown, hts, hr, hlk, hK, had, hSt⟩ := id C
  intro H locs ls hl hP hS
  unfold fX10_gets_s14 at hf
  refine lv_iload_n hx hb dX10_gets_14 rfl (lv_at hl 1 rfl) ?_
  refine lv_iload_n hx hb dX10_gets_15 rfl (lv_at hl 2 rfl) ?_
  refine lv_iload hx hb dX10_gets_16 (lv_at hl 4 rfl) ?_
  obtain ⟨q, hq, hf⟩ := bd hf
  refine gcS_i (k := 1) (As := [.int v1, .int v2, .int v5]) (rest := []) hx hb hml hown hts hK hSt hP hS hl.1 (goodS wm_47_5 wm_47_6 wm_1_2 wm_47_7) okX10_areClaimsFine (Nat.le_of_ble_eq_true rfl) (Nat.le_of_ble_eq_true rfl) rfl rfl (Nat.le_of_ble_eq_true rfl) dX10_gets_18 (kX10_areClaimsFine l D G ad had n  v1 v2 v5 st q hq) (fun H locs hP hS => ?_)
  exact wX10_gets_s21 C n v1 v2 v3 v5 v6 q.1 q.2 res hf H locs ls (lv_sub hl [0, 1, 2, 3, 4, 5] rfl) hP hS
def fX10_gets_s5 (n : Nat)   (v1 : Int32) (v2 : Int32) (v3 : Int64) (v5 : Int32) (v6 : Int32) (st : St) : Option (Int32 × St) := if v6 < v5 then fX10_gets_s14 n v1 v2 v3 v5 v6 st else fX10_gets_s12 n st
set_option maxHeartbeats 4000000 in
set_option maxRecDepth 100000 in
theorem wX10_gets_s5 (C : Cx p s m args meth c cX10_gets 7 wsL_law RX10 (some .int) D G ad) (n : Nat)   (v1 : Int32) (v2 : Int32) (v3 : Int64) (v5 : Int32) (v6 : Int32)   (st : St) (res : (Int32 × St))  (hf : fX10_gets_s5 n   v1 v2 v3 v5 v6 st = some res) : At p l e (rmK 4) s m args below meth c D G ad (MQI D G ad below args s res) 7 st [(0, .ref (ad 0)), (1, .int v1), (2, .int v2), (3, .long v3), (5, .int v5), (6, .int v6)] 5 [] := by
  obtain ⟨hx, hb, hml, hown, hts, hr, hlk, hK, had, hSt⟩ := id C
  intro H locs ls hl hP hS
  unfold fX10_gets_s5 at hf
  refine lv_iload hx hb dX10_gets_5 (lv_at hl 5 rfl) ?_
  refine lv_iload hx hb dX10_gets_7 (lv_at hl 4 rfl) ?_
  refine lv_icmp_lt (tgt := 14) hx hb dX10_gets_9 (by decide) (fun q => ?_) (fun q => ?_)
  · exact wX10_gets_s14 C n v1 v2 v3 v5 v6 st res (it hf q) H locs ls (lv_sub hl [0, 1, 2, 3, 4, 5] rfl) hP hS
  · exact wX10_gets_s12 C n st res (ie hf q) H locs ls (lv_sub hl [] rfl) hP hS
def fX10_gets_s0 (n : Nat)   (v1 : Int32) (v2 : Int32) (v3 : Int64) (v5 : Int32) (v6 : Int32) (st : St) : Option (Int32 × St) := if v6 < 0 then fX10_gets_s12 n st else fX10_gets_s5 n v1 v2 v3 v5 v6 st
set_option maxHeartbeats 4000000 in
set_option maxRecDepth 100000 in
theorem wX10_gets_s0 (C : Cx p s m args meth c cX10_gets 7 wsL_law RX10 (some .int) D G ad) (n : Nat)   (v1 : Int32) (v2 : Int32) (v3 : Int64) (v5 : Int32) (v6 : Int32)   (st : St) (res : (Int32 × St))  (hf : fX10_gets_s0 n   v1 v2 v3 v5 v6 st = some res) : At p l e (rmK 4) s m args below meth c D G ad (MQI D G ad below args s res) 7 st [(0, .ref (ad 0)), (1, .int v1), (2, .int v2), (3, .long v3), (5, .int v5), (6, .int v6)] 0 [] := by
  obtain ⟨hx, hb, hml, hown, hts, hr, hlk, hK, had, hSt⟩ := id C
  intro H locs ls hl hP hS
  unfold fX10_gets_s0 at hf
  refine lv_iload hx hb dX10_gets_0 (lv_at hl 5 rfl) ?_
  refine lv_if_lt (tgt := 12) hx hb dX10_gets_2 (by decide) (fun q => ?_) (fun q => ?_)
  · exact wX10_gets_s12 C n st res (it hf q) H locs ls (lv_sub hl [] rfl) hP hS
  · exact wX10_gets_s5 C n v1 v2 v3 v5 v6 st res (ie hf q) H locs ls (lv_sub hl [0, 1, 2, 3, 4, 5] rfl) hP hS
def fX10_gets (n : Nat)  (a1 : Int32) (a2 : Int32) (a3 : Int64) (a5 : Int32) (a6 : Int32) (st : St) : Option (Int32 × St) := fX10_gets_s0 n a1 a2 a3 a5 a6 st
theorem okX10_gets : okY yX10_gets RX10 5 := by unfold okY; decide +kernel
end
set_option maxRecDepth 100000 in
theorem kX10_gets (l : Launch) (D : va_G) (G : G3) (ad : Nat → Nat) (had : Adr ad) (n : Nat)   (a1 : Int32) (a2 : Int32) (a3 : Int64) (a5 : Int32) (a6 : Int32) (st : St) (res : (Int32 × St)) (hf : fX10_gets n  a1 a2 a3 a5 a6 st = some res) {sz : Nat} : CtI l yX10_gets (wsU yX10_gets cX10_gets 7 (some .int)) (rmK 4) D G ad sz [.ref (ad 0), .int a1, .int a2, .long a3, .int a5, .int a6] st res := by
  refine Met.ofW (cc := cX10_gets) (maxL := 7) (ret := (some .int)) (by decide) rfl ?_
  intro p e s m args below meth c s₁ B hml hv
  obtain ⟨rfl, hsz, hP, hK, hSt⟩ := hv
  have hts := atoms_spec (ws := wsU yX10_gets cX10_gets 7 (some .int)) B.pre
  have C : Cx p s m _ meth c cX10_gets 7 wsL_law RX10 (some .int) D G ad := ⟨B.exec, B.bytes, hml, findClass_of_methodNamed B.named, fun w h => hts w (List.mem_cons_of_mem _ h), B.returns, B.notSynchronized, hK, had, hSt⟩
  subst hsz
  have hl := lv_entry ([.ref (ad 0), .int a1, .int a2, .long a3, .int a5, .int a6]) (n := 7) (Nat.le_of_ble_eq_true rfl)
  rw [lg_entry_eq]
  generalize (lg_sl ([.ref (ad 0), .int a1, .int a2, .long a3, .int a5, .int a6]) ++ List.replicate (7 - (lg_sl ([.ref (ad 0), .int a1, .int a2, .long a3, .int a5, .int a6])).length) Slot.unset).toArray = ls at hl ⊢
  exact wX10_gets_s0 C n  a1 a2 a3 a5 a6   st res hf s.heap [] ls (lv_sub hl [0, 1, 2, 3, 4, 5] rfl) hP va_S.rf
section
variable {p : Program} {l : Launch} {e : Env} {s : State} {m : MethodId} {args : Array Value} {below : List Frame} {meth : Method} {c : Code} {D : va_G} {G : G3} {ad : Nat → Nat}
def fX10_calm_s37 (n : Nat)    (st : St) : Option (Int32 × St) := some ((-2), st)
set_option maxHeartbeats 4000000 in
set_option maxRecDepth 100000 in
theorem wX10_calm_s37 (C : Cx p s m args meth c cX10_calm 8 wsL_law RX10 (some .int) D G ad) (n : Nat)      (st : St) (res : (Int32 × St))  (hf : fX10_calm_s37 n    st = some res) : At p l e (rmK 5) s m args below meth c D G ad (MQI D G ad below args s res) 8 st [] 37 [] := by
  obtain ⟨hx, hb, hml, hown, hts, hr, hlk, hK, had, hSt⟩ := id C
  intro H locs ls hl hP hS
  unfold fX10_calm_s37 at hf
  refine lv_bipush (v := (-2)) hx hb dX10_calm_37 (by decide) ?_
  exact g_iret hx hb hr hlk hP hS dX10_calm_39 hf
def fX10_calm_s57 (n : Nat)   (k0 : Int32) (st : St) : Option (Int32 × St) := some (k0, st)
set_option maxHeartbeats 4000000 in
set_option maxRecDepth 100000 in
theorem wX10_calm_s57 (C : Cx p s m args meth c cX10_calm 8 wsL_law RX10 (some .int) D G ad) (n : Nat)   (k0 : Int32)   (st : St) (res : (Int32 × St))  (hf : fX10_calm_s57 n   k0 st = some res) : At p l e (rmK 5) s m args below meth c D G ad (MQI D G ad below args s res) 8 st [] 57 [.int k0] := by
  obtain ⟨hx, hb, hml, hown, hts, hr, hlk, hK, had, hSt⟩ := id C
  intro H locs ls hl hP hS
  unfold fX10_calm_s57 at hf
  exact g_iret hx hb hr hlk hP hS dX10_calm_57 hf
def fX10_calm_s56 (n : Nat)    (st : St) : Option (Int32 × St) := fX10_calm_s57 n 0 st
set_option maxHeartbeats 4000000 in
set_option maxRecDepth 100000 in
theorem wX10_calm_s56 (C : Cx p s m args meth c cX10_calm 8 wsL_law RX10 (some .int) D G ad) (n : Nat)      (st : St) (res : (Int32 × St))  (hf : fX10_calm_s56 n    st = some res) : At p l e (rmK 5) s m args below meth c D G ad (MQI D G ad below args s res) 8 st [] 56 [] := by
  obtain ⟨hx, hb, hml, hown, hts, hr, hlk, hK, had, hSt⟩ := id C
  intro H locs ls hl hP hS
  unfold fX10_calm_s56 at hf
  refine lv_iconst (v := 0) hx hb dX10_calm_56 (by decide) ?_
  exact wX10_calm_s57 C n 0 st res hf H locs ls (lv_sub hl [] rfl) hP hS
def fX10_calm_s52 (n : Nat)    (st : St) : Option (Int32 × St) := fX10_calm_s57 n 1 st
set_option maxHeartbeats 4000000 in
set_option maxRecDepth 100000 in
theorem wX10_calm_s52 (C : Cx p s m args meth c cX10_calm 8 wsL_law RX10 (some .int) D G ad) (n : Nat)      (st : St) (res : (Int32 × St))  (hf : fX10_calm_s52 n    st = some res) : At p l e (rmK 5) s m args below meth c D G ad (MQI D G ad below args s res) 8 st [] 52 [] := by
  obtain ⟨hx, hb, hml, hown, hts, hr, hlk, hK, had, hSt⟩ := id C
  intro H locs ls hl hP hS
  unfold fX10_calm_s52 at hf
  refine lv_iconst (v := 1) hx hb dX10_calm_52 (by decide) ?_
  refine lv_goto (tgt := 57) hx hb dX10_calm_53 (by decide) ?_
  exact wX10_calm_s57 C n 1 st res hf H locs ls (lv_sub hl [] rfl) hP hS
def fX10_calm_s49 (n : Nat)   (k0 : Int32) (st : St) : Option (Int32 × St) := if k0 = 0 then fX10_calm_s56 n st else fX10_calm_s52 n st
set_option maxHeartbeats 4000000 in
set_option maxRecDepth 100000 in
theorem wX10_calm_s49 (C : Cx p s m args meth c cX10_calm 8 wsL_law RX10 (some .int) D G ad) (n : Nat)   (k0 : Int32)   (st : St) (res : (Int32 × St))  (hf : fX10_calm_s49 n   k0 st = some res) : At p l e (rmK 5) s m args below meth c D G ad (MQI D G ad below args s res) 8 st [] 49 [.int k0] := by
  obtain ⟨hx, hb, hml, hown, hts, hr, hlk, hK, had, hSt⟩ := id C
  intro H locs ls hl hP hS
  unfold fX10_calm_s49 at hf
  refine lv_if_eq (tgt := 56) hx hb dX10_calm_49 (by decide) (fun q => ?_) (fun q => ?_)
  · exact wX10_calm_s56 C n st res (it hf q) H locs ls (lv_sub hl [] rfl) hP hS
  · exact wX10_calm_s52 C n st res (ie hf q) H locs ls (lv_sub hl [] rfl) hP hS
def fX10_calm_s40 (n : Nat)   (v1 : Int32) (v2 : Int32) (st : St) : Option (Int32 × St) := (fX0_isCalm n v1 v2 st).bind (fun q => fX10_calm_s49 n q.1 q.2)
set_option maxHeartbeats 4000000 in
set_option maxRecDepth 100000 in
theorem wX10_calm_s40 (C : Cx p s m args meth c cX10_calm 8 wsL_law RX10 (some .int) D G ad) (n : Nat)   (v1 : Int32) (v2 : Int32)   (st : St) (res : (Int32 × St))  (hf : fX10_calm_s40 n   v1 v2 st = some res) : At p l e (rmK 5) s m args below meth c D G ad (MQI D G ad below args s res) 8 st [(0, .ref (ad 0)), (1, .int v1), (2, .int v2)] 40 [] := by
  obtain ⟨hx, hb, hml, hown, hts, hr, hlk, hK, had, hSt⟩ := id C
  intro H locs ls hl hP hS
  unfold fX10_calm_s40 at hf
  refine lv_aload_n hx hb dX10_calm_40 rfl (lv_at hl 0 rfl) ?_
  refine g_getR hx hb hts inlX10 hown hK hP 0 ct_0 rfl 8 (by decide) (hts _ wm_3_0) rfl dX10_calm_41 ?_
  refine lv_iload_n hx hb dX10_calm_44 rfl (lv_at hl 1 rfl) ?_
  refine lv_iload_n hx hb dX10_calm_45 rfl (lv_at hl 2 rfl) ?_
  obtain ⟨q, hq, hf⟩ := bd hf
  refine gcV_i (k := 4) (o := 43) (As := [.int v1, .int v2]) (rest := []) hx hb hml hown hts hK hSt hP hS hl.1 (goodV wm_48_19 wm_48_20 wm_48_21 wm_2_23 wm_48_22) okX0_isCalm ct_43 rfl rfl (Nat.le_of_ble_eq_true rfl) (Nat.le_of_ble_eq_true rfl) rfl rfl (Nat.le_of_ble_eq_true rfl) dX10_calm_46 (kX0_isCalm l D G ad had n  v1 v2 st q hq) (fun H locs hP hS => ?_)
  exact wX10_calm_s49 C n q.1 q.2 res hf H locs ls (lv_sub hl [] rfl) hP hS
def fX10_calm_s34 (n : Nat)   (v1 : Int32) (v2 : Int32) (k0 : Int32) (st : St) : Option (Int32 × St) := if k0 = 0 then fX10_calm_s37 n st else fX10_calm_s40 n v1 v2 st
set_option maxHeartbeats 4000000 in
set_option maxRecDepth 100000 in
theorem wX10_calm_s34 (C : Cx p s m args meth c cX10_calm 8 wsL_law RX10 (some .int) D G ad) (n : Nat)   (v1 : Int32) (v2 : Int32) (k0 : Int32)   (st : St) (res : (Int32 × St))  (hf : fX10_calm_s34 n   v1 v2 k0 st = some res) : At p l e (rmK 5) s m args below meth c D G ad (MQI D G ad below args s res) 8 st [(0, .ref (ad 0)), (1, .int v1), (2, .int v2)] 34 [.int k0] := by
  obtain ⟨hx, hb, hml, hown, hts, hr, hlk, hK, had, hSt⟩ := id C
  intro H locs ls hl hP hS
  unfold fX10_calm_s34 at hf
  refine lv_if_ne (tgt := 40) hx hb dX10_calm_34 (by decide) (fun q => ?_) (fun q => ?_)
  · exact wX10_calm_s40 C n v1 v2 st res (ie hf q) H locs ls (lv_sub hl [0, 1, 2] rfl) hP hS
  · exact wX10_calm_s37 C n st res (it hf q) H locs ls (lv_sub hl [] rfl) hP hS
def fX10_calm_s23 (n : Nat)   (v1 : Int32) (v2 : Int32) (v5 : Int64) (v7 : Int32) (st : St) : Option (Int32 × St) := (fX0_readClaims n v5 v7 st).bind (fun q => fX10_calm_s34 n v1 v2 q.1 q.2)
set_option maxHeartbeats 4000000 in
set_option maxRecDepth 100000 in
theorem wX10_calm_s23 (C : Cx p s m args meth c cX10_calm 8 wsL_law RX10 (some .int) D G ad) (n : Nat)   (v1 : Int32) (v2 : Int32) (v5 : Int64) (v7 : Int32)   (st : St) (res : (Int32 × St))  (hf : fX10_calm_s23 n   v1 v2 v5 v7 st = some res) : At p l e (rmK 5) s m args below meth c D G ad (MQI D G ad below args s res) 8 st [(0, .ref (ad 0)), (1, .int v1), (2, .int v2), (5, .long v5), (7, .int v7)] 23 [] := by
  obtain ⟨hx, hb, hml, hown, hts, hr, hlk, hK, had, hSt⟩ := id C
  intro H locs ls hl hP hS
  unfold fX10_calm_s23 at hf
  refine lv_aload_n hx hb dX10_calm_23 rfl (lv_at hl 0 rfl) ?_
  refine g_getR hx hb hts inlX10 hown hK hP 0 ct_0 rfl 8 (by decide) (hts _ wm_3_0) rfl dX10_calm_24 ?_
  refine lv_lload hx hb dX10_calm_27 (lv_at hl 3 rfl) ?_
  refine lv_iload hx hb dX10_calm_29 (lv_at hl 4 rfl) ?_
  obtain ⟨q, hq, hf⟩ := bd hf
  refine gcV_i (k := 1) (o := 43) (As := [.long v5, .int v7]) (rest := []) hx hb hml hown hts hK hSt hP hS hl.1 (goodV wm_47_8 wm_47_9 wm_47_10 wm_2_23 wm_47_11) okX0_readClaims ct_43 rfl rfl (Nat.le_of_ble_eq_true rfl) (Nat.le_of_ble_eq_true rfl) rfl rfl (Nat.le_of_ble_eq_true rfl) dX10_calm_31 (kX0_readClaims l D G ad had n  v5 v7 st q hq) (fun H locs hP hS => ?_)
  exact wX10_calm_s34 C n v1 v2 q.1 q.2 res hf H locs ls (lv_sub hl [0, 1, 2] rfl) hP hS
def fX10_calm_s20 (n : Nat)   (v1 : Int32) (v2 : Int32) (v5 : Int64) (v7 : Int32) (k0 : Int32) (st : St) : Option (Int32 × St) := if k0 = 0 then fX10_calm_s37 n st else fX10_calm_s23 n v1 v2 v5 v7 st
set_option maxHeartbeats 4000000 in
set_option maxRecDepth 100000 in
theorem wX10_calm_s20 (C : Cx p s m args meth c cX10_calm 8 wsL_law RX10 (some .int) D G ad) (n : Nat)   (v1 : Int32) (v2 : Int32) (v5 : Int64) (v7 : Int32) (k0 : Int32)   (st : St) (res : (Int32 × St))  (hf : fX10_calm_s20 n   v1 v2 v5 v7 k0 st = some res) : At p l e (rmK 5) s m args below meth c D G ad (MQI D G ad below args s res) 8 st [(0, .ref (ad 0)), (1, .int v1), (2, .int v2), (5, .long v5), (7, .int v7)] 20 [.int k0] := by
  obtain ⟨hx, hb, hml, hown, hts, hr, hlk, hK, had, hSt⟩ := id C
  intro H locs ls hl hP hS
  unfold fX10_calm_s20 at hf
  refine lv_if_eq (tgt := 37) hx hb dX10_calm_20 (by decide) (fun q => ?_) (fun q => ?_)
  · exact wX10_calm_s37 C n st res (it hf q) H locs ls (lv_sub hl [] rfl) hP hS
  · exact wX10_calm_s23 C n v1 v2 v5 v7 st res (ie hf q) H locs ls (lv_sub hl [0, 1, 2, 3, 4] rfl) hP hS
def fX10_calm_s10 (n : Nat)   (v1 : Int32) (v2 : Int32) (v3 : Int64) (v5 : Int64) (v7 : Int32) (st : St) : Option (Int32 × St) := (fX0_readWants n v3 v7 st).bind (fun q => fX10_calm_s20 n v1 v2 v5 v7 q.1 q.2)
set_option maxHeartbeats 4000000 in
set_option maxRecDepth 100000 in
theorem wX10_calm_s10 (C : Cx p s m args meth c cX10_calm 8 wsL_law RX10 (some .int) D G ad) (n : Nat)   (v1 : Int32) (v2 : Int32) (v3 : Int64) (v5 : Int64) (v7 : Int32)   (st : St) (res : (Int32 × St))  (hf : fX10_calm_s10 n   v1 v2 v3 v5 v7 st = some res) : At p l e (rmK 5) s m args below meth c D G ad (MQI D G ad below args s res) 8 st [(0, .ref (ad 0)), (1, .int v1), (2, .int v2), (3, .long v3), (5, .long v5), (7, .int v7)] 10 [] := by
  obtain ⟨hx, hb, hml, hown, hts, hr, hlk, hK, had, hSt⟩ := id C
  intro H locs ls hl hP hS
  unfold fX10_calm_s10 at hf
  refine lv_aload_n hx hb dX10_calm_10 rfl (lv_at hl 0 rfl) ?_
  refine g_getR hx hb hts inlX10 hown hK hP 0 ct_0 rfl 8 (by decide) (hts _ wm_3_0) rfl dX10_calm_11 ?_
  refine lv_lload_n hx hb dX10_calm_14 rfl (lv_at hl 3 rfl) ?_
  refine lv_iload hx hb dX10_calm_15 (lv_at hl 5 rfl) ?_
  obtain ⟨q, hq, hf⟩ := bd hf
  refine gcV_i (k := 1) (o := 43) (As := [.long v3, .int v7]) (rest := []) hx hb hml hown hts hK hSt hP hS hl.1 (goodV wm_48_15 wm_48_16 wm_48_17 wm_2_23 wm_48_18) okX0_readWants ct_43 rfl rfl (Nat.le_of_ble_eq_true rfl) (Nat.le_of_ble_eq_true rfl) rfl rfl (Nat.le_of_ble_eq_true rfl) dX10_calm_17 (kX0_readWants l D G ad had n  v3 v7 st q hq) (fun H locs hP hS => ?_)
  exact wX10_calm_s20 C n v1 v2 v5 v7 q.1 q.2 res hf H locs ls (lv_sub hl [0, 1, 2, 4, 5] rfl) hP hS
def fX10_calm_s7 (n : Nat)   (v1 : Int32) (v2 : Int32) (v3 : Int64) (v5 : Int64) (v7 : Int32) (k0 : Int32) (st : St) : Option (Int32 × St) := if k0 = 0 then fX10_calm_s37 n st else fX10_calm_s10 n v1 v2 v3 v5 v7 st
set_option maxHeartbeats 4000000 in
set_option maxRecDepth 100000 in
theorem wX10_calm_s7 (C : Cx p s m args meth c cX10_calm 8 wsL_law RX10 (some .int) D G ad) (n : Nat)   (v1 : Int32) (v2 : Int32) (v3 : Int64) (v5 : Int64) (v7 : Int32) (k0 : Int32)   (st : St) (res : (Int32 × St))  (hf : fX10_calm_s7 n   v1 v2 v3 v5 v7 k0 st = some res) : At p l e (rmK 5) s m args below meth c D G ad (MQI D G ad below args s res) 8 st [(0, .ref (ad 0)), (1, .int v1), (2, .int v2), (3, .long v3), (5, .long v5), (7, .int v7)] 7 [.int k0] := by
  obtain ⟨hx, hb, hml, hown, hts, hr, hlk, hK, had, hSt⟩ := id C
  intro H locs ls hl hP hS
  unfold fX10_calm_s7 at hf
  refine lv_if_eq (tgt := 37) hx hb dX10_calm_7 (by decide) (fun q => ?_) (fun q => ?_)
  · exact wX10_calm_s37 C n st res (it hf q) H locs ls (lv_sub hl [] rfl) hP hS
  · exact wX10_calm_s10 C n v1 v2 v3 v5 v7 st res (ie hf q) H locs ls (lv_sub hl [0, 1, 2, 3, 4, 5] rfl) hP hS
def fX10_calm_s0 (n : Nat)   (v1 : Int32) (v2 : Int32) (v3 : Int64) (v5 : Int64) (v7 : Int32) (st : St) : Option (Int32 × St) := (fX10_areClaimsFine n v1 v2 v7 st).bind (fun q => fX10_calm_s7 n v1 v2 v3 v5 v7 q.1 q.2)
set_option maxHeartbeats 4000000 in
set_option maxRecDepth 100000 in
theorem wX10_calm_s0 (C : Cx p s m args meth c cX10_calm 8 wsL_law RX10 (some .int) D G ad) (n : Nat)   (v1 : Int32) (v2 : Int32) (v3 : Int64) (v5 : Int64) (v7 : Int32)   (st : St) (res : (Int32 × St))  (hf : fX10_calm_s0 n   v1 v2 v3 v5 v7 st = some res) : At p l e (rmK 5) s m args below meth c D G ad (MQI D G ad below args s res) 8 st [(0, .ref (ad 0)), (1, .int v1), (2, .int v2), (3, .long v3), (5, .long v5), (7, .int v7)] 0 [] := by
  obtain ⟨hx, hb, hml, hown, hts, hr, hlk, hK, had, hSt⟩ := id C
  intro H locs ls hl hP hS
  unfold fX10_calm_s0 at hf
  refine lv_iload_n hx hb dX10_calm_0 rfl (lv_at hl 1 rfl) ?_
  refine lv_iload_n hx hb dX10_calm_1 rfl (lv_at hl 2 rfl) ?_
  refine lv_iload hx hb dX10_calm_2 (lv_at hl 5 rfl) ?_
  obtain ⟨q, hq, hf⟩ := bd hf
  refine gcS_i (k := 1) (As := [.int v1, .int v2, .int v7]) (rest := []) hx hb hml hown hts hK hSt hP hS hl.1 (goodS wm_47_5 wm_47_6 wm_1_2 wm_47_7) okX10_areClaimsFine (Nat.le_of_ble_eq_true rfl) (Nat.le_of_ble_eq_true rfl) rfl rfl (Nat.le_of_ble_eq_true rfl) dX10_calm_4 (kX10_areClaimsFine l D G ad had n  v1 v2 v7 st q hq) (fun H locs hP hS => ?_)
  exact wX10_calm_s7 C n v1 v2 v3 v5 v7 q.1 q.2 res hf H locs ls (lv_sub hl [0, 1, 2, 3, 4, 5] rfl) hP hS
def fX10_calm (n : Nat)  (a1 : Int32) (a2 : Int32) (a3 : Int64) (a5 : Int64) (a7 : Int32) (st : St) : Option (Int32 × St) := fX10_calm_s0 n a1 a2 a3 a5 a7 st
theorem okX10_calm : okY yX10_calm RX10 5 := by unfold okY; decide +kernel
end
set_option maxRecDepth 100000 in
theorem kX10_calm (l : Launch) (D : va_G) (G : G3) (ad : Nat → Nat) (had : Adr ad) (n : Nat)   (a1 : Int32) (a2 : Int32) (a3 : Int64) (a5 : Int64) (a7 : Int32) (st : St) (res : (Int32 × St)) (hf : fX10_calm n  a1 a2 a3 a5 a7 st = some res) {sz : Nat} : CtI l yX10_calm (wsU yX10_calm cX10_calm 8 (some .int)) (rmK 5) D G ad sz [.ref (ad 0), .int a1, .int a2, .long a3, .long a5, .int a7] st res := by
  refine Met.ofW (cc := cX10_calm) (maxL := 8) (ret := (some .int)) (by decide) rfl ?_
  intro p e s m args below meth c s₁ B hml hv
  obtain ⟨rfl, hsz, hP, hK, hSt⟩ := hv
  have hts := atoms_spec (ws := wsU yX10_calm cX10_calm 8 (some .int)) B.pre
  have C : Cx p s m _ meth c cX10_calm 8 wsL_law RX10 (some .int) D G ad := ⟨B.exec, B.bytes, hml, findClass_of_methodNamed B.named, fun w h => hts w (List.mem_cons_of_mem _ h), B.returns, B.notSynchronized, hK, had, hSt⟩
  subst hsz
  have hl := lv_entry ([.ref (ad 0), .int a1, .int a2, .long a3, .long a5, .int a7]) (n := 8) (Nat.le_of_ble_eq_true rfl)
  rw [lg_entry_eq]
  generalize (lg_sl ([.ref (ad 0), .int a1, .int a2, .long a3, .long a5, .int a7]) ++ List.replicate (8 - (lg_sl ([.ref (ad 0), .int a1, .int a2, .long a3, .long a5, .int a7])).length) Slot.unset).toArray = ls at hl ⊢
  exact wX10_calm_s0 C n  a1 a2 a3 a5 a7   st res hf s.heap [] ls (lv_sub hl [0, 1, 2, 3, 4, 5] rfl) hP va_S.rf
section
variable {p : Program} {l : Launch} {e : Env} {s : State} {m : MethodId} {args : Array Value} {below : List Frame} {meth : Method} {c : Code} {D : va_G} {G : G3} {ad : Nat → Nat}
def fX10_calmest_s29 (n : Nat)    (st : St) : Option (Int64 × St) := some ((-2), st)
set_option maxHeartbeats 4000000 in
set_option maxRecDepth 100000 in
theorem wX10_calmest_s29 (C : Cx p s m args meth c cX10_calmest 6 wsL_law RX10 (some .long) D G ad) (n : Nat)      (st : St) (res : (Int64 × St))  (hf : fX10_calmest_s29 n    st = some res) : At p l e (rmK 6) s m args below meth c D G ad (MQJ D G ad below args s res) 6 st [] 29 [] := by
  obtain ⟨hx, hb, hml, hown, hts, hr, hlk, hK, had, hSt⟩ := id C
  intro H locs ls hl hP hS
  unfold fX10_calmest_s29 at hf
  refine lv_ldc2 hx hb hown (hts _ wm_44_16) dX10_calmest_29 ?_
  exact g_lret hx hb hr hlk hP hS dX10_calmest_32 hf
def fX10_calmest_s58 (n : Nat)   (k0 : Int64) (st : St) : Option (Int64 × St) := some (k0, st)
set_option maxHeartbeats 4000000 in
set_option maxRecDepth 100000 in
theorem wX10_calmest_s58 (C : Cx p s m args meth c cX10_calmest 6 wsL_law RX10 (some .long) D G ad) (n : Nat)   (k0 : Int64)   (st : St) (res : (Int64 × St))  (hf : fX10_calmest_s58 n   k0 st = some res) : At p l e (rmK 6) s m args below meth c D G ad (MQJ D G ad below args s res) 6 st [] 58 [.long k0] := by
  obtain ⟨hx, hb, hml, hown, hts, hr, hlk, hK, had, hSt⟩ := id C
  intro H locs ls hl hP hS
  unfold fX10_calmest_s58 at hf
  exact g_lret hx hb hr hlk hP hS dX10_calmest_58 hf
def fX10_calmest_s55 (n : Nat)    (st : St) : Option (Int64 × St) := fX10_calmest_s58 n (-1) st
set_option maxHeartbeats 4000000 in
set_option maxRecDepth 100000 in
theorem wX10_calmest_s55 (C : Cx p s m args meth c cX10_calmest 6 wsL_law RX10 (some .long) D G ad) (n : Nat)      (st : St) (res : (Int64 × St))  (hf : fX10_calmest_s55 n    st = some res) : At p l e (rmK 6) s m args below meth c D G ad (MQJ D G ad below args s res) 6 st [] 55 [] := by
  obtain ⟨hx, hb, hml, hown, hts, hr, hlk, hK, had, hSt⟩ := id C
  intro H locs ls hl hP hS
  unfold fX10_calmest_s55 at hf
  refine lv_ldc2 hx hb hown (hts _ wm_44_15) dX10_calmest_55 ?_
  exact wX10_calmest_s58 C n (-1) st res hf H locs ls (lv_sub hl [] rfl) hP hS
def fX10_calmest_s52 (n : Nat)   (k0 : Int64) (st : St) : Option (Int64 × St) := fX10_calmest_s58 n k0 st
set_option maxHeartbeats 4000000 in
set_option maxRecDepth 100000 in
theorem wX10_calmest_s52 (C : Cx p s m args meth c cX10_calmest 6 wsL_law RX10 (some .long) D G ad) (n : Nat)   (k0 : Int64)   (st : St) (res : (Int64 × St))  (hf : fX10_calmest_s52 n   k0 st = some res) : At p l e (rmK 6) s m args below meth c D G ad (MQJ D G ad below args s res) 6 st [] 52 [.long k0] := by
  obtain ⟨hx, hb, hml, hown, hts, hr, hlk, hK, had, hSt⟩ := id C
  intro H locs ls hl hP hS
  unfold fX10_calmest_s52 at hf
  refine lv_goto (tgt := 58) hx hb dX10_calmest_52 (by decide) ?_
  exact wX10_calmest_s58 C n k0 st res hf H locs ls (lv_sub hl [] rfl) hP hS
def fX10_calmest_s45 (n : Nat)    (st : St) : Option (Int64 × St) := (fX0_tellClaims n st).bind (fun q => fX10_calmest_s52 n q.1 q.2)
set_option maxHeartbeats 4000000 in
set_option maxRecDepth 100000 in
theorem wX10_calmest_s45 (C : Cx p s m args meth c cX10_calmest 6 wsL_law RX10 (some .long) D G ad) (n : Nat)      (st : St) (res : (Int64 × St))  (hf : fX10_calmest_s45 n    st = some res) : At p l e (rmK 6) s m args below meth c D G ad (MQJ D G ad below args s res) 6 st [(0, .ref (ad 0))] 45 [] := by
  obtain ⟨hx, hb, hml, hown, hts, hr, hlk, hK, had, hSt⟩ := id C
  intro H locs ls hl hP hS
  unfold fX10_calmest_s45 at hf
  refine lv_aload_n hx hb dX10_calmest_45 rfl (lv_at hl 0 rfl) ?_
  refine g_getR hx hb hts inlX10 hown hK hP 0 ct_0 rfl 8 (by decide) (hts _ wm_3_0) rfl dX10_calmest_46 ?_
  obtain ⟨q, hq, hf⟩ := bd hf
  refine gcV_j (k := 0) (o := 43) (As := []) (rest := []) hx hb hml hown hts hK hSt hP hS hl.1 (goodV wm_50_1 wm_50_2 wm_50_3 wm_2_23 wm_50_4) okX0_tellClaims ct_43 rfl rfl (Nat.le_of_ble_eq_true rfl) (Nat.le_of_ble_eq_true rfl) rfl rfl (Nat.le_of_ble_eq_true rfl) dX10_calmest_49 (kX0_tellClaims l D G ad had n   st q hq) (fun H locs hP hS => ?_)
  exact wX10_calmest_s52 C n q.1 q.2 res hf H locs ls (lv_sub hl [] rfl) hP hS
def fX10_calmest_s42 (n : Nat)   (k0 : Int32) (st : St) : Option (Int64 × St) := if k0 = 0 then fX10_calmest_s55 n st else fX10_calmest_s45 n st
set_option maxHeartbeats 4000000 in
set_option maxRecDepth 100000 in
theorem wX10_calmest_s42 (C : Cx p s m args meth c cX10_calmest 6 wsL_law RX10 (some .long) D G ad) (n : Nat)   (k0 : Int32)   (st : St) (res : (Int64 × St))  (hf : fX10_calmest_s42 n   k0 st = some res) : At p l e (rmK 6) s m args below meth c D G ad (MQJ D G ad below args s res) 6 st [(0, .ref (ad 0))] 42 [.int k0] := by
  obtain ⟨hx, hb, hml, hown, hts, hr, hlk, hK, had, hSt⟩ := id C
  intro H locs ls hl hP hS
  unfold fX10_calmest_s42 at hf
  refine lv_if_eq (tgt := 55) hx hb dX10_calmest_42 (by decide) (fun q => ?_) (fun q => ?_)
  · exact wX10_calmest_s55 C n st res (it hf q) H locs ls (lv_sub hl [] rfl) hP hS
  · exact wX10_calmest_s45 C n st res (ie hf q) H locs ls (lv_sub hl [0] rfl) hP hS
def fX10_calmest_s33 (n : Nat)   (v1 : Int32) (v2 : Int32) (st : St) : Option (Int64 × St) := (fX0_firstCalm n v1 v2 st).bind (fun q => fX10_calmest_s42 n q.1 q.2)
set_option maxHeartbeats 4000000 in
set_option maxRecDepth 100000 in
theorem wX10_calmest_s33 (C : Cx p s m args meth c cX10_calmest 6 wsL_law RX10 (some .long) D G ad) (n : Nat)   (v1 : Int32) (v2 : Int32)   (st : St) (res : (Int64 × St))  (hf : fX10_calmest_s33 n   v1 v2 st = some res) : At p l e (rmK 6) s m args below meth c D G ad (MQJ D G ad below args s res) 6 st [(0, .ref (ad 0)), (1, .int v1), (2, .int v2)] 33 [] := by
  obtain ⟨hx, hb, hml, hown, hts, hr, hlk, hK, had, hSt⟩ := id C
  intro H locs ls hl hP hS
  unfold fX10_calmest_s33 at hf
  refine lv_aload_n hx hb dX10_calmest_33 rfl (lv_at hl 0 rfl) ?_
  refine g_getR hx hb hts inlX10 hown hK hP 0 ct_0 rfl 8 (by decide) (hts _ wm_3_0) rfl dX10_calmest_34 ?_
  refine lv_iload_n hx hb dX10_calmest_37 rfl (lv_at hl 1 rfl) ?_
  refine lv_iload_n hx hb dX10_calmest_38 rfl (lv_at hl 2 rfl) ?_
  obtain ⟨q, hq, hf⟩ := bd hf
  refine gcV_i (k := 5) (o := 43) (As := [.int v1, .int v2]) (rest := []) hx hb hml hown hts hK hSt hP hS hl.1 (goodV wm_49_20 wm_49_21 wm_49_22 wm_2_23 wm_49_23) okX0_firstCalm ct_43 rfl rfl (Nat.le_of_ble_eq_true rfl) (Nat.le_of_ble_eq_true rfl) rfl rfl (Nat.le_of_ble_eq_true rfl) dX10_calmest_39 (kX0_firstCalm l D G ad had n  v1 v2 st q hq) (fun H locs hP hS => ?_)
  exact wX10_calmest_s42 C n q.1 q.2 res hf H locs ls (lv_sub hl [0] rfl) hP hS
def fX10_calmest_s26 (n : Nat)   (v1 : Int32) (v2 : Int32) (k0 : Int32) (st : St) : Option (Int64 × St) := if k0 = 0 then fX10_calmest_s29 n st else fX10_calmest_s33 n v1 v2 st
set_option maxHeartbeats 4000000 in
set_option maxRecDepth 100000 in
theorem wX10_calmest_s26 (C : Cx p s m args meth c cX10_calmest 6 wsL_law RX10 (some .long) D G ad) (n : Nat)   (v1 : Int32) (v2 : Int32) (k0 : Int32)   (st : St) (res : (Int64 × St))  (hf : fX10_calmest_s26 n   v1 v2 k0 st = some res) : At p l e (rmK 6) s m args below meth c D G ad (MQJ D G ad below args s res) 6 st [(0, .ref (ad 0)), (1, .int v1), (2, .int v2)] 26 [.int k0] := by
  obtain ⟨hx, hb, hml, hown, hts, hr, hlk, hK, had, hSt⟩ := id C
  intro H locs ls hl hP hS
  unfold fX10_calmest_s26 at hf
  refine lv_if_ne (tgt := 33) hx hb dX10_calmest_26 (by decide) (fun q => ?_) (fun q => ?_)
  · exact wX10_calmest_s33 C n v1 v2 st res (ie hf q) H locs ls (lv_sub hl [0, 1, 2] rfl) hP hS
  · exact wX10_calmest_s29 C n st res (it hf q) H locs ls (lv_sub hl [] rfl) hP hS
def fX10_calmest_s16 (n : Nat)   (v1 : Int32) (v2 : Int32) (v3 : Int64) (v5 : Int32) (st : St) : Option (Int64 × St) := (fX0_readWants n v3 v5 st).bind (fun q => fX10_calmest_s26 n v1 v2 q.1 q.2)
set_option maxHeartbeats 4000000 in
set_option maxRecDepth 100000 in
theorem wX10_calmest_s16 (C : Cx p s m args meth c cX10_calmest 6 wsL_law RX10 (some .long) D G ad) (n : Nat)   (v1 : Int32) (v2 : Int32) (v3 : Int64) (v5 : Int32)   (st : St) (res : (Int64 × St))  (hf : fX10_calmest_s16 n   v1 v2 v3 v5 st = some res) : At p l e (rmK 6) s m args below meth c D G ad (MQJ D G ad below args s res) 6 st [(0, .ref (ad 0)), (1, .int v1), (2, .int v2), (3, .long v3), (5, .int v5)] 16 [] := by
  obtain ⟨hx, hb, hml, hown, hts, hr, hlk, hK, had, hSt⟩ := id C
  intro H locs ls hl hP hS
  unfold fX10_calmest_s16 at hf
  refine lv_aload_n hx hb dX10_calmest_16 rfl (lv_at hl 0 rfl) ?_
  refine g_getR hx hb hts inlX10 hown hK hP 0 ct_0 rfl 8 (by decide) (hts _ wm_3_0) rfl dX10_calmest_17 ?_
  refine lv_lload_n hx hb dX10_calmest_20 rfl (lv_at hl 3 rfl) ?_
  refine lv_iload hx hb dX10_calmest_21 (lv_at hl 4 rfl) ?_
  obtain ⟨q, hq, hf⟩ := bd hf
  refine gcV_i (k := 1) (o := 43) (As := [.long v3, .int v5]) (rest := []) hx hb hml hown hts hK hSt hP hS hl.1 (goodV wm_48_15 wm_48_16 wm_48_17 wm_2_23 wm_48_18) okX0_readWants ct_43 rfl rfl (Nat.le_of_ble_eq_true rfl) (Nat.le_of_ble_eq_true rfl) rfl rfl (Nat.le_of_ble_eq_true rfl) dX10_calmest_23 (kX0_readWants l D G ad had n  v3 v5 st q hq) (fun H locs hP hS => ?_)
  exact wX10_calmest_s26 C n v1 v2 q.1 q.2 res hf H locs ls (lv_sub hl [0, 1, 2] rfl) hP hS
def fX10_calmest_s10 (n : Nat)   (v1 : Int32) (v2 : Int32) (v3 : Int64) (v5 : Int32) (st : St) : Option (Int64 × St) := if 3 < v5 then fX10_calmest_s29 n st else fX10_calmest_s16 n v1 v2 v3 v5 st
set_option maxHeartbeats 4000000 in
set_option maxRecDepth 100000 in
theorem wX10_calmest_s10 (C : Cx p s m args meth c cX10_calmest 6 wsL_law RX10 (some .long) D G ad) (n : Nat)   (v1 : Int32) (v2 : Int32) (v3 : Int64) (v5 : Int32)   (st : St) (res : (Int64 × St))  (hf : fX10_calmest_s10 n   v1 v2 v3 v5 st = some res) : At p l e (rmK 6) s m args below meth c D G ad (MQJ D G ad below args s res) 6 st [(0, .ref (ad 0)), (1, .int v1), (2, .int v2), (3, .long v3), (5, .int v5)] 10 [] := by
  obtain ⟨hx, hb, hml, hown, hts, hr, hlk, hK, had, hSt⟩ := id C
  intro H locs ls hl hP hS
  unfold fX10_calmest_s10 at hf
  refine lv_iload hx hb dX10_calmest_10 (lv_at hl 4 rfl) ?_
  refine lv_iconst (v := 3) hx hb dX10_calmest_12 (by decide) ?_
  refine lv_icmp_gt (tgt := 29) hx hb dX10_calmest_13 (by decide) (fun q => ?_) (fun q => ?_)
  · exact wX10_calmest_s29 C n st res (it hf q) H locs ls (lv_sub hl [] rfl) hP hS
  · exact wX10_calmest_s16 C n v1 v2 v3 v5 st res (ie hf q) H locs ls (lv_sub hl [0, 1, 2, 3, 4] rfl) hP hS
def fX10_calmest_s7 (n : Nat)   (v1 : Int32) (v2 : Int32) (v3 : Int64) (v5 : Int32) (k0 : Int32) (st : St) : Option (Int64 × St) := if k0 = 0 then fX10_calmest_s29 n st else fX10_calmest_s10 n v1 v2 v3 v5 st
set_option maxHeartbeats 4000000 in
set_option maxRecDepth 100000 in
theorem wX10_calmest_s7 (C : Cx p s m args meth c cX10_calmest 6 wsL_law RX10 (some .long) D G ad) (n : Nat)   (v1 : Int32) (v2 : Int32) (v3 : Int64) (v5 : Int32) (k0 : Int32)   (st : St) (res : (Int64 × St))  (hf : fX10_calmest_s7 n   v1 v2 v3 v5 k0 st = some res) : At p l e (rmK 6) s m args below meth c D G ad (MQJ D G ad below args s res) 6 st [(0, .ref (ad 0)), (1, .int v1), (2, .int v2), (3, .long v3), (5, .int v5)] 7 [.int k0] := by
  obtain ⟨hx, hb, hml, hown, hts, hr, hlk, hK, had, hSt⟩ := id C
  intro H locs ls hl hP hS
  unfold fX10_calmest_s7 at hf
  refine lv_if_eq (tgt := 29) hx hb dX10_calmest_7 (by decide) (fun q => ?_) (fun q => ?_)
  · exact wX10_calmest_s29 C n st res (it hf q) H locs ls (lv_sub hl [] rfl) hP hS
  · exact wX10_calmest_s10 C n v1 v2 v3 v5 st res (ie hf q) H locs ls (lv_sub hl [0, 1, 2, 3, 4] rfl) hP hS
def fX10_calmest_s0 (n : Nat)   (v1 : Int32) (v2 : Int32) (v3 : Int64) (v5 : Int32) (st : St) : Option (Int64 × St) := (fX10_areClaimsFine n v1 v2 v5 st).bind (fun q => fX10_calmest_s7 n v1 v2 v3 v5 q.1 q.2)
set_option maxHeartbeats 4000000 in
set_option maxRecDepth 100000 in
theorem wX10_calmest_s0 (C : Cx p s m args meth c cX10_calmest 6 wsL_law RX10 (some .long) D G ad) (n : Nat)   (v1 : Int32) (v2 : Int32) (v3 : Int64) (v5 : Int32)   (st : St) (res : (Int64 × St))  (hf : fX10_calmest_s0 n   v1 v2 v3 v5 st = some res) : At p l e (rmK 6) s m args below meth c D G ad (MQJ D G ad below args s res) 6 st [(0, .ref (ad 0)), (1, .int v1), (2, .int v2), (3, .long v3), (5, .int v5)] 0 [] := by
  obtain ⟨hx, hb, hml, hown, hts, hr, hlk, hK, had, hSt⟩ := id C
  intro H locs ls hl hP hS
  unfold fX10_calmest_s0 at hf
  refine lv_iload_n hx hb dX10_calmest_0 rfl (lv_at hl 1 rfl) ?_
  refine lv_iload_n hx hb dX10_calmest_1 rfl (lv_at hl 2 rfl) ?_
  refine lv_iload hx hb dX10_calmest_2 (lv_at hl 4 rfl) ?_
  obtain ⟨q, hq, hf⟩ := bd hf
  refine gcS_i (k := 1) (As := [.int v1, .int v2, .int v5]) (rest := []) hx hb hml hown hts hK hSt hP hS hl.1 (goodS wm_47_5 wm_47_6 wm_1_2 wm_47_7) okX10_areClaimsFine (Nat.le_of_ble_eq_true rfl) (Nat.le_of_ble_eq_true rfl) rfl rfl (Nat.le_of_ble_eq_true rfl) dX10_calmest_4 (kX10_areClaimsFine l D G ad had n  v1 v2 v5 st q hq) (fun H locs hP hS => ?_)
  exact wX10_calmest_s7 C n v1 v2 v3 v5 q.1 q.2 res hf H locs ls (lv_sub hl [0, 1, 2, 3, 4] rfl) hP hS
def fX10_calmest (n : Nat)  (a1 : Int32) (a2 : Int32) (a3 : Int64) (a5 : Int32) (st : St) : Option (Int64 × St) := fX10_calmest_s0 n a1 a2 a3 a5 st
theorem okX10_calmest : okY yX10_calmest RX10 4 := by unfold okY; decide +kernel
end
set_option maxRecDepth 100000 in
theorem kX10_calmest (l : Launch) (D : va_G) (G : G3) (ad : Nat → Nat) (had : Adr ad) (n : Nat)   (a1 : Int32) (a2 : Int32) (a3 : Int64) (a5 : Int32) (st : St) (res : (Int64 × St)) (hf : fX10_calmest n  a1 a2 a3 a5 st = some res) {sz : Nat} : CtJ l yX10_calmest (wsU yX10_calmest cX10_calmest 6 (some .long)) (rmK 6) D G ad sz [.ref (ad 0), .int a1, .int a2, .long a3, .int a5] st res := by
  refine Met.ofW (cc := cX10_calmest) (maxL := 6) (ret := (some .long)) (by decide) rfl ?_
  intro p e s m args below meth c s₁ B hml hv
  obtain ⟨rfl, hsz, hP, hK, hSt⟩ := hv
  have hts := atoms_spec (ws := wsU yX10_calmest cX10_calmest 6 (some .long)) B.pre
  have C : Cx p s m _ meth c cX10_calmest 6 wsL_law RX10 (some .long) D G ad := ⟨B.exec, B.bytes, hml, findClass_of_methodNamed B.named, fun w h => hts w (List.mem_cons_of_mem _ h), B.returns, B.notSynchronized, hK, had, hSt⟩
  subst hsz
  have hl := lv_entry ([.ref (ad 0), .int a1, .int a2, .long a3, .int a5]) (n := 6) (Nat.le_of_ble_eq_true rfl)
  rw [lg_entry_eq]
  generalize (lg_sl ([.ref (ad 0), .int a1, .int a2, .long a3, .int a5]) ++ List.replicate (6 - (lg_sl ([.ref (ad 0), .int a1, .int a2, .long a3, .int a5])).length) Slot.unset).toArray = ls at hl ⊢
  exact wX10_calmest_s0 C n  a1 a2 a3 a5   st res hf s.heap [] ls (lv_sub hl [0, 1, 2, 3, 4] rfl) hP va_S.rf
section
variable {p : Program} {l : Launch} {e : Env} {s : State} {m : MethodId} {args : Array Value} {below : List Frame} {meth : Method} {c : Code} {D : va_G} {G : G3} {ad : Nat → Nat}
def fX10_count_s40 (n : Nat)    (st : St) : Option (Int32 × St) := some (st.1 1 9, st)
set_option maxHeartbeats 4000000 in
set_option maxRecDepth 100000 in
theorem wX10_count_s40 (C : Cx p s m args meth c cX10_count 2 wsL_law RX10 (some .int) D G ad) (n : Nat)      (st : St) (res : (Int32 × St))  (hf : fX10_count_s40 n    st = some res) : At p l e (rmK 0) s m args below meth c D G ad (MQI D G ad below args s res) 2 st [(0, .ref (ad 0))] 40 [] := by
  obtain ⟨hx, hb, hml, hown, hts, hr, hlk, hK, had, hSt⟩ := id C
  intro H locs ls hl hP hS
  unfold fX10_count_s40 at hf
  refine lv_aload_n hx hb dX10_count_40 rfl (lv_at hl 0 rfl) ?_
  refine g_getR hx hb hts inlX10 hown hK hP 0 ct_0 rfl 0 (by decide) (hts _ wm_1_16) rfl dX10_count_41 ?_
  refine g_getI hx hb hts inlX6 hown hK hP 1 ct_1 rfl 9 (by decide) (hts _ wm_9_9) rfl dX10_count_44 ?_
  exact g_iret hx hb hr hlk hP hS dX10_count_47 hf
def fX10_count_s48 (n : Nat)    (st : St) : Option (Int32 × St) := some (st.1 11 3, st)
set_option maxHeartbeats 4000000 in
set_option maxRecDepth 100000 in
theorem wX10_count_s48 (C : Cx p s m args meth c cX10_count 2 wsL_law RX10 (some .int) D G ad) (n : Nat)      (st : St) (res : (Int32 × St))  (hf : fX10_count_s48 n    st = some res) : At p l e (rmK 0) s m args below meth c D G ad (MQI D G ad below args s res) 2 st [(0, .ref (ad 0))] 48 [] := by
  obtain ⟨hx, hb, hml, hown, hts, hr, hlk, hK, had, hSt⟩ := id C
  intro H locs ls hl hP hS
  unfold fX10_count_s48 at hf
  refine lv_aload_n hx hb dX10_count_48 rfl (lv_at hl 0 rfl) ?_
  refine g_getR hx hb hts inlX10 hown hK hP 0 ct_0 rfl 1 (by decide) (hts _ wm_1_20) rfl dX10_count_49 ?_
  refine g_getI hx hb hts inlX7 hown hK hP 11 ct_11 rfl 3 (by decide) (hts _ wm_25_17) rfl dX10_count_52 ?_
  exact g_iret hx hb hr hlk hP hS dX10_count_55 hf
def fX10_count_s56 (n : Nat)    (st : St) : Option (Int32 × St) := some (st.1 53 10, st)
set_option maxHeartbeats 4000000 in
set_option maxRecDepth 100000 in
theorem wX10_count_s56 (C : Cx p s m args meth c cX10_count 2 wsL_law RX10 (some .int) D G ad) (n : Nat)      (st : St) (res : (Int32 × St))  (hf : fX10_count_s56 n    st = some res) : At p l e (rmK 0) s m args below meth c D G ad (MQI D G ad below args s res) 2 st [(0, .ref (ad 0))] 56 [] := by
  obtain ⟨hx, hb, hml, hown, hts, hr, hlk, hK, had, hSt⟩ := id C
  intro H locs ls hl hP hS
  unfold fX10_count_s56 at hf
  refine lv_aload_n hx hb dX10_count_56 rfl (lv_at hl 0 rfl) ?_
  refine g_getR hx hb hts inlX10 hown hK hP 0 ct_0 rfl 11 (by decide) (hts _ wm_3_7) rfl dX10_count_57 ?_
  refine g_getI hx hb hts inlX1 hown hK hP 53 ct_53 rfl 10 (by decide) (hts _ wm_9_10) rfl dX10_count_60 ?_
  exact g_iret hx hb hr hlk hP hS dX10_count_63 hf
def fX10_count_s64 (n : Nat)    (st : St) : Option (Int32 × St) := some (st.1 1 11, st)
set_option maxHeartbeats 4000000 in
set_option maxRecDepth 100000 in
theorem wX10_count_s64 (C : Cx p s m args meth c cX10_count 2 wsL_law RX10 (some .int) D G ad) (n : Nat)      (st : St) (res : (Int32 × St))  (hf : fX10_count_s64 n    st = some res) : At p l e (rmK 0) s m args below meth c D G ad (MQI D G ad below args s res) 2 st [(0, .ref (ad 0))] 64 [] := by
  obtain ⟨hx, hb, hml, hown, hts, hr, hlk, hK, had, hSt⟩ := id C
  intro H locs ls hl hP hS
  unfold fX10_count_s64 at hf
  refine lv_aload_n hx hb dX10_count_64 rfl (lv_at hl 0 rfl) ?_
  refine g_getR hx hb hts inlX10 hown hK hP 0 ct_0 rfl 0 (by decide) (hts _ wm_1_16) rfl dX10_count_65 ?_
  refine g_getI hx hb hts inlX6 hown hK hP 1 ct_1 rfl 11 (by decide) (hts _ wm_12_10) rfl dX10_count_68 ?_
  exact g_iret hx hb hr hlk hP hS dX10_count_71 hf
def fX10_count_s72 (n : Nat)    (st : St) : Option (Int32 × St) := some (st.1 15 2, st)
set_option maxHeartbeats 4000000 in
set_option maxRecDepth 100000 in
theorem wX10_count_s72 (C : Cx p s m args meth c cX10_count 2 wsL_law RX10 (some .int) D G ad) (n : Nat)      (st : St) (res : (Int32 × St))  (hf : fX10_count_s72 n    st = some res) : At p l e (rmK 0) s m args below meth c D G ad (MQI D G ad below args s res) 2 st [(0, .ref (ad 0))] 72 [] := by
  obtain ⟨hx, hb, hml, hown, hts, hr, hlk, hK, had, hSt⟩ := id C
  intro H locs ls hl hP hS
  unfold fX10_count_s72 at hf
  refine lv_aload_n hx hb dX10_count_72 rfl (lv_at hl 0 rfl) ?_
  refine g_getR hx hb hts inlX10 hown hK hP 0 ct_0 rfl 2 (by decide) (hts _ wm_2_0) rfl dX10_count_73 ?_
  refine g_getI hx hb hts inlX9 hown hK hP 15 ct_15 rfl 2 (by decide) (hts _ wm_25_0) rfl dX10_count_76 ?_
  exact g_iret hx hb hr hlk hP hS dX10_count_79 hf
def fX10_count_s80 (n : Nat)    (st : St) : Option (Int32 × St) := some (st.1 1 10, st)
set_option maxHeartbeats 4000000 in
set_option maxRecDepth 100000 in
theorem wX10_count_s80 (C : Cx p s m args meth c cX10_count 2 wsL_law RX10 (some .int) D G ad) (n : Nat)      (st : St) (res : (Int32 × St))  (hf : fX10_count_s80 n    st = some res) : At p l e (rmK 0) s m args below meth c D G ad (MQI D G ad below args s res) 2 st [(0, .ref (ad 0))] 80 [] := by
  obtain ⟨hx, hb, hml, hown, hts, hr, hlk, hK, had, hSt⟩ := id C
  intro H locs ls hl hP hS
  unfold fX10_count_s80 at hf
  refine lv_aload_n hx hb dX10_count_80 rfl (lv_at hl 0 rfl) ?_
  refine g_getR hx hb hts inlX10 hown hK hP 0 ct_0 rfl 0 (by decide) (hts _ wm_1_16) rfl dX10_count_81 ?_
  refine g_getI hx hb hts inlX6 hown hK hP 1 ct_1 rfl 10 (by decide) (hts _ wm_50_14) rfl dX10_count_84 ?_
  exact g_iret hx hb hr hlk hP hS dX10_count_87 hf
def fX10_count_s88 (n : Nat)    (st : St) : Option (Int32 × St) := some ((-1), st)
set_option maxHeartbeats 4000000 in
set_option maxRecDepth 100000 in
theorem wX10_count_s88 (C : Cx p s m args meth c cX10_count 2 wsL_law RX10 (some .int) D G ad) (n : Nat)      (st : St) (res : (Int32 × St))  (hf : fX10_count_s88 n    st = some res) : At p l e (rmK 0) s m args below meth c D G ad (MQI D G ad below args s res) 2 st [] 88 [] := by
  obtain ⟨hx, hb, hml, hown, hts, hr, hlk, hK, had, hSt⟩ := id C
  intro H locs ls hl hP hS
  unfold fX10_count_s88 at hf
  refine lv_iconst (v := (-1)) hx hb dX10_count_88 (by decide) ?_
  exact g_iret hx hb hr hlk hP hS dX10_count_89 hf
def fX10_count_s0 (n : Nat)   (v1 : Int32) (st : St) : Option (Int32 × St) := if v1 = 0 then fX10_count_s40 n st else if v1 = 1 then fX10_count_s48 n st else if v1 = 2 then fX10_count_s56 n st else if v1 = 3 then fX10_count_s64 n st else if v1 = 4 then fX10_count_s72 n st else if v1 = 5 then fX10_count_s80 n st else fX10_count_s88 n st
set_option maxHeartbeats 4000000 in
set_option maxRecDepth 100000 in
theorem wX10_count_s0 (C : Cx p s m args meth c cX10_count 2 wsL_law RX10 (some .int) D G ad) (n : Nat)   (v1 : Int32)   (st : St) (res : (Int32 × St))  (hf : fX10_count_s0 n   v1 st = some res) : At p l e (rmK 0) s m args below meth c D G ad (MQI D G ad below args s res) 2 st [(0, .ref (ad 0)), (1, .int v1)] 0 [] := by
  obtain ⟨hx, hb, hml, hown, hts, hr, hlk, hK, had, hSt⟩ := id C
  intro H locs ls hl hP hS
  unfold fX10_count_s0 at hf
  refine lv_iload_n hx hb dX10_count_0 rfl (lv_at hl 1 rfl) ?_
  by_cases q : v1 = 0
  · rw [q]
    refine lv_tableIn (tgt := 40) hx hb dX10_count_1 (by decide) (by decide) rfl (by decide) ?_
    exact wX10_count_s40 C n st res (it hf q) H locs ls (lv_sub hl [0] rfl) hP hS
  replace hf := ie hf q
  have q0 := q
  clear q
  by_cases q : v1 = 1
  · rw [q]
    refine lv_tableIn (tgt := 48) hx hb dX10_count_1 (by decide) (by decide) rfl (by decide) ?_
    exact wX10_count_s48 C n st res (it hf q) H locs ls (lv_sub hl [0] rfl) hP hS
  replace hf := ie hf q
  have q1 := q
  clear q
  by_cases q : v1 = 2
  · rw [q]
    refine lv_tableIn (tgt := 56) hx hb dX10_count_1 (by decide) (by decide) rfl (by decide) ?_
    exact wX10_count_s56 C n st res (it hf q) H locs ls (lv_sub hl [0] rfl) hP hS
  replace hf := ie hf q
  have q2 := q
  clear q
  by_cases q : v1 = 3
  · rw [q]
    refine lv_tableIn (tgt := 64) hx hb dX10_count_1 (by decide) (by decide) rfl (by decide) ?_
    exact wX10_count_s64 C n st res (it hf q) H locs ls (lv_sub hl [0] rfl) hP hS
  replace hf := ie hf q
  have q3 := q
  clear q
  by_cases q : v1 = 4
  · rw [q]
    refine lv_tableIn (tgt := 72) hx hb dX10_count_1 (by decide) (by decide) rfl (by decide) ?_
    exact wX10_count_s72 C n st res (it hf q) H locs ls (lv_sub hl [0] rfl) hP hS
  replace hf := ie hf q
  have q4 := q
  clear q
  by_cases q : v1 = 5
  · rw [q]
    refine lv_tableIn (tgt := 80) hx hb dX10_count_1 (by decide) (by decide) rfl (by decide) ?_
    exact wX10_count_s80 C n st res (it hf q) H locs ls (lv_sub hl [0] rfl) hP hS
  replace hf := ie hf q
  have q5 := q
  clear q
  have qo : v1.toInt < 0 ∨ 5 < v1.toInt := by
    refine Classical.byContradiction (fun w => ?_)
    have w : v1.toInt = 0 ∨ v1.toInt = 1 ∨ v1.toInt = 2 ∨ v1.toInt = 3 ∨ v1.toInt = 4 ∨ v1.toInt = 5 := by omega
    rcases w with w | w | w | w | w | w
    · exact q0 (Int32.toInt_inj.mp (w.trans (by decide)))
    · exact q1 (Int32.toInt_inj.mp (w.trans (by decide)))
    · exact q2 (Int32.toInt_inj.mp (w.trans (by decide)))
    · exact q3 (Int32.toInt_inj.mp (w.trans (by decide)))
    · exact q4 (Int32.toInt_inj.mp (w.trans (by decide)))
    · exact q5 (Int32.toInt_inj.mp (w.trans (by decide)))
  refine lv_tableOut (tgt := 88) hx hb dX10_count_1 qo (by decide) ?_
  exact wX10_count_s88 C n st res hf H locs ls (lv_sub hl [] rfl) hP hS
def fX10_count (n : Nat)  (a1 : Int32) (st : St) : Option (Int32 × St) := fX10_count_s0 n a1 st
theorem okX10_count : okY yX10_count RX10 1 := by unfold okY; decide +kernel
end
set_option maxRecDepth 100000 in
theorem kX10_count (l : Launch) (D : va_G) (G : G3) (ad : Nat → Nat) (had : Adr ad) (n : Nat)   (a1 : Int32) (st : St) (res : (Int32 × St)) (hf : fX10_count n  a1 st = some res) {sz : Nat} : CtI l yX10_count (wsU yX10_count cX10_count 2 (some .int)) (rmK 0) D G ad sz [.ref (ad 0), .int a1] st res := by
  refine Met.ofW (cc := cX10_count) (maxL := 2) (ret := (some .int)) (by decide) rfl ?_
  intro p e s m args below meth c s₁ B hml hv
  obtain ⟨rfl, hsz, hP, hK, hSt⟩ := hv
  have hts := atoms_spec (ws := wsU yX10_count cX10_count 2 (some .int)) B.pre
  have C : Cx p s m _ meth c cX10_count 2 wsL_law RX10 (some .int) D G ad := ⟨B.exec, B.bytes, hml, findClass_of_methodNamed B.named, fun w h => hts w (List.mem_cons_of_mem _ h), B.returns, B.notSynchronized, hK, had, hSt⟩
  subst hsz
  have hl := lv_entry ([.ref (ad 0), .int a1]) (n := 2) (Nat.le_of_ble_eq_true rfl)
  rw [lg_entry_eq]
  generalize (lg_sl ([.ref (ad 0), .int a1]) ++ List.replicate (2 - (lg_sl ([.ref (ad 0), .int a1])).length) Slot.unset).toArray = ls at hl ⊢
  exact wX10_count_s0 C n  a1   st res hf s.heap [] ls (lv_sub hl [0, 1] rfl) hP va_S.rf
