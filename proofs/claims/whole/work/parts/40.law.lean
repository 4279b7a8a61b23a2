theorem wm_1_6 : Cond.constantLong RL 71 (4294967295) ∈ wsL_law := in_r1 _ (mm_at 6 rfl)
theorem wm_9_5 : Cond.methodLink RL 13 yX10_stage ∈ wsL_law := in_r9 _ (mm_at 5 rfl)
theorem wm_9_6 : Cond.instanceMethod yX10_stage ∈ wsL_law := in_r9 _ (mm_at 6 rfl)
theorem wm_9_7 : Cond.selects RX10 yX10_stage yX10_stage ∈ wsL_law := in_r9 _ (mm_at 7 rfl)
theorem wm_9_8 : Cond.code yX10_stage cX10_stage 8 (some .int) ∈ wsL_law := in_r9 _ (mm_at 8 rfl)
theorem wm_10_7 : Cond.methodLink RL 17 yX11_stage ∈ wsL_law := in_r10 _ (mm_at 7 rfl)
theorem wm_10_8 : Cond.instanceMethod yX11_stage ∈ wsL_law := in_r10 _ (mm_at 8 rfl)
theorem wm_10_9 : Cond.selects RX11 yX11_stage yX11_stage ∈ wsL_law := in_r10 _ (mm_at 9 rfl)
theorem wm_10_10 : Cond.code yX11_stage cX11_stage 8 (some .int) ∈ wsL_law := in_r10 _ (mm_at 10 rfl)
theorem wm_11_0 : Cond.methodLink RL 18 yX10_set ∈ wsL_law := in_r11 _ (mm_at 0 rfl)
theorem wm_11_1 : Cond.instanceMethod yX10_set ∈ wsL_law := in_r11 _ (mm_at 1 rfl)
theorem wm_11_2 : Cond.selects RX10 yX10_set yX10_set ∈ wsL_law := in_r11 _ (mm_at 2 rfl)
theorem wm_11_3 : Cond.code yX10_set cX10_set 8 (some .int) ∈ wsL_law := in_r11 _ (mm_at 3 rfl)
theorem wm_11_8 : Cond.methodLink RL 22 yX11_set ∈ wsL_law := in_r11 _ (mm_at 8 rfl)
theorem wm_11_9 : Cond.instanceMethod yX11_set ∈ wsL_law := in_r11 _ (mm_at 9 rfl)
theorem wm_11_10 : Cond.selects RX11 yX11_set yX11_set ∈ wsL_law := in_r11 _ (mm_at 10 rfl)
theorem wm_11_11 : Cond.code yX11_set cX11_set 5 (some .int) ∈ wsL_law := in_r11 _ (mm_at 11 rfl)
theorem wm_11_14 : Cond.methodLink RL 23 yX10_use ∈ wsL_law := in_r11 _ (mm_at 14 rfl)
theorem wm_11_15 : Cond.instanceMethod yX10_use ∈ wsL_law := in_r11 _ (mm_at 15 rfl)
theorem wm_11_16 : Cond.selects RX10 yX10_use yX10_use ∈ wsL_law := in_r11 _ (mm_at 16 rfl)
theorem wm_11_17 : Cond.code yX10_use cX10_use 4 (some .int) ∈ wsL_law := in_r11 _ (mm_at 17 rfl)
theorem wm_12_0 : Cond.methodLink RL 27 yX11_use ∈ wsL_law := in_r12 _ (mm_at 0 rfl)
theorem wm_12_1 : Cond.instanceMethod yX11_use ∈ wsL_law := in_r12 _ (mm_at 1 rfl)
theorem wm_12_2 : Cond.selects RX11 yX11_use yX11_use ∈ wsL_law := in_r12 _ (mm_at 2 rfl)
theorem wm_12_3 : Cond.code yX11_use cX11_use 4 (some .int) ∈ wsL_law := in_r12 _ (mm_at 3 rfl)
theorem wm_12_6 : Cond.methodLink RL 28 yX10_allot ∈ wsL_law := in_r12 _ (mm_at 6 rfl)
theorem wm_12_7 : Cond.instanceMethod yX10_allot ∈ wsL_law := in_r12 _ (mm_at 7 rfl)
theorem wm_12_8 : Cond.selects RX10 yX10_allot yX10_allot ∈ wsL_law := in_r12 _ (mm_at 8 rfl)
theorem wm_12_9 : Cond.code yX10_allot cX10_allot 3 (some .int) ∈ wsL_law := in_r12 _ (mm_at 9 rfl)
theorem wm_12_11 : Cond.methodLink RL 32 yX11_allot ∈ wsL_law := in_r12 _ (mm_at 11 rfl)
theorem wm_12_12 : Cond.instanceMethod yX11_allot ∈ wsL_law := in_r12 _ (mm_at 12 rfl)
theorem wm_12_13 : Cond.selects RX11 yX11_allot yX11_allot ∈ wsL_law := in_r12 _ (mm_at 13 rfl)
theorem wm_12_14 : Cond.code yX11_allot cX11_allot 3 (some .int) ∈ wsL_law := in_r12 _ (mm_at 14 rfl)
theorem wm_12_17 : Cond.methodLink RL 33 yX10_about ∈ wsL_law := in_r12 _ (mm_at 17 rfl)
theorem wm_12_18 : Cond.instanceMethod yX10_about ∈ wsL_law := in_r12 _ (mm_at 18 rfl)
theorem wm_12_19 : Cond.selects RX10 yX10_about yX10_about ∈ wsL_law := in_r12 _ (mm_at 19 rfl)
theorem wm_12_20 : Cond.code yX10_about cX10_about 3 (some .int) ∈ wsL_law := in_r12 _ (mm_at 20 rfl)
theorem wm_13_13 : Cond.methodLink RL 36 yX11_about ∈ wsL_law := in_r13 _ (mm_at 13 rfl)
theorem wm_13_14 : Cond.instanceMethod yX11_about ∈ wsL_law := in_r13 _ (mm_at 14 rfl)
theorem wm_13_15 : Cond.selects RX11 yX11_about yX11_about ∈ wsL_law := in_r13 _ (mm_at 15 rfl)
theorem wm_13_16 : Cond.code yX11_about cX11_about 3 (some .int) ∈ wsL_law := in_r13 _ (mm_at 16 rfl)
theorem wm_14_2 : Cond.methodLink RL 37 yX10_place ∈ wsL_law := in_r14 _ (mm_at 2 rfl)
theorem wm_14_3 : Cond.instanceMethod yX10_place ∈ wsL_law := in_r14 _ (mm_at 3 rfl)
theorem wm_14_4 : Cond.selects RX10 yX10_place yX10_place ∈ wsL_law := in_r14 _ (mm_at 4 rfl)
theorem wm_14_5 : Cond.code yX10_place cX10_place 2 (some .long) ∈ wsL_law := in_r14 _ (mm_at 5 rfl)
theorem wm_14_11 : Cond.methodLink RL 41 yX11_place ∈ wsL_law := in_r14 _ (mm_at 11 rfl)
theorem wm_14_12 : Cond.instanceMethod yX11_place ∈ wsL_law := in_r14 _ (mm_at 12 rfl)
theorem wm_14_13 : Cond.selects RX11 yX11_place yX11_place ∈ wsL_law := in_r14 _ (mm_at 13 rfl)
theorem wm_14_14 : Cond.code yX11_place cX11_place 2 (some .long) ∈ wsL_law := in_r14 _ (mm_at 14 rfl)
theorem wm_14_20 : Cond.methodLink RL 42 yX10_slot ∈ wsL_law := in_r14 _ (mm_at 20 rfl)
theorem wm_14_21 : Cond.instanceMethod yX10_slot ∈ wsL_law := in_r14 _ (mm_at 21 rfl)
theorem wm_14_22 : Cond.selects RX10 yX10_slot yX10_slot ∈ wsL_law := in_r14 _ (mm_at 22 rfl)
theorem wm_14_23 : Cond.code yX10_slot cX10_slot 3 (some .int) ∈ wsL_law := in_r14 _ (mm_at 23 rfl)
theorem wm_15_1 : Cond.methodLink RL 45 yX11_slot ∈ wsL_law := in_r15 _ (mm_at 1 rfl)
theorem wm_15_2 : Cond.instanceMethod yX11_slot ∈ wsL_law := in_r15 _ (mm_at 2 rfl)
theorem wm_15_3 : Cond.selects RX11 yX11_slot yX11_slot ∈ wsL_law := in_r15 _ (mm_at 3 rfl)
theorem wm_15_4 : Cond.code yX11_slot cX11_slot 3 (some .int) ∈ wsL_law := in_r15 _ (mm_at 4 rfl)
theorem wm_15_5 : Cond.methodLink RL 46 yX10_owed ∈ wsL_law := in_r15 _ (mm_at 5 rfl)
theorem wm_15_6 : Cond.instanceMethod yX10_owed ∈ wsL_law := in_r15 _ (mm_at 6 rfl)
theorem wm_15_7 : Cond.selects RX10 yX10_owed yX10_owed ∈ wsL_law := in_r15 _ (mm_at 7 rfl)
theorem wm_15_8 : Cond.code yX10_owed cX10_owed 3 (some .int) ∈ wsL_law := in_r15 _ (mm_at 8 rfl)
theorem wm_15_10 : Cond.methodLink RL 49 yX11_owed ∈ wsL_law := in_r15 _ (mm_at 10 rfl)
theorem wm_15_11 : Cond.instanceMethod yX11_owed ∈ wsL_law := in_r15 _ (mm_at 11 rfl)
theorem wm_15_12 : Cond.selects RX11 yX11_owed yX11_owed ∈ wsL_law := in_r15 _ (mm_at 12 rfl)
theorem wm_15_13 : Cond.code yX11_owed cX11_owed 4 (some .int) ∈ wsL_law := in_r15 _ (mm_at 13 rfl)
theorem wm_15_14 : Cond.methodLink RL 50 yX10_cost ∈ wsL_law := in_r15 _ (mm_at 14 rfl)
theorem wm_15_15 : Cond.instanceMethod yX10_cost ∈ wsL_law := in_r15 _ (mm_at 15 rfl)
theorem wm_15_16 : Cond.selects RX10 yX10_cost yX10_cost ∈ wsL_law := in_r15 _ (mm_at 16 rfl)
theorem wm_15_17 : Cond.code yX10_cost cX10_cost 2 (some .long) ∈ wsL_law := in_r15 _ (mm_at 17 rfl)
theorem wm_15_19 : Cond.methodLink RL 53 yX11_cost ∈ wsL_law := in_r15 _ (mm_at 19 rfl)
theorem wm_15_20 : Cond.instanceMethod yX11_cost ∈ wsL_law := in_r15 _ (mm_at 20 rfl)
theorem wm_15_21 : Cond.selects RX11 yX11_cost yX11_cost ∈ wsL_law := in_r15 _ (mm_at 21 rfl)
theorem wm_15_22 : Cond.code yX11_cost cX11_cost 2 (some .long) ∈ wsL_law := in_r15 _ (mm_at 22 rfl)
theorem wm_15_23 : Cond.methodLink RL 54 yX10_kept ∈ wsL_law := in_r15 _ (mm_at 23 rfl)
theorem wm_16_0 : Cond.instanceMethod yX10_kept ∈ wsL_law := in_r16 _ (mm_at 0 rfl)
theorem wm_16_1 : Cond.selects RX10 yX10_kept yX10_kept ∈ wsL_law := in_r16 _ (mm_at 1 rfl)
theorem wm_16_2 : Cond.code yX10_kept cX10_kept 2 (some .long) ∈ wsL_law := in_r16 _ (mm_at 2 rfl)
theorem wm_16_10 : Cond.methodLink RL 57 yX11_kept ∈ wsL_law := in_r16 _ (mm_at 10 rfl)
theorem wm_16_11 : Cond.instanceMethod yX11_kept ∈ wsL_law := in_r16 _ (mm_at 11 rfl)
theorem wm_16_12 : Cond.selects RX11 yX11_kept yX11_kept ∈ wsL_law := in_r16 _ (mm_at 12 rfl)
theorem wm_16_13 : Cond.code yX11_kept cX11_kept 5 (some .long) ∈ wsL_law := in_r16 _ (mm_at 13 rfl)
theorem wm_16_16 : Cond.methodLink RL 58 yX10_demand ∈ wsL_law := in_r16 _ (mm_at 16 rfl)
theorem wm_16_17 : Cond.instanceMethod yX10_demand ∈ wsL_law := in_r16 _ (mm_at 17 rfl)
theorem wm_16_18 : Cond.selects RX10 yX10_demand yX10_demand ∈ wsL_law := in_r16 _ (mm_at 18 rfl)
theorem wm_16_19 : Cond.code yX10_demand cX10_demand 4 (some .int) ∈ wsL_law := in_r16 _ (mm_at 19 rfl)
theorem wm_16_20 : Cond.methodLink RL 61 yX11_demand ∈ wsL_law := in_r16 _ (mm_at 20 rfl)
theorem wm_16_21 : Cond.instanceMethod yX11_demand ∈ wsL_law := in_r16 _ (mm_at 21 rfl)
theorem wm_16_22 : Cond.selects RX11 yX11_demand yX11_demand ∈ wsL_law := in_r16 _ (mm_at 22 rfl)
theorem wm_16_23 : Cond.code yX11_demand cX11_demand 4 (some .int) ∈ wsL_law := in_r16 _ (mm_at 23 rfl)
theorem wm_17_5 : Cond.methodLink RL 62 yX10_week ∈ wsL_law := in_r17 _ (mm_at 5 rfl)
theorem wm_17_6 : Cond.instanceMethod yX10_week ∈ wsL_law := in_r17 _ (mm_at 6 rfl)
theorem wm_17_7 : Cond.selects RX10 yX10_week yX10_week ∈ wsL_law := in_r17 _ (mm_at 7 rfl)
theorem wm_17_8 : Cond.code yX10_week cX10_week 1 (some .int) ∈ wsL_law := in_r17 _ (mm_at 8 rfl)
theorem wm_22_15 : Cond.methodLink RL 66 yX11_week ∈ wsL_law := in_r22 _ (mm_at 15 rfl)
theorem wm_22_16 : Cond.instanceMethod yX11_week ∈ wsL_law := in_r22 _ (mm_at 16 rfl)
theorem wm_22_17 : Cond.selects RX11 yX11_week yX11_week ∈ wsL_law := in_r22 _ (mm_at 17 rfl)
theorem wm_22_18 : Cond.code yX11_week cX11_week 1 (some .int) ∈ wsL_law := in_r22 _ (mm_at 18 rfl)
theorem wm_24_7 : Cond.methodLink RL 67 yX10_weeks ∈ wsL_law := in_r24 _ (mm_at 7 rfl)
theorem wm_24_8 : Cond.instanceMethod yX10_weeks ∈ wsL_law := in_r24 _ (mm_at 8 rfl)
theorem wm_24_9 : Cond.selects RX10 yX10_weeks yX10_weeks ∈ wsL_law := in_r24 _ (mm_at 9 rfl)
theorem wm_24_10 : Cond.code yX10_weeks cX10_weeks 6 (some .int) ∈ wsL_law := in_r24 _ (mm_at 10 rfl)
theorem wm_24_11 : Cond.methodLink RL 70 yX11_weeks ∈ wsL_law := in_r24 _ (mm_at 11 rfl)
theorem wm_24_12 : Cond.instanceMethod yX11_weeks ∈ wsL_law := in_r24 _ (mm_at 12 rfl)
theorem wm_24_13 : Cond.selects RX11 yX11_weeks yX11_weeks ∈ wsL_law := in_r24 _ (mm_at 13 rfl)
theorem wm_24_14 : Cond.code yX11_weeks cX11_weeks 5 (some .int) ∈ wsL_law := in_r24 _ (mm_at 14 rfl)
theorem wm_24_20 : Cond.methodLink RL 73 yX10_feed ∈ wsL_law := in_r24 _ (mm_at 20 rfl)
theorem wm_24_21 : Cond.instanceMethod yX10_feed ∈ wsL_law := in_r24 _ (mm_at 21 rfl)
theorem wm_24_22 : Cond.selects RX10 yX10_feed yX10_feed ∈ wsL_law := in_r24 _ (mm_at 22 rfl)
theorem wm_24_23 : Cond.code yX10_feed cX10_feed 5 (some .int) ∈ wsL_law := in_r24 _ (mm_at 23 rfl)
theorem wm_25_6 : Cond.methodLink RL 77 yX11_feed ∈ wsL_law := in_r25 _ (mm_at 6 rfl)
theorem wm_25_7 : Cond.instanceMethod yX11_feed ∈ wsL_law := in_r25 _ (mm_at 7 rfl)
theorem wm_25_8 : Cond.selects RX11 yX11_feed yX11_feed ∈ wsL_law := in_r25 _ (mm_at 8 rfl)
theorem wm_25_9 : Cond.code yX11_feed cX11_feed 5 (some .int) ∈ wsL_law := in_r25 _ (mm_at 9 rfl)
theorem wm_25_13 : Cond.methodLink RL 78 yX10_rule ∈ wsL_law := in_r25 _ (mm_at 13 rfl)
theorem wm_25_14 : Cond.instanceMethod yX10_rule ∈ wsL_law := in_r25 _ (mm_at 14 rfl)
theorem wm_25_15 : Cond.selects RX10 yX10_rule yX10_rule ∈ wsL_law := in_r25 _ (mm_at 15 rfl)
theorem wm_25_16 : Cond.code yX10_rule cX10_rule 2 (some .int) ∈ wsL_law := in_r25 _ (mm_at 16 rfl)
theorem wm_30_2 : Cond.methodLink RL 81 yX11_rule ∈ wsL_law := in_r30 _ (mm_at 2 rfl)
theorem wm_30_3 : Cond.instanceMethod yX11_rule ∈ wsL_law := in_r30 _ (mm_at 3 rfl)
theorem wm_30_4 : Cond.selects RX11 yX11_rule yX11_rule ∈ wsL_law := in_r30 _ (mm_at 4 rfl)
theorem wm_30_5 : Cond.code yX11_rule cX11_rule 2 (some .int) ∈ wsL_law := in_r30 _ (mm_at 5 rfl)
theorem wm_31_23 : Cond.methodLink RL 82 yX10_worth ∈ wsL_law := in_r31 _ (mm_at 23 rfl)
theorem wm_32_0 : Cond.instanceMethod yX10_worth ∈ wsL_law := in_r32 _ (mm_at 0 rfl)
theorem wm_32_1 : Cond.selects RX10 yX10_worth yX10_worth ∈ wsL_law := in_r32 _ (mm_at 1 rfl)
theorem wm_32_2 : Cond.code yX10_worth cX10_worth 3 (some .long) ∈ wsL_law := in_r32 _ (mm_at 2 rfl)
theorem wm_32_4 : Cond.methodLink RL 86 yX11_worth ∈ wsL_law := in_r32 _ (mm_at 4 rfl)
theorem wm_32_5 : Cond.instanceMethod yX11_worth ∈ wsL_law := in_r32 _ (mm_at 5 rfl)
theorem wm_32_6 : Cond.selects RX11 yX11_worth yX11_worth ∈ wsL_law := in_r32 _ (mm_at 6 rfl)
theorem wm_32_7 : Cond.code yX11_worth cX11_worth 3 (some .long) ∈ wsL_law := in_r32 _ (mm_at 7 rfl)
theorem wm_32_8 : Cond.methodLink RL 87 yX10_swing ∈ wsL_law := in_r32 _ (mm_at 8 rfl)
theorem wm_32_9 : Cond.instanceMethod yX10_swing ∈ wsL_law := in_r32 _ (mm_at 9 rfl)
theorem wm_32_10 : Cond.selects RX10 yX10_swing yX10_swing ∈ wsL_law := in_r32 _ (mm_at 10 rfl)
theorem wm_32_11 : Cond.code yX10_swing cX10_swing 4 (some .long) ∈ wsL_law := in_r32 _ (mm_at 11 rfl)
theorem wm_32_20 : Cond.methodLink RL 91 yX11_swing ∈ wsL_law := in_r32 _ (mm_at 20 rfl)
theorem wm_33_1 : Cond.methodLink RL 92 yX10_gain ∈ wsL_law := in_r33 _ (mm_at 1 rfl)
theorem wm_33_2 : Cond.instanceMethod yX10_gain ∈ wsL_law := in_r33 _ (mm_at 2 rfl)
theorem wm_33_3 : Cond.selects RX10 yX10_gain yX10_gain ∈ wsL_law := in_r33 _ (mm_at 3 rfl)
theorem wm_33_4 : Cond.code yX10_gain cX10_gain 6 (some .long) ∈ wsL_law := in_r33 _ (mm_at 4 rfl)
theorem wm_34_3 : Cond.methodLink RL 95 yX11_gain ∈ wsL_law := in_r34 _ (mm_at 3 rfl)
theorem wm_34_4 : Cond.instanceMethod yX11_gain ∈ wsL_law := in_r34 _ (mm_at 4 rfl)
theorem wm_34_5 : Cond.selects RX11 yX11_gain yX11_gain ∈ wsL_law := in_r34 _ (mm_at 5 rfl)
theorem wm_34_6 : Cond.code yX11_gain cX11_gain 10 (some .long) ∈ wsL_law := in_r34 _ (mm_at 6 rfl)
theorem wm_34_12 : Cond.methodLink RL 96 yX10_straight ∈ wsL_law := in_r34 _ (mm_at 12 rfl)
theorem wm_34_13 : Cond.instanceMethod yX10_straight ∈ wsL_law := in_r34 _ (mm_at 13 rfl)
theorem wm_34_14 : Cond.selects RX10 yX10_straight yX10_straight ∈ wsL_law := in_r34 _ (mm_at 14 rfl)
theorem wm_34_15 : Cond.code yX10_straight cX10_straight 4 (some .int) ∈ wsL_law := in_r34 _ (mm_at 15 rfl)
theorem wm_34_22 : Cond.methodLink RL 99 yX11_straight ∈ wsL_law := in_r34 _ (mm_at 22 rfl)
theorem wm_34_23 : Cond.instanceMethod yX11_straight ∈ wsL_law := in_r34 _ (mm_at 23 rfl)
theorem wm_35_0 : Cond.selects RX11 yX11_straight yX11_straight ∈ wsL_law := in_r35 _ (mm_at 0 rfl)
theorem wm_35_1 : Cond.code yX11_straight cX11_straight 6 (some .int) ∈ wsL_law := in_r35 _ (mm_at 1 rfl)
theorem wm_35_5 : Cond.methodLink RL 100 yX10_echo ∈ wsL_law := in_r35 _ (mm_at 5 rfl)
theorem wm_35_6 : Cond.instanceMethod yX10_echo ∈ wsL_law := in_r35 _ (mm_at 6 rfl)
theorem wm_35_7 : Cond.selects RX10 yX10_echo yX10_echo ∈ wsL_law := in_r35 _ (mm_at 7 rfl)
theorem wm_35_8 : Cond.code yX10_echo cX10_echo 4 (some .long) ∈ wsL_law := in_r35 _ (mm_at 8 rfl)
theorem wm_36_9 : Cond.methodLink RL 103 yX11_echo ∈ wsL_law := in_r36 _ (mm_at 9 rfl)
theorem wm_36_10 : Cond.instanceMethod yX11_echo ∈ wsL_law := in_r36 _ (mm_at 10 rfl)
theorem wm_36_11 : Cond.selects RX11 yX11_echo yX11_echo ∈ wsL_law := in_r36 _ (mm_at 11 rfl)
theorem wm_36_12 : Cond.code yX11_echo cX11_echo 3 (some .long) ∈ wsL_law := in_r36 _ (mm_at 12 rfl)
theorem wm_37_13 : Cond.methodLink RL 104 yX10_pole ∈ wsL_law := in_r37 _ (mm_at 13 rfl)
theorem wm_37_14 : Cond.instanceMethod yX10_pole ∈ wsL_law := in_r37 _ (mm_at 14 rfl)
theorem wm_37_15 : Cond.selects RX10 yX10_pole yX10_pole ∈ wsL_law := in_r37 _ (mm_at 15 rfl)
theorem wm_37_16 : Cond.code yX10_pole cX10_pole 4 (some .long) ∈ wsL_law := in_r37 _ (mm_at 16 rfl)
theorem wm_38_6 : Cond.methodLink RL 107 yX11_pole ∈ wsL_law := in_r38 _ (mm_at 6 rfl)
theorem wm_38_7 : Cond.instanceMethod yX11_pole ∈ wsL_law := in_r38 _ (mm_at 7 rfl)
theorem wm_38_8 : Cond.selects RX11 yX11_pole yX11_pole ∈ wsL_law := in_r38 _ (mm_at 8 rfl)
theorem wm_38_9 : Cond.code yX11_pole cX11_pole 9 (some .long) ∈ wsL_law := in_r38 _ (mm_at 9 rfl)
theorem wm_38_14 : Cond.methodLink RL 108 yX10_loud ∈ wsL_law := in_r38 _ (mm_at 14 rfl)
theorem wm_38_15 : Cond.instanceMethod yX10_loud ∈ wsL_law := in_r38 _ (mm_at 15 rfl)
theorem wm_38_16 : Cond.selects RX10 yX10_loud yX10_loud ∈ wsL_law := in_r38 _ (mm_at 16 rfl)
theorem wm_38_17 : Cond.code yX10_loud cX10_loud 3 (some .long) ∈ wsL_law := in_r38 _ (mm_at 17 rfl)
theorem wm_38_22 : Cond.methodLink RL 111 yX11_loud ∈ wsL_law := in_r38 _ (mm_at 22 rfl)
theorem wm_38_23 : Cond.instanceMethod yX11_loud ∈ wsL_law := in_r38 _ (mm_at 23 rfl)
theorem wm_39_0 : Cond.selects RX11 yX11_loud yX11_loud ∈ wsL_law := in_r39 _ (mm_at 0 rfl)
theorem wm_39_1 : Cond.code yX11_loud cX11_loud 8 (some .long) ∈ wsL_law := in_r39 _ (mm_at 1 rfl)
theorem wm_39_2 : Cond.methodLink RL 112 yX10_steady ∈ wsL_law := in_r39 _ (mm_at 2 rfl)
theorem wm_39_3 : Cond.instanceMethod yX10_steady ∈ wsL_law := in_r39 _ (mm_at 3 rfl)
theorem wm_39_4 : Cond.selects RX10 yX10_steady yX10_steady ∈ wsL_law := in_r39 _ (mm_at 4 rfl)
theorem wm_39_5 : Cond.code yX10_steady cX10_steady 6 (some .int) ∈ wsL_law := in_r39 _ (mm_at 5 rfl)
theorem wm_39_14 : Cond.methodLink RL 115 yX11_steady ∈ wsL_law := in_r39 _ (mm_at 14 rfl)
theorem wm_39_15 : Cond.instanceMethod yX11_steady ∈ wsL_law := in_r39 _ (mm_at 15 rfl)
theorem wm_39_16 : Cond.selects RX11 yX11_steady yX11_steady ∈ wsL_law := in_r39 _ (mm_at 16 rfl)
theorem wm_39_17 : Cond.code yX11_steady cX11_steady 6 (some .int) ∈ wsL_law := in_r39 _ (mm_at 17 rfl)
theorem wm_40_0 : Cond.methodLink RL 116 yX10_chances ∈ wsL_law := in_r40 _ (mm_at 0 rfl)
theorem wm_40_1 : Cond.instanceMethod yX10_chances ∈ wsL_law := in_r40 _ (mm_at 1 rfl)
theorem wm_40_2 : Cond.selects RX10 yX10_chances yX10_chances ∈ wsL_law := in_r40 _ (mm_at 2 rfl)
theorem wm_40_3 : Cond.code yX10_chances cX10_chances 4 (some .int) ∈ wsL_law := in_r40 _ (mm_at 3 rfl)
theorem wm_40_6 : Cond.methodLink RL 119 yX11_chances ∈ wsL_law := in_r40 _ (mm_at 6 rfl)
theorem wm_40_7 : Cond.instanceMethod yX11_chances ∈ wsL_law := in_r40 _ (mm_at 7 rfl)
theorem wm_40_8 : Cond.selects RX11 yX11_chances yX11_chances ∈ wsL_law := in_r40 _ (mm_at 8 rfl)
theorem wm_40_9 : Cond.code yX11_chances cX11_chances 4 (some .int) ∈ wsL_law := in_r40 _ (mm_at 9 rfl)
theorem wm_40_11 : Cond.methodLink RL 120 yX10_chance ∈ wsL_law := in_r40 _ (mm_at 11 rfl)
theorem wm_40_12 : Cond.instanceMethod yX10_chance ∈ wsL_law := in_r40 _ (mm_at 12 rfl)
theorem wm_40_13 : Cond.selects RX10 yX10_chance yX10_chance ∈ wsL_law := in_r40 _ (mm_at 13 rfl)
theorem wm_40_14 : Cond.code yX10_chance cX10_chance 3 (some .long) ∈ wsL_law := in_r40 _ (mm_at 14 rfl)
theorem wm_40_20 : Cond.methodLink RL 123 yX11_chance ∈ wsL_law := in_r40 _ (mm_at 20 rfl)
theorem wm_40_21 : Cond.instanceMethod yX11_chance ∈ wsL_law := in_r40 _ (mm_at 21 rfl)
theorem wm_40_22 : Cond.selects RX11 yX11_chance yX11_chance ∈ wsL_law := in_r40 _ (mm_at 22 rfl)
theorem wm_40_23 : Cond.code yX11_chance cX11_chance 3 (some .long) ∈ wsL_law := in_r40 _ (mm_at 23 rfl)
theorem wm_41_4 : Cond.methodLink RL 124 yX10_level ∈ wsL_law := in_r41 _ (mm_at 4 rfl)
theorem wm_41_5 : Cond.instanceMethod yX10_level ∈ wsL_law := in_r41 _ (mm_at 5 rfl)
theorem wm_41_6 : Cond.selects RX10 yX10_level yX10_level ∈ wsL_law := in_r41 _ (mm_at 6 rfl)
theorem wm_41_7 : Cond.code yX10_level cX10_level 4 (some .int) ∈ wsL_law := in_r41 _ (mm_at 7 rfl)
theorem wm_42_18 : Cond.methodLink RL 127 yX11_level ∈ wsL_law := in_r42 _ (mm_at 18 rfl)
theorem wm_42_19 : Cond.instanceMethod yX11_level ∈ wsL_law := in_r42 _ (mm_at 19 rfl)
theorem wm_42_20 : Cond.selects RX11 yX11_level yX11_level ∈ wsL_law := in_r42 _ (mm_at 20 rfl)
theorem wm_42_21 : Cond.code yX11_level cX11_level 11 (some .int) ∈ wsL_law := in_r42 _ (mm_at 21 rfl)
theorem wm_44_1 : Cond.methodLink RL 128 yX10_levelCost ∈ wsL_law := in_r44 _ (mm_at 1 rfl)
theorem wm_44_2 : Cond.instanceMethod yX10_levelCost ∈ wsL_law := in_r44 _ (mm_at 2 rfl)
theorem wm_44_3 : Cond.selects RX10 yX10_levelCost yX10_levelCost ∈ wsL_law := in_r44 _ (mm_at 3 rfl)
theorem wm_44_4 : Cond.code yX10_levelCost cX10_levelCost 5 (some .long) ∈ wsL_law := in_r44 _ (mm_at 4 rfl)
theorem wm_44_7 : Cond.methodLink RL 132 yX11_levelCost ∈ wsL_law := in_r44 _ (mm_at 7 rfl)
theorem wm_44_8 : Cond.instanceMethod yX11_levelCost ∈ wsL_law := in_r44 _ (mm_at 8 rfl)
theorem wm_44_9 : Cond.selects RX11 yX11_levelCost yX11_levelCost ∈ wsL_law := in_r44 _ (mm_at 9 rfl)
theorem wm_44_10 : Cond.code yX11_levelCost cX11_levelCost 5 (some .long) ∈ wsL_law := in_r44 _ (mm_at 10 rfl)
theorem wm_44_11 : Cond.methodLink RL 133 yX10_worst ∈ wsL_law := in_r44 _ (mm_at 11 rfl)
theorem wm_44_12 : Cond.instanceMethod yX10_worst ∈ wsL_law := in_r44 _ (mm_at 12 rfl)
theorem wm_44_13 : Cond.selects RX10 yX10_worst yX10_worst ∈ wsL_law := in_r44 _ (mm_at 13 rfl)
theorem wm_44_14 : Cond.code yX10_worst cX10_worst 12 (some .long) ∈ wsL_law := in_r44 _ (mm_at 14 rfl)
theorem wm_45_22 : Cond.methodLink RL 137 yX11_worst ∈ wsL_law := in_r45 _ (mm_at 22 rfl)
theorem wm_45_23 : Cond.instanceMethod yX11_worst ∈ wsL_law := in_r45 _ (mm_at 23 rfl)
theorem wm_46_0 : Cond.selects RX11 yX11_worst yX11_worst ∈ wsL_law := in_r46 _ (mm_at 0 rfl)
theorem wm_46_1 : Cond.code yX11_worst cX11_worst 12 (some .long) ∈ wsL_law := in_r46 _ (mm_at 1 rfl)
theorem wm_46_17 : Cond.methodLink RL 138 yX10_worstAt ∈ wsL_law := in_r46 _ (mm_at 17 rfl)
theorem wm_46_18 : Cond.instanceMethod yX10_worstAt ∈ wsL_law := in_r46 _ (mm_at 18 rfl)
theorem wm_46_19 : Cond.selects RX10 yX10_worstAt yX10_worstAt ∈ wsL_law := in_r46 _ (mm_at 19 rfl)
theorem wm_46_20 : Cond.code yX10_worstAt cX10_worstAt 2 (some .int) ∈ wsL_law := in_r46 _ (mm_at 20 rfl)
theorem wm_46_21 : Cond.methodLink RL 141 yX11_worstAt ∈ wsL_law := in_r46 _ (mm_at 21 rfl)
theorem wm_46_22 : Cond.instanceMethod yX11_worstAt ∈ wsL_law := in_r46 _ (mm_at 22 rfl)
theorem wm_46_23 : Cond.selects RX11 yX11_worstAt yX11_worstAt ∈ wsL_law := in_r46 _ (mm_at 23 rfl)
theorem wm_47_0 : Cond.code yX11_worstAt cX11_worstAt 2 (some .int) ∈ wsL_law := in_r47 _ (mm_at 0 rfl)
theorem wm_47_1 : Cond.methodLink RL 142 yX10_gets ∈ wsL_law := in_r47 _ (mm_at 1 rfl)
theorem wm_47_2 : Cond.instanceMethod yX10_gets ∈ wsL_law := in_r47 _ (mm_at 2 rfl)
theorem wm_47_3 : Cond.selects RX10 yX10_gets yX10_gets ∈ wsL_law := in_r47 _ (mm_at 3 rfl)
theorem wm_47_4 : Cond.code yX10_gets cX10_gets 7 (some .int) ∈ wsL_law := in_r47 _ (mm_at 4 rfl)
theorem wm_47_20 : Cond.methodLink RL 146 yX11_gets ∈ wsL_law := in_r47 _ (mm_at 20 rfl)
theorem wm_47_21 : Cond.instanceMethod yX11_gets ∈ wsL_law := in_r47 _ (mm_at 21 rfl)
theorem wm_47_22 : Cond.selects RX11 yX11_gets yX11_gets ∈ wsL_law := in_r47 _ (mm_at 22 rfl)
theorem wm_47_23 : Cond.code yX11_gets cX11_gets 7 (some .int) ∈ wsL_law := in_r47 _ (mm_at 23 rfl)
theorem wm_48_11 : Cond.methodLink RL 147 yX10_calm ∈ wsL_law := in_r48 _ (mm_at 11 rfl)
theorem wm_48_12 : Cond.instanceMethod yX10_calm ∈ wsL_law := in_r48 _ (mm_at 12 rfl)
theorem wm_48_13 : Cond.selects RX10 yX10_calm yX10_calm ∈ wsL_law := in_r48 _ (mm_at 13 rfl)
theorem wm_48_14 : Cond.code yX10_calm cX10_calm 8 (some .int) ∈ wsL_law := in_r48 _ (mm_at 14 rfl)
theorem wm_49_8 : Cond.methodLink RL 151 yX11_calm ∈ wsL_law := in_r49 _ (mm_at 8 rfl)
theorem wm_49_9 : Cond.instanceMethod yX11_calm ∈ wsL_law := in_r49 _ (mm_at 9 rfl)
theorem wm_49_10 : Cond.selects RX11 yX11_calm yX11_calm ∈ wsL_law := in_r49 _ (mm_at 10 rfl)
theorem wm_49_11 : Cond.code yX11_calm cX11_calm 8 (some .int) ∈ wsL_law := in_r49 _ (mm_at 11 rfl)
theorem wm_49_16 : Cond.methodLink RL 152 yX10_calmest ∈ wsL_law := in_r49 _ (mm_at 16 rfl)
theorem wm_49_17 : Cond.instanceMethod yX10_calmest ∈ wsL_law := in_r49 _ (mm_at 17 rfl)
theorem wm_49_18 : Cond.selects RX10 yX10_calmest yX10_calmest ∈ wsL_law := in_r49 _ (mm_at 18 rfl)
theorem wm_49_19 : Cond.code yX10_calmest cX10_calmest 6 (some .long) ∈ wsL_law := in_r49 _ (mm_at 19 rfl)
theorem wm_50_6 : Cond.methodLink RL 156 yX11_calmest ∈ wsL_law := in_r50 _ (mm_at 6 rfl)
theorem wm_50_7 : Cond.instanceMethod yX11_calmest ∈ wsL_law := in_r50 _ (mm_at 7 rfl)
theorem wm_50_8 : Cond.selects RX11 yX11_calmest yX11_calmest ∈ wsL_law := in_r50 _ (mm_at 8 rfl)
theorem wm_50_9 : Cond.code yX11_calmest cX11_calmest 12 (some .long) ∈ wsL_law := in_r50 _ (mm_at 9 rfl)
theorem wm_50_10 : Cond.methodLink RL 157 yX10_count ∈ wsL_law := in_r50 _ (mm_at 10 rfl)
theorem wm_50_11 : Cond.instanceMethod yX10_count ∈ wsL_law := in_r50 _ (mm_at 11 rfl)
theorem wm_50_12 : Cond.selects RX10 yX10_count yX10_count ∈ wsL_law := in_r50 _ (mm_at 12 rfl)
theorem wm_50_13 : Cond.code yX10_count cX10_count 2 (some .int) ∈ wsL_law := in_r50 _ (mm_at 13 rfl)
theorem wm_50_15 : Cond.methodLink RL 160 yX11_count ∈ wsL_law := in_r50 _ (mm_at 15 rfl)
theorem wm_50_16 : Cond.instanceMethod yX11_count ∈ wsL_law := in_r50 _ (mm_at 16 rfl)
theorem wm_50_17 : Cond.selects RX11 yX11_count yX11_count ∈ wsL_law := in_r50 _ (mm_at 17 rfl)
theorem wm_50_18 : Cond.code yX11_count cX11_count 4 (some .int) ∈ wsL_law := in_r50 _ (mm_at 18 rfl)
/-! ===== the law's loop, over one pure step of both systems a call ===== -/
def LCx (p : Program) (s : State) (m : MethodId) (c : Code) (b Ln : Nat) (xs : Nat → Int32) (D : va_G) (G : G3) (ad : Nat → Nat) : Prop := p.tables.exec = Jvm.exec ∧ c.code = code ∧ c.maxLocals = 4 ∧ s.vm.findClass RL = some m.cls ∧ (∀ w ∈ wsL_law, w.before #[Value.ref b] s = true) ∧ KK D G s ∧ Adr ad ∧ Str ad s ∧ va_X b Ln xs s s.heap ∧ b < s.heap.size ∧ ¬ AA ad s.heap.size b
abbrev LAt (p : Program) (l : Launch) (e : Env) (s : State) (m : MethodId) (below : List Frame) (meth : Method) (c : Code) (D : va_G) (G : G3) (ad : Nat → Nat) (b : Nat) (cells slots : Nat) (Q : State → Prop) (st : St) (lv : List (Nat × Value)) (pc : Nat) (stk : List Value) : Prop :=
  ∀ (H : Heap) (locs : List Loc) (ls : Array Slot), lv_has ls 4 lv → va_P D vwCl (SW G ad st) H → va_S (AA ad s.heap.size) s.heap H locs → W p l e room_1 s m #[Value.ref b] below meth c H locs cells slots Q (F0 m pc ls stk)
theorem rmL_ok {k maxL : Nat} (h : k ≤ 60) (hL : maxL ≤ 31) : (rmK k).frames + 1 ≤ room_1.frames ∧ 8 + (maxL + 11) + (rmK k).locals ≤ room_1.locals := by
  show k + 1 ≤ 2048 ∧ 8 + (maxL + 11) + 50 * k ≤ 84000
  omega
section
variable {p : Program} {l : Launch} {e : Env} {s : State} {m : MethodId} {args : Array Value} {below : List Frame} {meth : Method} {c : Code} {H : Heap} {locs : List Loc} {Q : State → Prop} {cc : ByteArray} {pc : Nat} {ls : Array Slot} {rest : List Value} {D : va_G} {G : G3} {ad : Nat → Nat} {st : St} {y : MethodName} {bytes : ByteArray} {maxL n index nL k ci cells slots : Nat} {ret : Option FieldType} {own C : String} {o : Nat} {As stk : List Value} {fs : List (Nat ⊕ Bool)} {q : vw_C}
theorem gcL_i {res : Int32 × St} (hx : p.tables.exec = Jvm.exec) (hb : c.code = cc) (hml : c.maxLocals = nL) (hown : s.vm.findClass own = some m.cls) (hts : ∀ w ∈ wsL_law, w.before args s = true) (hK : KK D G s) (hSt : Str ad s) (hP : va_P D vwCl (SW G ad st) H) (hS : va_S (AA ad s.heap.size) s.heap H locs) (hl : ls.size = nL) (hcl : cells ≤ 600000) (hsl : slots ≤ 7302250)
    (hG : GoodIn wsL_law (wsV own index C y (wsU y bytes maxL ret))) (hy : okY y C n) (hd : ctab[o]? = some (.inl (ci, fs))) (hc : vwCl[ci]? = some q) (hq : q.1 = C) (hk : k ≤ 60) (hL : maxL ≤ 31) (hn : As.length = n) (hstk : stk = As.reverse ++ .ref (ad o) :: rest) (hr : (rest.map fun v => v.category).sum ≤ 8) (hdg : decode cc pc = .ok (.invokevirtual index, 3))
    (hM : CtI l y (wsU y bytes maxL ret) (rmK k) D G ad H.size (.ref (ad o) :: As) st res)
    (kk : ∀ (H1 : Heap) (locs1 : List Loc), va_P D vwCl (SW G ad res.2) H1 → va_S (AA ad s.heap.size) s.heap H1 locs1 → W p l e room_1 s m args below meth c H1 locs1 cells slots Q (F0 m (pc + 3) ls (.int res.1 :: rest))) : W p l e room_1 s m args below meth c H locs cells slots Q (F0 m pc ls stk) := by
  subst hstk
  subst hq
  refine va_calli (va_runV (As := As) (rest := rest) ⟨hx, hb, hml, hown, hts⟩ hM (cwV n hts hG rfl rfl rfl hy (rmL_ok hk hL)) ⟨Wd_blind, va_recv hK.1 hP hc (fv_at hd), wd_of hK hSt hS hP _⟩ rfl hn hl rfl (lv_room hr) hdg ⟨hcl, hsl⟩) hS (fun q _ h => AA_mono hS.1 q h) (AA_mono hS.1) (fun r u t H1 locs1 ht hvm hw hB _ _ hS1 => ?_)
  obtain ⟨rfl, rfl⟩ := hw
  exact kk H1 locs1 (by rw [← ht]; exact hB) hS1
theorem gcL_j {res : Int64 × St} (hx : p.tables.exec = Jvm.exec) (hb : c.code = cc) (hml : c.maxLocals = nL) (hown : s.vm.findClass own = some m.cls) (hts : ∀ w ∈ wsL_law, w.before args s = true) (hK : KK D G s) (hSt : Str ad s) (hP : va_P D vwCl (SW G ad st) H) (hS : va_S (AA ad s.heap.size) s.heap H locs) (hl : ls.size = nL) (hcl : cells ≤ 600000) (hsl : slots ≤ 7302250)
    (hG : GoodIn wsL_law (wsV own index C y (wsU y bytes maxL ret))) (hy : okY y C n) (hd : ctab[o]? = some (.inl (ci, fs))) (hc : vwCl[ci]? = some q) (hq : q.1 = C) (hk : k ≤ 60) (hL : maxL ≤ 31) (hn : As.length = n) (hstk : stk = As.reverse ++ .ref (ad o) :: rest) (hr : (rest.map fun v => v.category).sum ≤ 8) (hdg : decode cc pc = .ok (.invokevirtual index, 3))
    (hM : CtJ l y (wsU y bytes maxL ret) (rmK k) D G ad H.size (.ref (ad o) :: As) st res)
    (kk : ∀ (H1 : Heap) (locs1 : List Loc), va_P D vwCl (SW G ad res.2) H1 → va_S (AA ad s.heap.size) s.heap H1 locs1 → W p l e room_1 s m args below meth c H1 locs1 cells slots Q (F0 m (pc + 3) ls (.long res.1 :: rest))) : W p l e room_1 s m args below meth c H locs cells slots Q (F0 m pc ls stk) := by
  subst hstk
  subst hq
  refine va_calll (va_runV (As := As) (rest := rest) ⟨hx, hb, hml, hown, hts⟩ hM (cwV n hts hG rfl rfl rfl hy (rmL_ok hk hL)) ⟨Wd_blind, va_recv hK.1 hP hc (fv_at hd), wd_of hK hSt hS hP _⟩ rfl hn hl rfl (lv_room hr) hdg ⟨hcl, hsl⟩) hS (fun q _ h => AA_mono hS.1 q h) (AA_mono hS.1) (fun r u t H1 locs1 ht hvm hw hB _ _ hS1 => ?_)
  obtain ⟨rfl, rfl⟩ := hw
  exact kk H1 locs1 (by rw [← ht]; exact hB) hS1
end
def SP_stage (n : Nat) (Inv : St → Prop) : Prop := ∀ (a0 : Int32) (a1 : Int32) (a2 : Int32) (a3 : Int32) (a4 : Int32) (st : St), Inv st → ∃ (r : Int32) (st1 st2 : St), fX10_stage n a0 a1 a2 a3 a4 st = some (r, st1) ∧ fX11_stage n a0 a1 a2 a3 a4 st1 = some (r, st2) ∧ Inv st2
section
variable {p : Program} {l : Launch} {e : Env} {s : State} {m : MethodId} {below : List Frame} {meth : Method} {c : Code} {D : va_G} {G : G3} {ad : Nat → Nat} {b Ln : Nat} {xs : Nat → Int32} {Q : State → Prop} {cells slots : Nat}
set_option maxHeartbeats 4000000 in
set_option maxRecDepth 100000 in
theorem lwc_stage (C : LCx p s m c b Ln xs D G ad) (hcl : cells ≤ 600000) (hsl : slots ≤ 7302250) (n : Nat) (Inv : St → Prop) (hp : SP_stage n Inv) (v3 : Int32) (hv : ∀ k : Nat, k < 8 → vp_in (v3 + nI k) Ln) (hnext : ∀ st2 : St, Inv st2 → LAt p l e s m below meth c D G ad b cells slots Q st2 [(0, .ref b), (1, .ref (ad 0)), (2, .ref (ad 130)), (3, .int v3)] 1578 []) (st : St) (hI : Inv st) : LAt p l e s m below meth c D G ad b cells slots Q st [(0, .ref b), (1, .ref (ad 0)), (2, .ref (ad 130)), (3, .int v3)] 180 [] := by
  obtain ⟨hx, hb, hml, hown, hts, hK, had, hSt, hX, hbl, hbA⟩ := id C
  intro H locs ls hl hP hS
  refine lv_aload_n hx hb dL_law_180 rfl (lv_at hl 1 rfl) ?_
  refine lv_aload_n hx hb dL_law_181 rfl (lv_at hl 0 rfl) ?_
  refine lv_iload_n hx hb dL_law_182 rfl (lv_at hl 3 rfl) ?_
  refine lv_iconst (v := 1) hx hb dL_law_183 (by decide) ?_
  refine lv_iadd hx hb dL_law_184 ?_
  refine va_sld hx hb hX hbl hbA hS (hv 1 (by decide)) dL_law_185 ?_
  refine lv_aload_n hx hb dL_law_186 rfl (lv_at hl 0 rfl) ?_
  refine lv_iload_n hx hb dL_law_187 rfl (lv_at hl 3 rfl) ?_
  refine lv_iconst (v := 2) hx hb dL_law_188 (by decide) ?_
  refine lv_iadd hx hb dL_law_189 ?_
  refine va_sld hx hb hX hbl hbA hS (hv 2 (by decide)) dL_law_190 ?_
  refine lv_aload_n hx hb dL_law_191 rfl (lv_at hl 0 rfl) ?_
  refine lv_iload_n hx hb dL_law_192 rfl (lv_at hl 3 rfl) ?_
  refine lv_iconst (v := 3) hx hb dL_law_193 (by decide) ?_
  refine lv_iadd hx hb dL_law_194 ?_
  refine va_sld hx hb hX hbl hbA hS (hv 3 (by decide)) dL_law_195 ?_
  refine lv_aload_n hx hb dL_law_196 rfl (lv_at hl 0 rfl) ?_
  refine lv_iload_n hx hb dL_law_197 rfl (lv_at hl 3 rfl) ?_
  refine lv_iconst (v := 4) hx hb dL_law_198 (by decide) ?_
  refine lv_iadd hx hb dL_law_199 ?_
  refine va_sld hx hb hX hbl hbA hS (hv 4 (by decide)) dL_law_200 ?_
  refine lv_aload_n hx hb dL_law_201 rfl (lv_at hl 0 rfl) ?_
  refine lv_iload_n hx hb dL_law_202 rfl (lv_at hl 3 rfl) ?_
  refine lv_iconst (v := 5) hx hb dL_law_203 (by decide) ?_
  refine lv_iadd hx hb dL_law_204 ?_
  refine va_sld hx hb hX hbl hbA hS (hv 5 (by decide)) dL_law_205 ?_
  obtain ⟨r, st1, st2, h1, h2, hI⟩ := hp (xs (v3 + 1).toNatClampNeg) (xs (v3 + 2).toNatClampNeg) (xs (v3 + 3).toNatClampNeg) (xs (v3 + 4).toNatClampNeg) (xs (v3 + 5).toNatClampNeg) st hI
  refine gcL_i (k := 2) (o := 0) (As := [.int (xs (v3 + 1).toNatClampNeg), .int (xs (v3 + 2).toNatClampNeg), .int (xs (v3 + 3).toNatClampNeg), .int (xs (v3 + 4).toNatClampNeg), .int (xs (v3 + 5).toNatClampNeg)]) (rest := []) hx hb hml hown hts hK hSt hP hS hl.1 hcl hsl (goodV wm_9_5 wm_9_6 wm_9_7 wm_1_2 wm_9_8) okX10_stage ct_0 rfl rfl (Nat.le_of_ble_eq_true rfl) (Nat.le_of_ble_eq_true rfl) rfl rfl (Nat.le_of_ble_eq_true rfl) dL_law_206 (kX10_stage l D G ad had n (xs (v3 + 1).toNatClampNeg) (xs (v3 + 2).toNatClampNeg) (xs (v3 + 3).toNatClampNeg) (xs (v3 + 4).toNatClampNeg) (xs (v3 + 5).toNatClampNeg) st (r, st1) h1) (fun H locs hP hS => ?_)
  refine lv_aload_n hx hb dL_law_209 rfl (lv_at hl 2 rfl) ?_
  refine lv_aload_n hx hb dL_law_210 rfl (lv_at hl 0 rfl) ?_
  refine lv_iload_n hx hb dL_law_211 rfl (lv_at hl 3 rfl) ?_
  refine lv_iconst (v := 1) hx hb dL_law_212 (by decide) ?_
  refine lv_iadd hx hb dL_law_213 ?_
  refine va_sld hx hb hX hbl hbA hS (hv 1 (by decide)) dL_law_214 ?_
  refine lv_aload_n hx hb dL_law_215 rfl (lv_at hl 0 rfl) ?_
  refine lv_iload_n hx hb dL_law_216 rfl (lv_at hl 3 rfl) ?_
  refine lv_iconst (v := 2) hx hb dL_law_217 (by decide) ?_
  refine lv_iadd hx hb dL_law_218 ?_
  refine va_sld hx hb hX hbl hbA hS (hv 2 (by decide)) dL_law_219 ?_
  refine lv_aload_n hx hb dL_law_220 rfl (lv_at hl 0 rfl) ?_
  refine lv_iload_n hx hb dL_law_221 rfl (lv_at hl 3 rfl) ?_
  refine lv_iconst (v := 3) hx hb dL_law_222 (by decide) ?_
  refine lv_iadd hx hb dL_law_223 ?_
  refine va_sld hx hb hX hbl hbA hS (hv 3 (by decide)) dL_law_224 ?_
  refine lv_aload_n hx hb dL_law_225 rfl (lv_at hl 0 rfl) ?_
  refine lv_iload_n hx hb dL_law_226 rfl (lv_at hl 3 rfl) ?_
  refine lv_iconst (v := 4) hx hb dL_law_227 (by decide) ?_
  refine lv_iadd hx hb dL_law_228 ?_
  refine va_sld hx hb hX hbl hbA hS (hv 4 (by decide)) dL_law_229 ?_
  refine lv_aload_n hx hb dL_law_230 rfl (lv_at hl 0 rfl) ?_
  refine lv_iload_n hx hb dL_law_231 rfl (lv_at hl 3 rfl) ?_
  refine lv_iconst (v := 5) hx hb dL_law_232 (by decide) ?_
  refine lv_iadd hx hb dL_law_233 ?_
  refine va_sld hx hb hX hbl hbA hS (hv 5 (by decide)) dL_law_234 ?_
  refine gcL_i (k := 2) (o := 130) (As := [.int (xs (v3 + 1).toNatClampNeg), .int (xs (v3 + 2).toNatClampNeg), .int (xs (v3 + 3).toNatClampNeg), .int (xs (v3 + 4).toNatClampNeg), .int (xs (v3 + 5).toNatClampNeg)]) (rest := [.int r]) hx hb hml hown hts hK hSt hP hS hl.1 hcl hsl (goodV wm_10_7 wm_10_8 wm_10_9 wm_1_5 wm_10_10) okX11_stage ct_130 rfl rfl (Nat.le_of_ble_eq_true rfl) (Nat.le_of_ble_eq_true rfl) rfl rfl (Nat.le_of_ble_eq_true rfl) dL_law_235 (kX11_stage l D G ad had n (xs (v3 + 1).toNatClampNeg) (xs (v3 + 2).toNatClampNeg) (xs (v3 + 3).toNatClampNeg) (xs (v3 + 4).toNatClampNeg) (xs (v3 + 5).toNatClampNeg) st1 (r, st2) h2) (fun H locs hP hS => ?_)
  refine lv_icmp_eq (tgt := 1578) hx hb dL_law_238 (by decide) (fun q => ?_) (fun q => absurd rfl q)
  exact hnext st2 hI H locs ls hl hP hS
end
def SP_set (n : Nat) (Inv : St → Prop) : Prop := ∀ (a0 : Int32) (a1 : Int32) (a2 : Int32) (st : St), Inv st → ∃ (r : Int32) (st1 st2 : St), fX10_set n a0 a1 a2 st = some (r, st1) ∧ fX11_set n a0 a1 a2 st1 = some (r, st2) ∧ Inv st2
section
variable {p : Program} {l : Launch} {e : Env} {s : State} {m : MethodId} {below : List Frame} {meth : Method} {c : Code} {D : va_G} {G : G3} {ad : Nat → Nat} {b Ln : Nat} {xs : Nat → Int32} {Q : State → Prop} {cells slots : Nat}
set_option maxHeartbeats 4000000 in
set_option maxRecDepth 100000 in
theorem lwc_set (C : LCx p s m c b Ln xs D G ad) (hcl : cells ≤ 600000) (hsl : slots ≤ 7302250) (n : Nat) (Inv : St → Prop) (hp : SP_set n Inv) (v3 : Int32) (hv : ∀ k : Nat, k < 8 → vp_in (v3 + nI k) Ln) (hnext : ∀ st2 : St, Inv st2 → LAt p l e s m below meth c D G ad b cells slots Q st2 [(0, .ref b), (1, .ref (ad 0)), (2, .ref (ad 130)), (3, .int v3)] 1578 []) (st : St) (hI : Inv st) : LAt p l e s m below meth c D G ad b cells slots Q st [(0, .ref b), (1, .ref (ad 0)), (2, .ref (ad 130)), (3, .int v3)] 243 [] := by
  obtain ⟨hx, hb, hml, hown, hts, hK, had, hSt, hX, hbl, hbA⟩ := id C
  intro H locs ls hl hP hS
  refine lv_aload_n hx hb dL_law_243 rfl (lv_at hl 1 rfl) ?_
  refine lv_aload_n hx hb dL_law_244 rfl (lv_at hl 0 rfl) ?_
  refine lv_iload_n hx hb dL_law_245 rfl (lv_at hl 3 rfl) ?_
  refine lv_iconst (v := 1) hx hb dL_law_246 (by decide) ?_
  refine lv_iadd hx hb dL_law_247 ?_
  refine va_sld hx hb hX hbl hbA hS (hv 1 (by decide)) dL_law_248 ?_
  refine lv_aload_n hx hb dL_law_249 rfl (lv_at hl 0 rfl) ?_
  refine lv_iload_n hx hb dL_law_250 rfl (lv_at hl 3 rfl) ?_
  refine lv_iconst (v := 2) hx hb dL_law_251 (by decide) ?_
  refine lv_iadd hx hb dL_law_252 ?_
  refine va_sld hx hb hX hbl hbA hS (hv 2 (by decide)) dL_law_253 ?_
  refine lv_aload_n hx hb dL_law_254 rfl (lv_at hl 0 rfl) ?_
  refine lv_iload_n hx hb dL_law_255 rfl (lv_at hl 3 rfl) ?_
  refine lv_iconst (v := 3) hx hb dL_law_256 (by decide) ?_
  refine lv_iadd hx hb dL_law_257 ?_
  refine va_sld hx hb hX hbl hbA hS (hv 3 (by decide)) dL_law_258 ?_
  obtain ⟨r, st1, st2, h1, h2, hI⟩ := hp (xs (v3 + 1).toNatClampNeg) (xs (v3 + 2).toNatClampNeg) (xs (v3 + 3).toNatClampNeg) st hI
  refine gcL_i (k := 1) (o := 0) (As := [.int (xs (v3 + 1).toNatClampNeg), .int (xs (v3 + 2).toNatClampNeg), .int (xs (v3 + 3).toNatClampNeg)]) (rest := []) hx hb hml hown hts hK hSt hP hS hl.1 hcl hsl (goodV wm_11_0 wm_11_1 wm_11_2 wm_1_2 wm_11_3) okX10_set ct_0 rfl rfl (Nat.le_of_ble_eq_true rfl) (Nat.le_of_ble_eq_true rfl) rfl rfl (Nat.le_of_ble_eq_true rfl) dL_law_259 (kX10_set l D G ad had n (xs (v3 + 1).toNatClampNeg) (xs (v3 + 2).toNatClampNeg) (xs (v3 + 3).toNatClampNeg) st (r, st1) h1) (fun H locs hP hS => ?_)
  refine lv_aload_n hx hb dL_law_262 rfl (lv_at hl 2 rfl) ?_
  refine lv_aload_n hx hb dL_law_263 rfl (lv_at hl 0 rfl) ?_
  refine lv_iload_n hx hb dL_law_264 rfl (lv_at hl 3 rfl) ?_
  refine lv_iconst (v := 1) hx hb dL_law_265 (by decide) ?_
  refine lv_iadd hx hb dL_law_266 ?_
  refine va_sld hx hb hX hbl hbA hS (hv 1 (by decide)) dL_law_267 ?_
  refine lv_aload_n hx hb dL_law_268 rfl (lv_at hl 0 rfl) ?_
  refine lv_iload_n hx hb dL_law_269 rfl (lv_at hl 3 rfl) ?_
  refine lv_iconst (v := 2) hx hb dL_law_270 (by decide) ?_
  refine lv_iadd hx hb dL_law_271 ?_
  refine va_sld hx hb hX hbl hbA hS (hv 2 (by decide)) dL_law_272 ?_
  refine lv_aload_n hx hb dL_law_273 rfl (lv_at hl 0 rfl) ?_
  refine lv_iload_n hx hb dL_law_274 rfl (lv_at hl 3 rfl) ?_
  refine lv_iconst (v := 3) hx hb dL_law_275 (by decide) ?_
  refine lv_iadd hx hb dL_law_276 ?_
  refine va_sld hx hb hX hbl hbA hS (hv 3 (by decide)) dL_law_277 ?_
  refine gcL_i (k := 2) (o := 130) (As := [.int (xs (v3 + 1).toNatClampNeg), .int (xs (v3 + 2).toNatClampNeg), .int (xs (v3 + 3).toNatClampNeg)]) (rest := [.int r]) hx hb hml hown hts hK hSt hP hS hl.1 hcl hsl (goodV wm_11_8 wm_11_9 wm_11_10 wm_1_5 wm_11_11) okX11_set ct_130 rfl rfl (Nat.le_of_ble_eq_true rfl) (Nat.le_of_ble_eq_true rfl) rfl rfl (Nat.le_of_ble_eq_true rfl) dL_law_278 (kX11_set l D G ad had n (xs (v3 + 1).toNatClampNeg) (xs (v3 + 2).toNatClampNeg) (xs (v3 + 3).toNatClampNeg) st1 (r, st2) h2) (fun H locs hP hS => ?_)
  refine lv_icmp_eq (tgt := 1578) hx hb dL_law_281 (by decide) (fun q => ?_) (fun q => absurd rfl q)
  exact hnext st2 hI H locs ls hl hP hS
end
def SP_use (n : Nat) (Inv : St → Prop) : Prop := ∀ (a0 : Int32) (a1 : Int32) (st : St), Inv st → ∃ (r : Int32) (st1 st2 : St), fX10_use n a0 a1 st = some (r, st1) ∧ fX11_use n a0 a1 st1 = some (r, st2) ∧ Inv st2
section
variable {p : Program} {l : Launch} {e : Env} {s : State} {m : MethodId} {below : List Frame} {meth : Method} {c : Code} {D : va_G} {G : G3} {ad : Nat → Nat} {b Ln : Nat} {xs : Nat → Int32} {Q : State → Prop} {cells slots : Nat}
set_option maxHeartbeats 4000000 in
set_option maxRecDepth 100000 in
theorem lwc_use (C : LCx p s m c b Ln xs D G ad) (hcl : cells ≤ 600000) (hsl : slots ≤ 7302250) (n : Nat) (Inv : St → Prop) (hp : SP_use n Inv) (v3 : Int32) (hv : ∀ k : Nat, k < 8 → vp_in (v3 + nI k) Ln) (hnext : ∀ st2 : St, Inv st2 → LAt p l e s m below meth c D G ad b cells slots Q st2 [(0, .ref b), (1, .ref (ad 0)), (2, .ref (ad 130)), (3, .int v3)] 1578 []) (st : St) (hI : Inv st) : LAt p l e s m below meth c D G ad b cells slots Q st [(0, .ref b), (1, .ref (ad 0)), (2, .ref (ad 130)), (3, .int v3)] 286 [] := by
  obtain ⟨hx, hb, hml, hown, hts, hK, had, hSt, hX, hbl, hbA⟩ := id C
  intro H locs ls hl hP hS
  refine lv_aload_n hx hb dL_law_286 rfl (lv_at hl 1 rfl) ?_
  refine lv_aload_n hx hb dL_law_287 rfl (lv_at hl 0 rfl) ?_
  refine lv_iload_n hx hb dL_law_288 rfl (lv_at hl 3 rfl) ?_
  refine lv_iconst (v := 1) hx hb dL_law_289 (by decide) ?_
  refine lv_iadd hx hb dL_law_290 ?_
  refine va_sld hx hb hX hbl hbA hS (hv 1 (by decide)) dL_law_291 ?_
  refine lv_aload_n hx hb dL_law_292 rfl (lv_at hl 0 rfl) ?_
  refine lv_iload_n hx hb dL_law_293 rfl (lv_at hl 3 rfl) ?_
  refine lv_iconst (v := 2) hx hb dL_law_294 (by decide) ?_
  refine lv_iadd hx hb dL_law_295 ?_
  refine va_sld hx hb hX hbl hbA hS (hv 2 (by decide)) dL_law_296 ?_
  obtain ⟨r, st1, st2, h1, h2, hI⟩ := hp (xs (v3 + 1).toNatClampNeg) (xs (v3 + 2).toNatClampNeg) st hI
  refine gcL_i (k := 1) (o := 0) (As := [.int (xs (v3 + 1).toNatClampNeg), .int (xs (v3 + 2).toNatClampNeg)]) (rest := []) hx hb hml hown hts hK hSt hP hS hl.1 hcl hsl (goodV wm_11_14 wm_11_15 wm_11_16 wm_1_2 wm_11_17) okX10_use ct_0 rfl rfl (Nat.le_of_ble_eq_true rfl) (Nat.le_of_ble_eq_true rfl) rfl rfl (Nat.le_of_ble_eq_true rfl) dL_law_297 (kX10_use l D G ad had n (xs (v3 + 1).toNatClampNeg) (xs (v3 + 2).toNatClampNeg) st (r, st1) h1) (fun H locs hP hS => ?_)
  refine lv_aload_n hx hb dL_law_300 rfl (lv_at hl 2 rfl) ?_
  refine lv_aload_n hx hb dL_law_301 rfl (lv_at hl 0 rfl) ?_
  refine lv_iload_n hx hb dL_law_302 rfl (lv_at hl 3 rfl) ?_
  refine lv_iconst (v := 1) hx hb dL_law_303 (by decide) ?_
  refine lv_iadd hx hb dL_law_304 ?_
  refine va_sld hx hb hX hbl hbA hS (hv 1 (by decide)) dL_law_305 ?_
  refine lv_aload_n hx hb dL_law_306 rfl (lv_at hl 0 rfl) ?_
  refine lv_iload_n hx hb dL_law_307 rfl (lv_at hl 3 rfl) ?_
  refine lv_iconst (v := 2) hx hb dL_law_308 (by decide) ?_
  refine lv_iadd hx hb dL_law_309 ?_
  refine va_sld hx hb hX hbl hbA hS (hv 2 (by decide)) dL_law_310 ?_
  refine gcL_i (k := 2) (o := 130) (As := [.int (xs (v3 + 1).toNatClampNeg), .int (xs (v3 + 2).toNatClampNeg)]) (rest := [.int r]) hx hb hml hown hts hK hSt hP hS hl.1 hcl hsl (goodV wm_12_0 wm_12_1 wm_12_2 wm_1_5 wm_12_3) okX11_use ct_130 rfl rfl (Nat.le_of_ble_eq_true rfl) (Nat.le_of_ble_eq_true rfl) rfl rfl (Nat.le_of_ble_eq_true rfl) dL_law_311 (kX11_use l D G ad had n (xs (v3 + 1).toNatClampNeg) (xs (v3 + 2).toNatClampNeg) st1 (r, st2) h2) (fun H locs hP hS => ?_)
  refine lv_icmp_eq (tgt := 1578) hx hb dL_law_314 (by decide) (fun q => ?_) (fun q => absurd rfl q)
  exact hnext st2 hI H locs ls hl hP hS
end
def SP_allot (n : Nat) (Inv : St → Prop) : Prop := ∀ (a0 : Int32) (st : St), Inv st → ∃ (r : Int32) (st1 st2 : St), fX10_allot n a0 st = some (r, st1) ∧ fX11_allot n a0 st1 = some (r, st2) ∧ Inv st2
section
variable {p : Program} {l : Launch} {e : Env} {s : State} {m : MethodId} {below : List Frame} {meth : Method} {c : Code} {D : va_G} {G : G3} {ad : Nat → Nat} {b Ln : Nat} {xs : Nat → Int32} {Q : State → Prop} {cells slots : Nat}
set_option maxHeartbeats 4000000 in
set_option maxRecDepth 100000 in
theorem lwc_allot (C : LCx p s m c b Ln xs D G ad) (hcl : cells ≤ 600000) (hsl : slots ≤ 7302250) (n : Nat) (Inv : St → Prop) (hp : SP_allot n Inv) (v3 : Int32) (hv : ∀ k : Nat, k < 8 → vp_in (v3 + nI k) Ln) (hnext : ∀ st2 : St, Inv st2 → LAt p l e s m below meth c D G ad b cells slots Q st2 [(0, .ref b), (1, .ref (ad 0)), (2, .ref (ad 130)), (3, .int v3)] 1578 []) (st : St) (hI : Inv st) : LAt p l e s m below meth c D G ad b cells slots Q st [(0, .ref b), (1, .ref (ad 0)), (2, .ref (ad 130)), (3, .int v3)] 319 [] := by
  obtain ⟨hx, hb, hml, hown, hts, hK, had, hSt, hX, hbl, hbA⟩ := id C
  intro H locs ls hl hP hS
  refine lv_aload_n hx hb dL_law_319 rfl (lv_at hl 1 rfl) ?_
  refine lv_aload_n hx hb dL_law_320 rfl (lv_at hl 0 rfl) ?_
  refine lv_iload_n hx hb dL_law_321 rfl (lv_at hl 3 rfl) ?_
  refine lv_iconst (v := 1) hx hb dL_law_322 (by decide) ?_
  refine lv_iadd hx hb dL_law_323 ?_
  refine va_sld hx hb hX hbl hbA hS (hv 1 (by decide)) dL_law_324 ?_
  obtain ⟨r, st1, st2, h1, h2, hI⟩ := hp (xs (v3 + 1).toNatClampNeg) st hI
  refine gcL_i (k := 1) (o := 0) (As := [.int (xs (v3 + 1).toNatClampNeg)]) (rest := []) hx hb hml hown hts hK hSt hP hS hl.1 hcl hsl (goodV wm_12_6 wm_12_7 wm_12_8 wm_1_2 wm_12_9) okX10_allot ct_0 rfl rfl (Nat.le_of_ble_eq_true rfl) (Nat.le_of_ble_eq_true rfl) rfl rfl (Nat.le_of_ble_eq_true rfl) dL_law_325 (kX10_allot l D G ad had n (xs (v3 + 1).toNatClampNeg) st (r, st1) h1) (fun H locs hP hS => ?_)
  refine lv_aload_n hx hb dL_law_328 rfl (lv_at hl 2 rfl) ?_
  refine lv_aload_n hx hb dL_law_329 rfl (lv_at hl 0 rfl) ?_
  refine lv_iload_n hx hb dL_law_330 rfl (lv_at hl 3 rfl) ?_
  refine lv_iconst (v := 1) hx hb dL_law_331 (by decide) ?_
  refine lv_iadd hx hb dL_law_332 ?_
  refine va_sld hx hb hX hbl hbA hS (hv 1 (by decide)) dL_law_333 ?_
  refine gcL_i (k := 1) (o := 130) (As := [.int (xs (v3 + 1).toNatClampNeg)]) (rest := [.int r]) hx hb hml hown hts hK hSt hP hS hl.1 hcl hsl (goodV wm_12_11 wm_12_12 wm_12_13 wm_1_5 wm_12_14) okX11_allot ct_130 rfl rfl (Nat.le_of_ble_eq_true rfl) (Nat.le_of_ble_eq_true rfl) rfl rfl (Nat.le_of_ble_eq_true rfl) dL_law_334 (kX11_allot l D G ad had n (xs (v3 + 1).toNatClampNeg) st1 (r, st2) h2) (fun H locs hP hS => ?_)
  refine lv_icmp_eq (tgt := 1578) hx hb dL_law_337 (by decide) (fun q => ?_) (fun q => absurd rfl q)
  exact hnext st2 hI H locs ls hl hP hS
end
def SP_about (n : Nat) (Inv : St → Prop) : Prop := ∀ (a0 : Int32) (a1 : Int32) (st : St), Inv st → ∃ (r : Int32) (st1 st2 : St), fX10_about n a0 a1 st = some (r, st1) ∧ fX11_about n a0 a1 st1 = some (r, st2) ∧ Inv st2
section
variable {p : Program} {l : Launch} {e : Env} {s : State} {m : MethodId} {below : List Frame} {meth : Method} {c : Code} {D : va_G} {G : G3} {ad : Nat → Nat} {b Ln : Nat} {xs : Nat → Int32} {Q : State → Prop} {cells slots : Nat}
set_option maxHeartbeats 4000000 in
set_option maxRecDepth 100000 in
theorem lwc_about (C : LCx p s m c b Ln xs D G ad) (hcl : cells ≤ 600000) (hsl : slots ≤ 7302250) (n : Nat) (Inv : St → Prop) (hp : SP_about n Inv) (v3 : Int32) (hv : ∀ k : Nat, k < 8 → vp_in (v3 + nI k) Ln) (hnext : ∀ st2 : St, Inv st2 → LAt p l e s m below meth c D G ad b cells slots Q st2 [(0, .ref b), (1, .ref (ad 0)), (2, .ref (ad 130)), (3, .int v3)] 1578 []) (st : St) (hI : Inv st) : LAt p l e s m below meth c D G ad b cells slots Q st [(0, .ref b), (1, .ref (ad 0)), (2, .ref (ad 130)), (3, .int v3)] 342 [] := by
  obtain ⟨hx, hb, hml, hown, hts, hK, had, hSt, hX, hbl, hbA⟩ := id C
  intro H locs ls hl hP hS
  refine lv_aload_n hx hb dL_law_342 rfl (lv_at hl 1 rfl) ?_
  refine lv_aload_n hx hb dL_law_343 rfl (lv_at hl 0 rfl) ?_
  refine lv_iload_n hx hb dL_law_344 rfl (lv_at hl 3 rfl) ?_
  refine lv_iconst (v := 1) hx hb dL_law_345 (by decide) ?_
  refine lv_iadd hx hb dL_law_346 ?_
  refine va_sld hx hb hX hbl hbA hS (hv 1 (by decide)) dL_law_347 ?_
  refine lv_aload_n hx hb dL_law_348 rfl (lv_at hl 0 rfl) ?_
  refine lv_iload_n hx hb dL_law_349 rfl (lv_at hl 3 rfl) ?_
  refine lv_iconst (v := 2) hx hb dL_law_350 (by decide) ?_
  refine lv_iadd hx hb dL_law_351 ?_
  refine va_sld hx hb hX hbl hbA hS (hv 2 (by decide)) dL_law_352 ?_
  obtain ⟨r, st1, st2, h1, h2, hI⟩ := hp (xs (v3 + 1).toNatClampNeg) (xs (v3 + 2).toNatClampNeg) st hI
  refine gcL_i (k := 1) (o := 0) (As := [.int (xs (v3 + 1).toNatClampNeg), .int (xs (v3 + 2).toNatClampNeg)]) (rest := []) hx hb hml hown hts hK hSt hP hS hl.1 hcl hsl (goodV wm_12_17 wm_12_18 wm_12_19 wm_1_2 wm_12_20) okX10_about ct_0 rfl rfl (Nat.le_of_ble_eq_true rfl) (Nat.le_of_ble_eq_true rfl) rfl rfl (Nat.le_of_ble_eq_true rfl) dL_law_353 (kX10_about l D G ad had n (xs (v3 + 1).toNatClampNeg) (xs (v3 + 2).toNatClampNeg) st (r, st1) h1) (fun H locs hP hS => ?_)
  refine lv_aload_n hx hb dL_law_356 rfl (lv_at hl 2 rfl) ?_
  refine lv_aload_n hx hb dL_law_357 rfl (lv_at hl 0 rfl) ?_
  refine lv_iload_n hx hb dL_law_358 rfl (lv_at hl 3 rfl) ?_
  refine lv_iconst (v := 1) hx hb dL_law_359 (by decide) ?_
  refine lv_iadd hx hb dL_law_360 ?_
  refine va_sld hx hb hX hbl hbA hS (hv 1 (by decide)) dL_law_361 ?_
  refine lv_aload_n hx hb dL_law_362 rfl (lv_at hl 0 rfl) ?_
  refine lv_iload_n hx hb dL_law_363 rfl (lv_at hl 3 rfl) ?_
  refine lv_iconst (v := 2) hx hb dL_law_364 (by decide) ?_
  refine lv_iadd hx hb dL_law_365 ?_
  refine va_sld hx hb hX hbl hbA hS (hv 2 (by decide)) dL_law_366 ?_
  refine gcL_i (k := 2) (o := 130) (As := [.int (xs (v3 + 1).toNatClampNeg), .int (xs (v3 + 2).toNatClampNeg)]) (rest := [.int r]) hx hb hml hown hts hK hSt hP hS hl.1 hcl hsl (goodV wm_13_13 wm_13_14 wm_13_15 wm_1_5 wm_13_16) okX11_about ct_130 rfl rfl (Nat.le_of_ble_eq_true rfl) (Nat.le_of_ble_eq_true rfl) rfl rfl (Nat.le_of_ble_eq_true rfl) dL_law_367 (kX11_about l D G ad had n (xs (v3 + 1).toNatClampNeg) (xs (v3 + 2).toNatClampNeg) st1 (r, st2) h2) (fun H locs hP hS => ?_)
  refine lv_icmp_eq (tgt := 1578) hx hb dL_law_370 (by decide) (fun q => ?_) (fun q => absurd rfl q)
  exact hnext st2 hI H locs ls hl hP hS
end
def SP_place (n : Nat) (Inv : St → Prop) : Prop := ∀ (a0 : Int32) (st : St), Inv st → ∃ (r : Int64) (st1 st2 : St), fX10_place n a0 st = some (r, st1) ∧ fX11_place n a0 st1 = some (r, st2) ∧ Inv st2
section
variable {p : Program} {l : Launch} {e : Env} {s : State} {m : MethodId} {below : List Frame} {meth : Method} {c : Code} {D : va_G} {G : G3} {ad : Nat → Nat} {b Ln : Nat} {xs : Nat → Int32} {Q : State → Prop} {cells slots : Nat}
set_option maxHeartbeats 4000000 in
set_option maxRecDepth 100000 in
theorem lwc_place (C : LCx p s m c b Ln xs D G ad) (hcl : cells ≤ 600000) (hsl : slots ≤ 7302250) (n : Nat) (Inv : St → Prop) (hp : SP_place n Inv) (v3 : Int32) (hv : ∀ k : Nat, k < 8 → vp_in (v3 + nI k) Ln) (hnext : ∀ st2 : St, Inv st2 → LAt p l e s m below meth c D G ad b cells slots Q st2 [(0, .ref b), (1, .ref (ad 0)), (2, .ref (ad 130)), (3, .int v3)] 1578 []) (st : St) (hI : Inv st) : LAt p l e s m below meth c D G ad b cells slots Q st [(0, .ref b), (1, .ref (ad 0)), (2, .ref (ad 130)), (3, .int v3)] 375 [] := by
  obtain ⟨hx, hb, hml, hown, hts, hK, had, hSt, hX, hbl, hbA⟩ := id C
  intro H locs ls hl hP hS
  refine lv_aload_n hx hb dL_law_375 rfl (lv_at hl 1 rfl) ?_
  refine lv_aload_n hx hb dL_law_376 rfl (lv_at hl 0 rfl) ?_
  refine lv_iload_n hx hb dL_law_377 rfl (lv_at hl 3 rfl) ?_
  refine lv_iconst (v := 1) hx hb dL_law_378 (by decide) ?_
  refine lv_iadd hx hb dL_law_379 ?_
  refine va_sld hx hb hX hbl hbA hS (hv 1 (by decide)) dL_law_380 ?_
  obtain ⟨r, st1, st2, h1, h2, hI⟩ := hp (xs (v3 + 1).toNatClampNeg) st hI
  refine gcL_j (k := 1) (o := 0) (As := [.int (xs (v3 + 1).toNatClampNeg)]) (rest := []) hx hb hml hown hts hK hSt hP hS hl.1 hcl hsl (goodV wm_14_2 wm_14_3 wm_14_4 wm_1_2 wm_14_5) okX10_place ct_0 rfl rfl (Nat.le_of_ble_eq_true rfl) (Nat.le_of_ble_eq_true rfl) rfl rfl (Nat.le_of_ble_eq_true rfl) dL_law_381 (kX10_place l D G ad had n (xs (v3 + 1).toNatClampNeg) st (r, st1) h1) (fun H locs hP hS => ?_)
  refine lv_aload_n hx hb dL_law_384 rfl (lv_at hl 2 rfl) ?_
  refine lv_aload_n hx hb dL_law_385 rfl (lv_at hl 0 rfl) ?_
  refine lv_iload_n hx hb dL_law_386 rfl (lv_at hl 3 rfl) ?_
  refine lv_iconst (v := 1) hx hb dL_law_387 (by decide) ?_
  refine lv_iadd hx hb dL_law_388 ?_
  refine va_sld hx hb hX hbl hbA hS (hv 1 (by decide)) dL_law_389 ?_
  refine gcL_j (k := 2) (o := 130) (As := [.int (xs (v3 + 1).toNatClampNeg)]) (rest := [.long r]) hx hb hml hown hts hK hSt hP hS hl.1 hcl hsl (goodV wm_14_11 wm_14_12 wm_14_13 wm_1_5 wm_14_14) okX11_place ct_130 rfl rfl (Nat.le_of_ble_eq_true rfl) (Nat.le_of_ble_eq_true rfl) rfl rfl (Nat.le_of_ble_eq_true rfl) dL_law_390 (kX11_place l D G ad had n (xs (v3 + 1).toNatClampNeg) st1 (r, st2) h2) (fun H locs hP hS => ?_)
  refine g_lcmp_eq (tgt := 1578) hx hb dL_law_393 dL_law_394 (by decide) (fun q => ?_) (fun q => absurd rfl q)
  exact hnext st2 hI H locs ls hl hP hS
end
def SP_slot (n : Nat) (Inv : St → Prop) : Prop := ∀ (a0 : Int32) (a1 : Int32) (st : St), Inv st → ∃ (r : Int32) (st1 st2 : St), fX10_slot n a0 a1 st = some (r, st1) ∧ fX11_slot n a0 a1 st1 = some (r, st2) ∧ Inv st2
section
variable {p : Program} {l : Launch} {e : Env} {s : State} {m : MethodId} {below : List Frame} {meth : Method} {c : Code} {D : va_G} {G : G3} {ad : Nat → Nat} {b Ln : Nat} {xs : Nat → Int32} {Q : State → Prop} {cells slots : Nat}
set_option maxHeartbeats 4000000 in
set_option maxRecDepth 100000 in
theorem lwc_slot (C : LCx p s m c b Ln xs D G ad) (hcl : cells ≤ 600000) (hsl : slots ≤ 7302250) (n : Nat) (Inv : St → Prop) (hp : SP_slot n Inv) (v3 : Int32) (hv : ∀ k : Nat, k < 8 → vp_in (v3 + nI k) Ln) (hnext : ∀ st2 : St, Inv st2 → LAt p l e s m below meth c D G ad b cells slots Q st2 [(0, .ref b), (1, .ref (ad 0)), (2, .ref (ad 130)), (3, .int v3)] 1578 []) (st : St) (hI : Inv st) : LAt p l e s m below meth c D G ad b cells slots Q st [(0, .ref b), (1, .ref (ad 0)), (2, .ref (ad 130)), (3, .int v3)] 399 [] := by
  obtain ⟨hx, hb, hml, hown, hts, hK, had, hSt, hX, hbl, hbA⟩ := id C
  intro H locs ls hl hP hS
  refine lv_aload_n hx hb dL_law_399 rfl (lv_at hl 1 rfl) ?_
  refine lv_aload_n hx hb dL_law_400 rfl (lv_at hl 0 rfl) ?_
  refine lv_iload_n hx hb dL_law_401 rfl (lv_at hl 3 rfl) ?_
  refine lv_iconst (v := 1) hx hb dL_law_402 (by decide) ?_
  refine lv_iadd hx hb dL_law_403 ?_
  refine va_sld hx hb hX hbl hbA hS (hv 1 (by decide)) dL_law_404 ?_
  refine lv_aload_n hx hb dL_law_405 rfl (lv_at hl 0 rfl) ?_
  refine lv_iload_n hx hb dL_law_406 rfl (lv_at hl 3 rfl) ?_
  refine lv_iconst (v := 2) hx hb dL_law_407 (by decide) ?_
  refine lv_iadd hx hb dL_law_408 ?_
  refine va_sld hx hb hX hbl hbA hS (hv 2 (by decide)) dL_law_409 ?_
  obtain ⟨r, st1, st2, h1, h2, hI⟩ := hp (xs (v3 + 1).toNatClampNeg) (xs (v3 + 2).toNatClampNeg) st hI
  refine gcL_i (k := 1) (o := 0) (As := [.int (xs (v3 + 1).toNatClampNeg), .int (xs (v3 + 2).toNatClampNeg)]) (rest := []) hx hb hml hown hts hK hSt hP hS hl.1 hcl hsl (goodV wm_14_20 wm_14_21 wm_14_22 wm_1_2 wm_14_23) okX10_slot ct_0 rfl rfl (Nat.le_of_ble_eq_true rfl) (Nat.le_of_ble_eq_true rfl) rfl rfl (Nat.le_of_ble_eq_true rfl) dL_law_410 (kX10_slot l D G ad had n (xs (v3 + 1).toNatClampNeg) (xs (v3 + 2).toNatClampNeg) st (r, st1) h1) (fun H locs hP hS => ?_)
  refine lv_aload_n hx hb dL_law_413 rfl (lv_at hl 2 rfl) ?_
  refine lv_aload_n hx hb dL_law_414 rfl (lv_at hl 0 rfl) ?_
  refine lv_iload_n hx hb dL_law_415 rfl (lv_at hl 3 rfl) ?_
  refine lv_iconst (v := 1) hx hb dL_law_416 (by decide) ?_
  refine lv_iadd hx hb dL_law_417 ?_
  refine va_sld hx hb hX hbl hbA hS (hv 1 (by decide)) dL_law_418 ?_
  refine lv_aload_n hx hb dL_law_419 rfl (lv_at hl 0 rfl) ?_
  refine lv_iload_n hx hb dL_law_420 rfl (lv_at hl 3 rfl) ?_
  refine lv_iconst (v := 2) hx hb dL_law_421 (by decide) ?_
  refine lv_iadd hx hb dL_law_422 ?_
  refine va_sld hx hb hX hbl hbA hS (hv 2 (by decide)) dL_law_423 ?_
  refine gcL_i (k := 2) (o := 130) (As := [.int (xs (v3 + 1).toNatClampNeg), .int (xs (v3 + 2).toNatClampNeg)]) (rest := [.int r]) hx hb hml hown hts hK hSt hP hS hl.1 hcl hsl (goodV wm_15_1 wm_15_2 wm_15_3 wm_1_5 wm_15_4) okX11_slot ct_130 rfl rfl (Nat.le_of_ble_eq_true rfl) (Nat.le_of_ble_eq_true rfl) rfl rfl (Nat.le_of_ble_eq_true rfl) dL_law_424 (kX11_slot l D G ad had n (xs (v3 + 1).toNatClampNeg) (xs (v3 + 2).toNatClampNeg) st1 (r, st2) h2) (fun H locs hP hS => ?_)
  refine lv_icmp_eq (tgt := 1578) hx hb dL_law_427 (by decide) (fun q => ?_) (fun q => absurd rfl q)
  exact hnext st2 hI H locs ls hl hP hS
end
def SP_owed (n : Nat) (Inv : St → Prop) : Prop := ∀ (a0 : Int32) (a1 : Int32) (st : St), Inv st → ∃ (r : Int32) (st1 st2 : St), fX10_owed n a0 a1 st = some (r, st1) ∧ fX11_owed n a0 a1 st1 = some (r, st2) ∧ Inv st2
section
variable {p : Program} {l : Launch} {e : Env} {s : State} {m : MethodId} {below : List Frame} {meth : Method} {c : Code} {D : va_G} {G : G3} {ad : Nat → Nat} {b Ln : Nat} {xs : Nat → Int32} {Q : State → Prop} {cells slots : Nat}
set_option maxHeartbeats 4000000 in
set_option maxRecDepth 100000 in
theorem lwc_owed (C : LCx p s m c b Ln xs D G ad) (hcl : cells ≤ 600000) (hsl : slots ≤ 7302250) (n : Nat) (Inv : St → Prop) (hp : SP_owed n Inv) (v3 : Int32) (hv : ∀ k : Nat, k < 8 → vp_in (v3 + nI k) Ln) (hnext : ∀ st2 : St, Inv st2 → LAt p l e s m below meth c D G ad b cells slots Q st2 [(0, .ref b), (1, .ref (ad 0)), (2, .ref (ad 130)), (3, .int v3)] 1578 []) (st : St) (hI : Inv st) : LAt p l e s m below meth c D G ad b cells slots Q st [(0, .ref b), (1, .ref (ad 0)), (2, .ref (ad 130)), (3, .int v3)] 432 [] := by
  obtain ⟨hx, hb, hml, hown, hts, hK, had, hSt, hX, hbl, hbA⟩ := id C
  intro H locs ls hl hP hS
  refine lv_aload_n hx hb dL_law_432 rfl (lv_at hl 1 rfl) ?_
  refine lv_aload_n hx hb dL_law_433 rfl (lv_at hl 0 rfl) ?_
  refine lv_iload_n hx hb dL_law_434 rfl (lv_at hl 3 rfl) ?_
  refine lv_iconst (v := 1) hx hb dL_law_435 (by decide) ?_
  refine lv_iadd hx hb dL_law_436 ?_
  refine va_sld hx hb hX hbl hbA hS (hv 1 (by decide)) dL_law_437 ?_
  refine lv_aload_n hx hb dL_law_438 rfl (lv_at hl 0 rfl) ?_
  refine lv_iload_n hx hb dL_law_439 rfl (lv_at hl 3 rfl) ?_
  refine lv_iconst (v := 2) hx hb dL_law_440 (by decide) ?_
  refine lv_iadd hx hb dL_law_441 ?_
  refine va_sld hx hb hX hbl hbA hS (hv 2 (by decide)) dL_law_442 ?_
  obtain ⟨r, st1, st2, h1, h2, hI⟩ := hp (xs (v3 + 1).toNatClampNeg) (xs (v3 + 2).toNatClampNeg) st hI
  refine gcL_i (k := 2) (o := 0) (As := [.int (xs (v3 + 1).toNatClampNeg), .int (xs (v3 + 2).toNatClampNeg)]) (rest := []) hx hb hml hown hts hK hSt hP hS hl.1 hcl hsl (goodV wm_15_5 wm_15_6 wm_15_7 wm_1_2 wm_15_8) okX10_owed ct_0 rfl rfl (Nat.le_of_ble_eq_true rfl) (Nat.le_of_ble_eq_true rfl) rfl rfl (Nat.le_of_ble_eq_true rfl) dL_law_443 (kX10_owed l D G ad had n (xs (v3 + 1).toNatClampNeg) (xs (v3 + 2).toNatClampNeg) st (r, st1) h1) (fun H locs hP hS => ?_)
  refine lv_aload_n hx hb dL_law_446 rfl (lv_at hl 2 rfl) ?_
  refine lv_aload_n hx hb dL_law_447 rfl (lv_at hl 0 rfl) ?_
  refine lv_iload_n hx hb dL_law_448 rfl (lv_at hl 3 rfl) ?_
  refine lv_iconst (v := 1) hx hb dL_law_449 (by decide) ?_
  refine lv_iadd hx hb dL_law_450 ?_
  refine va_sld hx hb hX hbl hbA hS (hv 1 (by decide)) dL_law_451 ?_
  refine lv_aload_n hx hb dL_law_452 rfl (lv_at hl 0 rfl) ?_
  refine lv_iload_n hx hb dL_law_453 rfl (lv_at hl 3 rfl) ?_
  refine lv_iconst (v := 2) hx hb dL_law_454 (by decide) ?_
  refine lv_iadd hx hb dL_law_455 ?_
  refine va_sld hx hb hX hbl hbA hS (hv 2 (by decide)) dL_law_456 ?_
  refine gcL_i (k := 2) (o := 130) (As := [.int (xs (v3 + 1).toNatClampNeg), .int (xs (v3 + 2).toNatClampNeg)]) (rest := [.int r]) hx hb hml hown hts hK hSt hP hS hl.1 hcl hsl (goodV wm_15_10 wm_15_11 wm_15_12 wm_1_5 wm_15_13) okX11_owed ct_130 rfl rfl (Nat.le_of_ble_eq_true rfl) (Nat.le_of_ble_eq_true rfl) rfl rfl (Nat.le_of_ble_eq_true rfl) dL_law_457 (kX11_owed l D G ad had n (xs (v3 + 1).toNatClampNeg) (xs (v3 + 2).toNatClampNeg) st1 (r, st2) h2) (fun H locs hP hS => ?_)
  refine lv_icmp_eq (tgt := 1578) hx hb dL_law_460 (by decide) (fun q => ?_) (fun q => absurd rfl q)
  exact hnext st2 hI H locs ls hl hP hS
end
def SP_cost (n : Nat) (Inv : St → Prop) : Prop := ∀ (a0 : Int32) (st : St), Inv st → ∃ (r : Int64) (st1 st2 : St), fX10_cost n a0 st = some (r, st1) ∧ fX11_cost n a0 st1 = some (r, st2) ∧ Inv st2
section
variable {p : Program} {l : Launch} {e : Env} {s : State} {m : MethodId} {below : List Frame} {meth : Method} {c : Code} {D : va_G} {G : G3} {ad : Nat → Nat} {b Ln : Nat} {xs : Nat → Int32} {Q : State → Prop} {cells slots : Nat}
set_option maxHeartbeats 4000000 in
set_option maxRecDepth 100000 in
theorem lwc_cost (C : LCx p s m c b Ln xs D G ad) (hcl : cells ≤ 600000) (hsl : slots ≤ 7302250) (n : Nat) (Inv : St → Prop) (hp : SP_cost n Inv) (v3 : Int32) (hv : ∀ k : Nat, k < 8 → vp_in (v3 + nI k) Ln) (hnext : ∀ st2 : St, Inv st2 → LAt p l e s m below meth c D G ad b cells slots Q st2 [(0, .ref b), (1, .ref (ad 0)), (2, .ref (ad 130)), (3, .int v3)] 1578 []) (st : St) (hI : Inv st) : LAt p l e s m below meth c D G ad b cells slots Q st [(0, .ref b), (1, .ref (ad 0)), (2, .ref (ad 130)), (3, .int v3)] 465 [] := by
  obtain ⟨hx, hb, hml, hown, hts, hK, had, hSt, hX, hbl, hbA⟩ := id C
  intro H locs ls hl hP hS
  refine lv_aload_n hx hb dL_law_465 rfl (lv_at hl 1 rfl) ?_
  refine lv_aload_n hx hb dL_law_466 rfl (lv_at hl 0 rfl) ?_
  refine lv_iload_n hx hb dL_law_467 rfl (lv_at hl 3 rfl) ?_
  refine lv_iconst (v := 1) hx hb dL_law_468 (by decide) ?_
  refine lv_iadd hx hb dL_law_469 ?_
  refine va_sld hx hb hX hbl hbA hS (hv 1 (by decide)) dL_law_470 ?_
  obtain ⟨r, st1, st2, h1, h2, hI⟩ := hp (xs (v3 + 1).toNatClampNeg) st hI
  refine gcL_j (k := 1) (o := 0) (As := [.int (xs (v3 + 1).toNatClampNeg)]) (rest := []) hx hb hml hown hts hK hSt hP hS hl.1 hcl hsl (goodV wm_15_14 wm_15_15 wm_15_16 wm_1_2 wm_15_17) okX10_cost ct_0 rfl rfl (Nat.le_of_ble_eq_true rfl) (Nat.le_of_ble_eq_true rfl) rfl rfl (Nat.le_of_ble_eq_true rfl) dL_law_471 (kX10_cost l D G ad had n (xs (v3 + 1).toNatClampNeg) st (r, st1) h1) (fun H locs hP hS => ?_)
  refine lv_aload_n hx hb dL_law_474 rfl (lv_at hl 2 rfl) ?_
  refine lv_aload_n hx hb dL_law_475 rfl (lv_at hl 0 rfl) ?_
  refine lv_iload_n hx hb dL_law_476 rfl (lv_at hl 3 rfl) ?_
  refine lv_iconst (v := 1) hx hb dL_law_477 (by decide) ?_
  refine lv_iadd hx hb dL_law_478 ?_
  refine va_sld hx hb hX hbl hbA hS (hv 1 (by decide)) dL_law_479 ?_
  refine gcL_j (k := 2) (o := 130) (As := [.int (xs (v3 + 1).toNatClampNeg)]) (rest := [.long r]) hx hb hml hown hts hK hSt hP hS hl.1 hcl hsl (goodV wm_15_19 wm_15_20 wm_15_21 wm_1_5 wm_15_22) okX11_cost ct_130 rfl rfl (Nat.le_of_ble_eq_true rfl) (Nat.le_of_ble_eq_true rfl) rfl rfl (Nat.le_of_ble_eq_true rfl) dL_law_480 (kX11_cost l D G ad had n (xs (v3 + 1).toNatClampNeg) st1 (r, st2) h2) (fun H locs hP hS => ?_)
  refine g_lcmp_eq (tgt := 1578) hx hb dL_law_483 dL_law_484 (by decide) (fun q => ?_) (fun q => absurd rfl q)
  exact hnext st2 hI H locs ls hl hP hS
end
def SP_kept (n : Nat) (Inv : St → Prop) : Prop := ∀ (a0 : Int32) (st : St), Inv st → ∃ (r : Int64) (st1 st2 : St), fX10_kept n a0 st = some (r, st1) ∧ fX11_kept n a0 st1 = some (r, st2) ∧ Inv st2
section
variable {p : Program} {l : Launch} {e : Env} {s : State} {m : MethodId} {below : List Frame} {meth : Method} {c : Code} {D : va_G} {G : G3} {ad : Nat → Nat} {b Ln : Nat} {xs : Nat → Int32} {Q : State → Prop} {cells slots : Nat}
set_option maxHeartbeats 4000000 in
set_option maxRecDepth 100000 in
theorem lwc_kept (C : LCx p s m c b Ln xs D G ad) (hcl : cells ≤ 600000) (hsl : slots ≤ 7302250) (n : Nat) (Inv : St → Prop) (hp : SP_kept n Inv) (v3 : Int32) (hv : ∀ k : Nat, k < 8 → vp_in (v3 + nI k) Ln) (hnext : ∀ st2 : St, Inv st2 → LAt p l e s m below meth c D G ad b cells slots Q st2 [(0, .ref b), (1, .ref (ad 0)), (2, .ref (ad 130)), (3, .int v3)] 1578 []) (st : St) (hI : Inv st) : LAt p l e s m below meth c D G ad b cells slots Q st [(0, .ref b), (1, .ref (ad 0)), (2, .ref (ad 130)), (3, .int v3)] 489 [] := by
  obtain ⟨hx, hb, hml, hown, hts, hK, had, hSt, hX, hbl, hbA⟩ := id C
  intro H locs ls hl hP hS
  refine lv_aload_n hx hb dL_law_489 rfl (lv_at hl 1 rfl) ?_
  refine lv_aload_n hx hb dL_law_490 rfl (lv_at hl 0 rfl) ?_
  refine lv_iload_n hx hb dL_law_491 rfl (lv_at hl 3 rfl) ?_
  refine lv_iconst (v := 1) hx hb dL_law_492 (by decide) ?_
  refine lv_iadd hx hb dL_law_493 ?_
  refine va_sld hx hb hX hbl hbA hS (hv 1 (by decide)) dL_law_494 ?_
  obtain ⟨r, st1, st2, h1, h2, hI⟩ := hp (xs (v3 + 1).toNatClampNeg) st hI
  refine gcL_j (k := 1) (o := 0) (As := [.int (xs (v3 + 1).toNatClampNeg)]) (rest := []) hx hb hml hown hts hK hSt hP hS hl.1 hcl hsl (goodV wm_15_23 wm_16_0 wm_16_1 wm_1_2 wm_16_2) okX10_kept ct_0 rfl rfl (Nat.le_of_ble_eq_true rfl) (Nat.le_of_ble_eq_true rfl) rfl rfl (Nat.le_of_ble_eq_true rfl) dL_law_495 (kX10_kept l D G ad had n (xs (v3 + 1).toNatClampNeg) st (r, st1) h1) (fun H locs hP hS => ?_)
  refine lv_aload_n hx hb dL_law_498 rfl (lv_at hl 2 rfl) ?_
  refine lv_aload_n hx hb dL_law_499 rfl (lv_at hl 0 rfl) ?_
  refine lv_iload_n hx hb dL_law_500 rfl (lv_at hl 3 rfl) ?_
  refine lv_iconst (v := 1) hx hb dL_law_501 (by decide) ?_
  refine lv_iadd hx hb dL_law_502 ?_
  refine va_sld hx hb hX hbl hbA hS (hv 1 (by decide)) dL_law_503 ?_
  refine gcL_j (k := 1) (o := 130) (As := [.int (xs (v3 + 1).toNatClampNeg)]) (rest := [.long r]) hx hb hml hown hts hK hSt hP hS hl.1 hcl hsl (goodV wm_16_10 wm_16_11 wm_16_12 wm_1_5 wm_16_13) okX11_kept ct_130 rfl rfl (Nat.le_of_ble_eq_true rfl) (Nat.le_of_ble_eq_true rfl) rfl rfl (Nat.le_of_ble_eq_true rfl) dL_law_504 (kX11_kept l D G ad had n (xs (v3 + 1).toNatClampNeg) st1 (r, st2) h2) (fun H locs hP hS => ?_)
  refine g_lcmp_eq (tgt := 1578) hx hb dL_law_507 dL_law_508 (by decide) (fun q => ?_) (fun q => absurd rfl q)
  exact hnext st2 hI H locs ls hl hP hS
end
def SP_demand (n : Nat) (Inv : St → Prop) : Prop := ∀ (a0 : Int32) (a1 : Int32) (st : St), Inv st → ∃ (r : Int32) (st1 st2 : St), fX10_demand n a0 a1 st = some (r, st1) ∧ fX11_demand n a0 a1 st1 = some (r, st2) ∧ Inv st2
section
variable {p : Program} {l : Launch} {e : Env} {s : State} {m : MethodId} {below : List Frame} {meth : Method} {c : Code} {D : va_G} {G : G3} {ad : Nat → Nat} {b Ln : Nat} {xs : Nat → Int32} {Q : State → Prop} {cells slots : Nat}
set_option maxHeartbeats 4000000 in
set_option maxRecDepth 100000 in
theorem lwc_demand (C : LCx p s m c b Ln xs D G ad) (hcl : cells ≤ 600000) (hsl : slots ≤ 7302250) (n : Nat) (Inv : St → Prop) (hp : SP_demand n Inv) (v3 : Int32) (hv : ∀ k : Nat, k < 8 → vp_in (v3 + nI k) Ln) (hnext : ∀ st2 : St, Inv st2 → LAt p l e s m below meth c D G ad b cells slots Q st2 [(0, .ref b), (1, .ref (ad 0)), (2, .ref (ad 130)), (3, .int v3)] 1578 []) (st : St) (hI : Inv st) : LAt p l e s m below meth c D G ad b cells slots Q st [(0, .ref b), (1, .ref (ad 0)), (2, .ref (ad 130)), (3, .int v3)] 513 [] := by
  obtain ⟨hx, hb, hml, hown, hts, hK, had, hSt, hX, hbl, hbA⟩ := id C
  intro H locs ls hl hP hS
  refine lv_aload_n hx hb dL_law_513 rfl (lv_at hl 1 rfl) ?_
  refine lv_aload_n hx hb dL_law_514 rfl (lv_at hl 0 rfl) ?_
  refine lv_iload_n hx hb dL_law_515 rfl (lv_at hl 3 rfl) ?_
  refine lv_iconst (v := 1) hx hb dL_law_516 (by decide) ?_
  refine lv_iadd hx hb dL_law_517 ?_
  refine va_sld hx hb hX hbl hbA hS (hv 1 (by decide)) dL_law_518 ?_
  refine lv_aload_n hx hb dL_law_519 rfl (lv_at hl 0 rfl) ?_
  refine lv_iload_n hx hb dL_law_520 rfl (lv_at hl 3 rfl) ?_
  refine lv_iconst (v := 2) hx hb dL_law_521 (by decide) ?_
  refine lv_iadd hx hb dL_law_522 ?_
  refine va_sld hx hb hX hbl hbA hS (hv 2 (by decide)) dL_law_523 ?_
  obtain ⟨r, st1, st2, h1, h2, hI⟩ := hp (xs (v3 + 1).toNatClampNeg) (xs (v3 + 2).toNatClampNeg) st hI
  refine gcL_i (k := 2) (o := 0) (As := [.int (xs (v3 + 1).toNatClampNeg), .int (xs (v3 + 2).toNatClampNeg)]) (rest := []) hx hb hml hown hts hK hSt hP hS hl.1 hcl hsl (goodV wm_16_16 wm_16_17 wm_16_18 wm_1_2 wm_16_19) okX10_demand ct_0 rfl rfl (Nat.le_of_ble_eq_true rfl) (Nat.le_of_ble_eq_true rfl) rfl rfl (Nat.le_of_ble_eq_true rfl) dL_law_524 (kX10_demand l D G ad had n (xs (v3 + 1).toNatClampNeg) (xs (v3 + 2).toNatClampNeg) st (r, st1) h1) (fun H locs hP hS => ?_)
  refine lv_aload_n hx hb dL_law_527 rfl (lv_at hl 2 rfl) ?_
  refine lv_aload_n hx hb dL_law_528 rfl (lv_at hl 0 rfl) ?_
  refine lv_iload_n hx hb dL_law_529 rfl (lv_at hl 3 rfl) ?_
  refine lv_iconst (v := 1) hx hb dL_law_530 (by decide) ?_
  refine lv_iadd hx hb dL_law_531 ?_
  refine va_sld hx hb hX hbl hbA hS (hv 1 (by decide)) dL_law_532 ?_
  refine lv_aload_n hx hb dL_law_533 rfl (lv_at hl 0 rfl) ?_
  refine lv_iload_n hx hb dL_law_534 rfl (lv_at hl 3 rfl) ?_
  refine lv_iconst (v := 2) hx hb dL_law_535 (by decide) ?_
  refine lv_iadd hx hb dL_law_536 ?_
  refine va_sld hx hb hX hbl hbA hS (hv 2 (by decide)) dL_law_537 ?_
  refine gcL_i (k := 3) (o := 130) (As := [.int (xs (v3 + 1).toNatClampNeg), .int (xs (v3 + 2).toNatClampNeg)]) (rest := [.int r]) hx hb hml hown hts hK hSt hP hS hl.1 hcl hsl (goodV wm_16_20 wm_16_21 wm_16_22 wm_1_5 wm_16_23) okX11_demand ct_130 rfl rfl (Nat.le_of_ble_eq_true rfl) (Nat.le_of_ble_eq_true rfl) rfl rfl (Nat.le_of_ble_eq_true rfl) dL_law_538 (kX11_demand l D G ad had n (xs (v3 + 1).toNatClampNeg) (xs (v3 + 2).toNatClampNeg) st1 (r, st2) h2) (fun H locs hP hS => ?_)
  refine lv_icmp_eq (tgt := 1578) hx hb dL_law_541 (by decide) (fun q => ?_) (fun q => absurd rfl q)
  exact hnext st2 hI H locs ls hl hP hS
end
def SP_week (n : Nat) (Inv : St → Prop) : Prop := ∀  (st : St), Inv st → ∃ (r : Int32) (st1 st2 : St), fX10_week n  st = some (r, st1) ∧ fX11_week n  st1 = some (r, st2) ∧ Inv st2
section
variable {p : Program} {l : Launch} {e : Env} {s : State} {m : MethodId} {below : List Frame} {meth : Method} {c : Code} {D : va_G} {G : G3} {ad : Nat → Nat} {b Ln : Nat} {xs : Nat → Int32} {Q : State → Prop} {cells slots : Nat}
set_option maxHeartbeats 4000000 in
set_option maxRecDepth 100000 in
theorem lwc_week (C : LCx p s m c b Ln xs D G ad) (hcl : cells ≤ 600000) (hsl : slots ≤ 7302250) (n : Nat) (Inv : St → Prop) (hp : SP_week n Inv) (v3 : Int32) (hv : ∀ k : Nat, k < 8 → vp_in (v3 + nI k) Ln) (hnext : ∀ st2 : St, Inv st2 → LAt p l e s m below meth c D G ad b cells slots Q st2 [(0, .ref b), (1, .ref (ad 0)), (2, .ref (ad 130)), (3, .int v3)] 1578 []) (st : St) (hI : Inv st) : LAt p l e s m below meth c D G ad b cells slots Q st [(0, .ref b), (1, .ref (ad 0)), (2, .ref (ad 130)), (3, .int v3)] 546 [] := by
  obtain ⟨hx, hb, hml, hown, hts, hK, had, hSt, hX, hbl, hbA⟩ := id C
  intro H locs ls hl hP hS
  refine lv_aload_n hx hb dL_law_546 rfl (lv_at hl 1 rfl) ?_
  obtain ⟨r, st1, st2, h1, h2, hI⟩ := hp  st hI
  refine gcL_i (k := 6) (o := 0) (As := []) (rest := []) hx hb hml hown hts hK hSt hP hS hl.1 hcl hsl (goodV wm_17_5 wm_17_6 wm_17_7 wm_1_2 wm_17_8) okX10_week ct_0 rfl rfl (Nat.le_of_ble_eq_true rfl) (Nat.le_of_ble_eq_true rfl) rfl rfl (Nat.le_of_ble_eq_true rfl) dL_law_547 (kX10_week l D G ad had n  st (r, st1) h1) (fun H locs hP hS => ?_)
  refine lv_aload_n hx hb dL_law_550 rfl (lv_at hl 2 rfl) ?_
  refine gcL_i (k := 6) (o := 130) (As := []) (rest := [.int r]) hx hb hml hown hts hK hSt hP hS hl.1 hcl hsl (goodV wm_22_15 wm_22_16 wm_22_17 wm_1_5 wm_22_18) okX11_week ct_130 rfl rfl (Nat.le_of_ble_eq_true rfl) (Nat.le_of_ble_eq_true rfl) rfl rfl (Nat.le_of_ble_eq_true rfl) dL_law_551 (kX11_week l D G ad had n  st1 (r, st2) h2) (fun H locs hP hS => ?_)
  refine lv_icmp_eq (tgt := 1578) hx hb dL_law_554 (by decide) (fun q => ?_) (fun q => absurd rfl q)
  exact hnext st2 hI H locs ls hl hP hS
end
def SP_weeks (n : Nat) (Inv : St → Prop) : Prop := ∀ (a0 : Int32) (a1 : Int32) (st : St), Inv st → ∃ (r : Int32) (st1 st2 : St), fX10_weeks n a0 a1 st = some (r, st1) ∧ fX11_weeks n a0 a1 st1 = some (r, st2) ∧ Inv st2
section
variable {p : Program} {l : Launch} {e : Env} {s : State} {m : MethodId} {below : List Frame} {meth : Method} {c : Code} {D : va_G} {G : G3} {ad : Nat → Nat} {b Ln : Nat} {xs : Nat → Int32} {Q : State → Prop} {cells slots : Nat}
set_option maxHeartbeats 4000000 in
set_option maxRecDepth 100000 in
theorem lwc_weeks (C : LCx p s m c b Ln xs D G ad) (hcl : cells ≤ 600000) (hsl : slots ≤ 7302250) (n : Nat) (Inv : St → Prop) (hp : SP_weeks n Inv) (v3 : Int32) (hv : ∀ k : Nat, k < 8 → vp_in (v3 + nI k) Ln) (hnext : ∀ st2 : St, Inv st2 → LAt p l e s m below meth c D G ad b cells slots Q st2 [(0, .ref b), (1, .ref (ad 0)), (2, .ref (ad 130)), (3, .int v3)] 1578 []) (st : St) (hI : Inv st) : LAt p l e s m below meth c D G ad b cells slots Q st [(0, .ref b), (1, .ref (ad 0)), (2, .ref (ad 130)), (3, .int v3)] 559 [] := by
  obtain ⟨hx, hb, hml, hown, hts, hK, had, hSt, hX, hbl, hbA⟩ := id C
  intro H locs ls hl hP hS
  refine lv_aload_n hx hb dL_law_559 rfl (lv_at hl 1 rfl) ?_
  refine lv_aload_n hx hb dL_law_560 rfl (lv_at hl 0 rfl) ?_
  refine lv_iload_n hx hb dL_law_561 rfl (lv_at hl 3 rfl) ?_
  refine lv_iconst (v := 1) hx hb dL_law_562 (by decide) ?_
  refine lv_iadd hx hb dL_law_563 ?_
  refine va_sld hx hb hX hbl hbA hS (hv 1 (by decide)) dL_law_564 ?_
  refine lv_aload_n hx hb dL_law_565 rfl (lv_at hl 0 rfl) ?_
  refine lv_iload_n hx hb dL_law_566 rfl (lv_at hl 3 rfl) ?_
  refine lv_iconst (v := 2) hx hb dL_law_567 (by decide) ?_
  refine lv_iadd hx hb dL_law_568 ?_
  refine va_sld hx hb hX hbl hbA hS (hv 2 (by decide)) dL_law_569 ?_
  obtain ⟨r, st1, st2, h1, h2, hI⟩ := hp (xs (v3 + 1).toNatClampNeg) (xs (v3 + 2).toNatClampNeg) st hI
  refine gcL_i (k := 6) (o := 0) (As := [.int (xs (v3 + 1).toNatClampNeg), .int (xs (v3 + 2).toNatClampNeg)]) (rest := []) hx hb hml hown hts hK hSt hP hS hl.1 hcl hsl (goodV wm_24_7 wm_24_8 wm_24_9 wm_1_2 wm_24_10) okX10_weeks ct_0 rfl rfl (Nat.le_of_ble_eq_true rfl) (Nat.le_of_ble_eq_true rfl) rfl rfl (Nat.le_of_ble_eq_true rfl) dL_law_570 (kX10_weeks l D G ad had n (xs (v3 + 1).toNatClampNeg) (xs (v3 + 2).toNatClampNeg) st (r, st1) h1) (fun H locs hP hS => ?_)
  refine lv_aload_n hx hb dL_law_573 rfl (lv_at hl 2 rfl) ?_
  refine lv_aload_n hx hb dL_law_574 rfl (lv_at hl 0 rfl) ?_
  refine lv_iload_n hx hb dL_law_575 rfl (lv_at hl 3 rfl) ?_
  refine lv_iconst (v := 1) hx hb dL_law_576 (by decide) ?_
  refine lv_iadd hx hb dL_law_577 ?_
  refine va_sld hx hb hX hbl hbA hS (hv 1 (by decide)) dL_law_578 ?_
  refine lv_aload_n hx hb dL_law_579 rfl (lv_at hl 0 rfl) ?_
  refine lv_iload_n hx hb dL_law_580 rfl (lv_at hl 3 rfl) ?_
  refine lv_iconst (v := 2) hx hb dL_law_581 (by decide) ?_
  refine lv_iadd hx hb dL_law_582 ?_
  refine va_sld hx hb hX hbl hbA hS (hv 2 (by decide)) dL_law_583 ?_
  refine gcL_i (k := 6) (o := 130) (As := [.int (xs (v3 + 1).toNatClampNeg), .int (xs (v3 + 2).toNatClampNeg)]) (rest := [.int r]) hx hb hml hown hts hK hSt hP hS hl.1 hcl hsl (goodV wm_24_11 wm_24_12 wm_24_13 wm_1_5 wm_24_14) okX11_weeks ct_130 rfl rfl (Nat.le_of_ble_eq_true rfl) (Nat.le_of_ble_eq_true rfl) rfl rfl (Nat.le_of_ble_eq_true rfl) dL_law_584 (kX11_weeks l D G ad had n (xs (v3 + 1).toNatClampNeg) (xs (v3 + 2).toNatClampNeg) st1 (r, st2) h2) (fun H locs hP hS => ?_)
  refine lv_icmp_eq (tgt := 1578) hx hb dL_law_587 (by decide) (fun q => ?_) (fun q => absurd rfl q)
  exact hnext st2 hI H locs ls hl hP hS
end
def SP_feed (n : Nat) (Inv : St → Prop) : Prop := ∀ (a0 : Int64) (a1 : Int32) (st : St), Inv st → ∃ (r : Int32) (st1 st2 : St), fX10_feed n a0 a1 st = some (r, st1) ∧ fX11_feed n a0 a1 st1 = some (r, st2) ∧ Inv st2
section
variable {p : Program} {l : Launch} {e : Env} {s : State} {m : MethodId} {below : List Frame} {meth : Method} {c : Code} {D : va_G} {G : G3} {ad : Nat → Nat} {b Ln : Nat} {xs : Nat → Int32} {Q : State → Prop} {cells slots : Nat}
set_option maxHeartbeats 4000000 in
set_option maxRecDepth 100000 in
theorem lwc_feed (C : LCx p s m c b Ln xs D G ad) (hcl : cells ≤ 600000) (hsl : slots ≤ 7302250) (n : Nat) (Inv : St → Prop) (hp : SP_feed n Inv) (v3 : Int32) (hv : ∀ k : Nat, k < 8 → vp_in (v3 + nI k) Ln) (hnext : ∀ st2 : St, Inv st2 → LAt p l e s m below meth c D G ad b cells slots Q st2 [(0, .ref b), (1, .ref (ad 0)), (2, .ref (ad 130)), (3, .int v3)] 1578 []) (st : St) (hI : Inv st) : LAt p l e s m below meth c D G ad b cells slots Q st [(0, .ref b), (1, .ref (ad 0)), (2, .ref (ad 130)), (3, .int v3)] 592 [] := by
  obtain ⟨hx, hb, hml, hown, hts, hK, had, hSt, hX, hbl, hbA⟩ := id C
  intro H locs ls hl hP hS
  refine lv_aload_n hx hb dL_law_592 rfl (lv_at hl 1 rfl) ?_
  refine lv_aload_n hx hb dL_law_593 rfl (lv_at hl 0 rfl) ?_
  refine lv_iload_n hx hb dL_law_594 rfl (lv_at hl 3 rfl) ?_
  refine lv_iconst (v := 1) hx hb dL_law_595 (by decide) ?_
  refine lv_iadd hx hb dL_law_596 ?_
  refine va_sld hx hb hX hbl hbA hS (hv 1 (by decide)) dL_law_597 ?_
  refine lv_i2l hx hb dL_law_598 rfl ?_
  refine lv_bipush (v := 32) hx hb dL_law_599 (by decide) ?_
  refine lv_lshl hx hb dL_law_601 rfl ?_
  refine lv_aload_n hx hb dL_law_602 rfl (lv_at hl 0 rfl) ?_
  refine lv_iload_n hx hb dL_law_603 rfl (lv_at hl 3 rfl) ?_
  refine lv_iconst (v := 2) hx hb dL_law_604 (by decide) ?_
  refine lv_iadd hx hb dL_law_605 ?_
  refine va_sld hx hb hX hbl hbA hS (hv 2 (by decide)) dL_law_606 ?_
  refine lv_i2l hx hb dL_law_607 rfl ?_
  refine lv_ldc2 hx hb hown (hts _ wm_1_6) dL_law_608 ?_
  refine lv_land hx hb dL_law_611 ?_
  refine lv_lor hx hb dL_law_612 ?_
  refine lv_aload_n hx hb dL_law_613 rfl (lv_at hl 0 rfl) ?_
  refine lv_iload_n hx hb dL_law_614 rfl (lv_at hl 3 rfl) ?_
  refine lv_iconst (v := 3) hx hb dL_law_615 (by decide) ?_
  refine lv_iadd hx hb dL_law_616 ?_
  refine va_sld hx hb hX hbl hbA hS (hv 3 (by decide)) dL_law_617 ?_
  obtain ⟨r, st1, st2, h1, h2, hI⟩ := hp (((xs (v3 + 1).toNatClampNeg).toInt64 <<< ((32 : Int32).toInt64 &&& 63)) ||| ((xs (v3 + 2).toNatClampNeg).toInt64 &&& 4294967295)) (xs (v3 + 3).toNatClampNeg) st hI
  refine gcL_i (k := 1) (o := 0) (As := [.long (((xs (v3 + 1).toNatClampNeg).toInt64 <<< ((32 : Int32).toInt64 &&& 63)) ||| ((xs (v3 + 2).toNatClampNeg).toInt64 &&& 4294967295)), .int (xs (v3 + 3).toNatClampNeg)]) (rest := []) hx hb hml hown hts hK hSt hP hS hl.1 hcl hsl (goodV wm_24_20 wm_24_21 wm_24_22 wm_1_2 wm_24_23) okX10_feed ct_0 rfl rfl (Nat.le_of_ble_eq_true rfl) (Nat.le_of_ble_eq_true rfl) rfl rfl (Nat.le_of_ble_eq_true rfl) dL_law_618 (kX10_feed l D G ad had n (((xs (v3 + 1).toNatClampNeg).toInt64 <<< ((32 : Int32).toInt64 &&& 63)) ||| ((xs (v3 + 2).toNatClampNeg).toInt64 &&& 4294967295)) (xs (v3 + 3).toNatClampNeg) st (r, st1) h1) (fun H locs hP hS => ?_)
  refine lv_aload_n hx hb dL_law_621 rfl (lv_at hl 2 rfl) ?_
  refine lv_aload_n hx hb dL_law_622 rfl (lv_at hl 0 rfl) ?_
  refine lv_iload_n hx hb dL_law_623 rfl (lv_at hl 3 rfl) ?_
  refine lv_iconst (v := 1) hx hb dL_law_624 (by decide) ?_
  refine lv_iadd hx hb dL_law_625 ?_
  refine va_sld hx hb hX hbl hbA hS (hv 1 (by decide)) dL_law_626 ?_
  refine lv_i2l hx hb dL_law_627 rfl ?_
  refine lv_bipush (v := 32) hx hb dL_law_628 (by decide) ?_
  refine lv_lshl hx hb dL_law_630 rfl ?_
  refine lv_aload_n hx hb dL_law_631 rfl (lv_at hl 0 rfl) ?_
  refine lv_iload_n hx hb dL_law_632 rfl (lv_at hl 3 rfl) ?_
  refine lv_iconst (v := 2) hx hb dL_law_633 (by decide) ?_
  refine lv_iadd hx hb dL_law_634 ?_
  refine va_sld hx hb hX hbl hbA hS (hv 2 (by decide)) dL_law_635 ?_
  refine lv_i2l hx hb dL_law_636 rfl ?_
  refine lv_ldc2 hx hb hown (hts _ wm_1_6) dL_law_637 ?_
  refine lv_land hx hb dL_law_640 ?_
  refine lv_lor hx hb dL_law_641 ?_
  refine lv_aload_n hx hb dL_law_642 rfl (lv_at hl 0 rfl) ?_
  refine lv_iload_n hx hb dL_law_643 rfl (lv_at hl 3 rfl) ?_
  refine lv_iconst (v := 3) hx hb dL_law_644 (by decide) ?_
  refine lv_iadd hx hb dL_law_645 ?_
  refine va_sld hx hb hX hbl hbA hS (hv 3 (by decide)) dL_law_646 ?_
  refine gcL_i (k := 1) (o := 130) (As := [.long (((xs (v3 + 1).toNatClampNeg).toInt64 <<< ((32 : Int32).toInt64 &&& 63)) ||| ((xs (v3 + 2).toNatClampNeg).toInt64 &&& 4294967295)), .int (xs (v3 + 3).toNatClampNeg)]) (rest := [.int r]) hx hb hml hown hts hK hSt hP hS hl.1 hcl hsl (goodV wm_25_6 wm_25_7 wm_25_8 wm_1_5 wm_25_9) okX11_feed ct_130 rfl rfl (Nat.le_of_ble_eq_true rfl) (Nat.le_of_ble_eq_true rfl) rfl rfl (Nat.le_of_ble_eq_true rfl) dL_law_647 (kX11_feed l D G ad had n (((xs (v3 + 1).toNatClampNeg).toInt64 <<< ((32 : Int32).toInt64 &&& 63)) ||| ((xs (v3 + 2).toNatClampNeg).toInt64 &&& 4294967295)) (xs (v3 + 3).toNatClampNeg) st1 (r, st2) h2) (fun H locs hP hS => ?_)
  refine lv_icmp_eq (tgt := 1578) hx hb dL_law_650 (by decide) (fun q => ?_) (fun q => absurd rfl q)
  exact hnext st2 hI H locs ls hl hP hS
end
def SP_rule (n : Nat) (Inv : St → Prop) : Prop := ∀  (st : St), Inv st → ∃ (r : Int32) (st1 st2 : St), fX10_rule n  st = some (r, st1) ∧ fX11_rule n  st1 = some (r, st2) ∧ Inv st2
section
variable {p : Program} {l : Launch} {e : Env} {s : State} {m : MethodId} {below : List Frame} {meth : Method} {c : Code} {D : va_G} {G : G3} {ad : Nat → Nat} {b Ln : Nat} {xs : Nat → Int32} {Q : State → Prop} {cells slots : Nat}
set_option maxHeartbeats 4000000 in
set_option maxRecDepth 100000 in
theorem lwc_rule (C : LCx p s m c b Ln xs D G ad) (hcl : cells ≤ 600000) (hsl : slots ≤ 7302250) (n : Nat) (Inv : St → Prop) (hp : SP_rule n Inv) (v3 : Int32) (hv : ∀ k : Nat, k < 8 → vp_in (v3 + nI k) Ln) (hnext : ∀ st2 : St, Inv st2 → LAt p l e s m below meth c D G ad b cells slots Q st2 [(0, .ref b), (1, .ref (ad 0)), (2, .ref (ad 130)), (3, .int v3)] 1578 []) (st : St) (hI : Inv st) : LAt p l e s m below meth c D G ad b cells slots Q st [(0, .ref b), (1, .ref (ad 0)), (2, .ref (ad 130)), (3, .int v3)] 655 [] := by
  obtain ⟨hx, hb, hml, hown, hts, hK, had, hSt, hX, hbl, hbA⟩ := id C
  intro H locs ls hl hP hS
  refine lv_aload_n hx hb dL_law_655 rfl (lv_at hl 1 rfl) ?_
  obtain ⟨r, st1, st2, h1, h2, hI⟩ := hp  st hI
  refine gcL_i (k := 34) (o := 0) (As := []) (rest := []) hx hb hml hown hts hK hSt hP hS hl.1 hcl hsl (goodV wm_25_13 wm_25_14 wm_25_15 wm_1_2 wm_25_16) okX10_rule ct_0 rfl rfl (Nat.le_of_ble_eq_true rfl) (Nat.le_of_ble_eq_true rfl) rfl rfl (Nat.le_of_ble_eq_true rfl) dL_law_656 (kX10_rule l D G ad had n  st (r, st1) h1) (fun H locs hP hS => ?_)
  refine lv_aload_n hx hb dL_law_659 rfl (lv_at hl 2 rfl) ?_
  refine gcL_i (k := 4) (o := 130) (As := []) (rest := [.int r]) hx hb hml hown hts hK hSt hP hS hl.1 hcl hsl (goodV wm_30_2 wm_30_3 wm_30_4 wm_1_5 wm_30_5) okX11_rule ct_130 rfl rfl (Nat.le_of_ble_eq_true rfl) (Nat.le_of_ble_eq_true rfl) rfl rfl (Nat.le_of_ble_eq_true rfl) dL_law_660 (kX11_rule l D G ad had n  st1 (r, st2) h2) (fun H locs hP hS => ?_)
  refine lv_icmp_eq (tgt := 1578) hx hb dL_law_663 (by decide) (fun q => ?_) (fun q => absurd rfl q)
  exact hnext st2 hI H locs ls hl hP hS
end
def SP_worth (n : Nat) (Inv : St → Prop) : Prop := ∀ (a0 : Int32) (a1 : Int32) (st : St), Inv st → ∃ (r : Int64) (st1 st2 : St), fX10_worth n a0 a1 st = some (r, st1) ∧ fX11_worth n a0 a1 st1 = some (r, st2) ∧ Inv st2
section
variable {p : Program} {l : Launch} {e : Env} {s : State} {m : MethodId} {below : List Frame} {meth : Method} {c : Code} {D : va_G} {G : G3} {ad : Nat → Nat} {b Ln : Nat} {xs : Nat → Int32} {Q : State → Prop} {cells slots : Nat}
set_option maxHeartbeats 4000000 in
set_option maxRecDepth 100000 in
theorem lwc_worth (C : LCx p s m c b Ln xs D G ad) (hcl : cells ≤ 600000) (hsl : slots ≤ 7302250) (n : Nat) (Inv : St → Prop) (hp : SP_worth n Inv) (v3 : Int32) (hv : ∀ k : Nat, k < 8 → vp_in (v3 + nI k) Ln) (hnext : ∀ st2 : St, Inv st2 → LAt p l e s m below meth c D G ad b cells slots Q st2 [(0, .ref b), (1, .ref (ad 0)), (2, .ref (ad 130)), (3, .int v3)] 1578 []) (st : St) (hI : Inv st) : LAt p l e s m below meth c D G ad b cells slots Q st [(0, .ref b), (1, .ref (ad 0)), (2, .ref (ad 130)), (3, .int v3)] 668 [] := by
  obtain ⟨hx, hb, hml, hown, hts, hK, had, hSt, hX, hbl, hbA⟩ := id C
  intro H locs ls hl hP hS
  refine lv_aload_n hx hb dL_law_668 rfl (lv_at hl 1 rfl) ?_
  refine lv_aload_n hx hb dL_law_669 rfl (lv_at hl 0 rfl) ?_
  refine lv_iload_n hx hb dL_law_670 rfl (lv_at hl 3 rfl) ?_
  refine lv_iconst (v := 1) hx hb dL_law_671 (by decide) ?_
  refine lv_iadd hx hb dL_law_672 ?_
  refine va_sld hx hb hX hbl hbA hS (hv 1 (by decide)) dL_law_673 ?_
  refine lv_aload_n hx hb dL_law_674 rfl (lv_at hl 0 rfl) ?_
  refine lv_iload_n hx hb dL_law_675 rfl (lv_at hl 3 rfl) ?_
  refine lv_iconst (v := 2) hx hb dL_law_676 (by decide) ?_
  refine lv_iadd hx hb dL_law_677 ?_
  refine va_sld hx hb hX hbl hbA hS (hv 2 (by decide)) dL_law_678 ?_
  obtain ⟨r, st1, st2, h1, h2, hI⟩ := hp (xs (v3 + 1).toNatClampNeg) (xs (v3 + 2).toNatClampNeg) st hI
  refine gcL_j (k := 4) (o := 0) (As := [.int (xs (v3 + 1).toNatClampNeg), .int (xs (v3 + 2).toNatClampNeg)]) (rest := []) hx hb hml hown hts hK hSt hP hS hl.1 hcl hsl (goodV wm_31_23 wm_32_0 wm_32_1 wm_1_2 wm_32_2) okX10_worth ct_0 rfl rfl (Nat.le_of_ble_eq_true rfl) (Nat.le_of_ble_eq_true rfl) rfl rfl (Nat.le_of_ble_eq_true rfl) dL_law_679 (kX10_worth l D G ad had n (xs (v3 + 1).toNatClampNeg) (xs (v3 + 2).toNatClampNeg) st (r, st1) h1) (fun H locs hP hS => ?_)
  refine lv_aload_n hx hb dL_law_682 rfl (lv_at hl 2 rfl) ?_
  refine lv_aload_n hx hb dL_law_683 rfl (lv_at hl 0 rfl) ?_
  refine lv_iload_n hx hb dL_law_684 rfl (lv_at hl 3 rfl) ?_
  refine lv_iconst (v := 1) hx hb dL_law_685 (by decide) ?_
  refine lv_iadd hx hb dL_law_686 ?_
  refine va_sld hx hb hX hbl hbA hS (hv 1 (by decide)) dL_law_687 ?_
  refine lv_aload_n hx hb dL_law_688 rfl (lv_at hl 0 rfl) ?_
  refine lv_iload_n hx hb dL_law_689 rfl (lv_at hl 3 rfl) ?_
  refine lv_iconst (v := 2) hx hb dL_law_690 (by decide) ?_
  refine lv_iadd hx hb dL_law_691 ?_
  refine va_sld hx hb hX hbl hbA hS (hv 2 (by decide)) dL_law_692 ?_
  refine gcL_j (k := 4) (o := 130) (As := [.int (xs (v3 + 1).toNatClampNeg), .int (xs (v3 + 2).toNatClampNeg)]) (rest := [.long r]) hx hb hml hown hts hK hSt hP hS hl.1 hcl hsl (goodV wm_32_4 wm_32_5 wm_32_6 wm_1_5 wm_32_7) okX11_worth ct_130 rfl rfl (Nat.le_of_ble_eq_true rfl) (Nat.le_of_ble_eq_true rfl) rfl rfl (Nat.le_of_ble_eq_true rfl) dL_law_693 (kX11_worth l D G ad had n (xs (v3 + 1).toNatClampNeg) (xs (v3 + 2).toNatClampNeg) st1 (r, st2) h2) (fun H locs hP hS => ?_)
  refine g_lcmp_eq (tgt := 1578) hx hb dL_law_696 dL_law_697 (by decide) (fun q => ?_) (fun q => absurd rfl q)
  exact hnext st2 hI H locs ls hl hP hS
end
def SP_swing (n : Nat) (Inv : St → Prop) : Prop := ∀ (a0 : Int32) (a1 : Int32) (a2 : Int32) (st : St), Inv st → ∃ (r : Int64) (st1 st2 : St), fX10_swing n a0 a1 a2 st = some (r, st1) ∧ fX11_swing n a0 a1 a2 st1 = some (r, st2) ∧ Inv st2
section
variable {p : Program} {l : Launch} {e : Env} {s : State} {m : MethodId} {below : List Frame} {meth : Method} {c : Code} {D : va_G} {G : G3} {ad : Nat → Nat} {b Ln : Nat} {xs : Nat → Int32} {Q : State → Prop} {cells slots : Nat}
set_option maxHeartbeats 4000000 in
set_option maxRecDepth 100000 in
theorem lwc_swing (C : LCx p s m c b Ln xs D G ad) (hcl : cells ≤ 600000) (hsl : slots ≤ 7302250) (n : Nat) (Inv : St → Prop) (hp : SP_swing n Inv) (v3 : Int32) (hv : ∀ k : Nat, k < 8 → vp_in (v3 + nI k) Ln) (hnext : ∀ st2 : St, Inv st2 → LAt p l e s m below meth c D G ad b cells slots Q st2 [(0, .ref b), (1, .ref (ad 0)), (2, .ref (ad 130)), (3, .int v3)] 1578 []) (st : St) (hI : Inv st) : LAt p l e s m below meth c D G ad b cells slots Q st [(0, .ref b), (1, .ref (ad 0)), (2, .ref (ad 130)), (3, .int v3)] 702 [] := by
  obtain ⟨hx, hb, hml, hown, hts, hK, had, hSt, hX, hbl, hbA⟩ := id C
  intro H locs ls hl hP hS
  refine lv_aload_n hx hb dL_law_702 rfl (lv_at hl 1 rfl) ?_
  refine lv_aload_n hx hb dL_law_703 rfl (lv_at hl 0 rfl) ?_
  refine lv_iload_n hx hb dL_law_704 rfl (lv_at hl 3 rfl) ?_
  refine lv_iconst (v := 1) hx hb dL_law_705 (by decide) ?_
  refine lv_iadd hx hb dL_law_706 ?_
  refine va_sld hx hb hX hbl hbA hS (hv 1 (by decide)) dL_law_707 ?_
  refine lv_aload_n hx hb dL_law_708 rfl (lv_at hl 0 rfl) ?_
  refine lv_iload_n hx hb dL_law_709 rfl (lv_at hl 3 rfl) ?_
  refine lv_iconst (v := 2) hx hb dL_law_710 (by decide) ?_
  refine lv_iadd hx hb dL_law_711 ?_
  refine va_sld hx hb hX hbl hbA hS (hv 2 (by decide)) dL_law_712 ?_
  refine lv_aload_n hx hb dL_law_713 rfl (lv_at hl 0 rfl) ?_
  refine lv_iload_n hx hb dL_law_714 rfl (lv_at hl 3 rfl) ?_
  refine lv_iconst (v := 3) hx hb dL_law_715 (by decide) ?_
  refine lv_iadd hx hb dL_law_716 ?_
  refine va_sld hx hb hX hbl hbA hS (hv 3 (by decide)) dL_law_717 ?_
  obtain ⟨r, st1, st2, h1, h2, hI⟩ := hp (xs (v3 + 1).toNatClampNeg) (xs (v3 + 2).toNatClampNeg) (xs (v3 + 3).toNatClampNeg) st hI
  refine gcL_j (k := 2) (o := 0) (As := [.int (xs (v3 + 1).toNatClampNeg), .int (xs (v3 + 2).toNatClampNeg), .int (xs (v3 + 3).toNatClampNeg)]) (rest := []) hx hb hml hown hts hK hSt hP hS hl.1 hcl hsl (goodV wm_32_8 wm_32_9 wm_32_10 wm_1_2 wm_32_11) okX10_swing ct_0 rfl rfl (Nat.le_of_ble_eq_true rfl) (Nat.le_of_ble_eq_true rfl) rfl rfl (Nat.le_of_ble_eq_true rfl) dL_law_718 (kX10_swing l D G ad had n (xs (v3 + 1).toNatClampNeg) (xs (v3 + 2).toNatClampNeg) (xs (v3 + 3).toNatClampNeg) st (r, st1) h1) (fun H locs hP hS => ?_)
  refine lv_aload_n hx hb dL_law_721 rfl (lv_at hl 2 rfl) ?_
  refine lv_aload_n hx hb dL_law_722 rfl (lv_at hl 0 rfl) ?_
  refine lv_iload_n hx hb dL_law_723 rfl (lv_at hl 3 rfl) ?_
  refine lv_iconst (v := 1) hx hb dL_law_724 (by decide) ?_
  refine lv_iadd hx hb dL_law_725 ?_
  refine va_sld hx hb hX hbl hbA hS (hv 1 (by decide)) dL_law_726 ?_
  refine lv_aload_n hx hb dL_law_727 rfl (lv_at hl 0 rfl) ?_
  refine lv_iload_n hx hb dL_law_728 rfl (lv_at hl 3 rfl) ?_
  refine lv_iconst (v := 2) hx hb dL_law_729 (by decide) ?_
  refine lv_iadd hx hb dL_law_730 ?_
  refine va_sld hx hb hX hbl hbA hS (hv 2 (by decide)) dL_law_731 ?_
  refine lv_aload_n hx hb dL_law_732 rfl (lv_at hl 0 rfl) ?_
  refine lv_iload_n hx hb dL_law_733 rfl (lv_at hl 3 rfl) ?_
  refine lv_iconst (v := 3) hx hb dL_law_734 (by decide) ?_
  refine lv_iadd hx hb dL_law_735 ?_
  refine va_sld hx hb hX hbl hbA hS (hv 3 (by decide)) dL_law_736 ?_
  refine gcL_j (k := 2) (o := 130) (As := [.int (xs (v3 + 1).toNatClampNeg), .int (xs (v3 + 2).toNatClampNeg), .int (xs (v3 + 3).toNatClampNeg)]) (rest := [.long r]) hx hb hml hown hts hK hSt hP hS hl.1 hcl hsl (goodV wm_32_20 wm_32_21 wm_32_22 wm_1_5 wm_32_23) okX11_swing ct_130 rfl rfl (Nat.le_of_ble_eq_true rfl) (Nat.le_of_ble_eq_true rfl) rfl rfl (Nat.le_of_ble_eq_true rfl) dL_law_737 (kX11_swing l D G ad had n (xs (v3 + 1).toNatClampNeg) (xs (v3 + 2).toNatClampNeg) (xs (v3 + 3).toNatClampNeg) st1 (r, st2) h2) (fun H locs hP hS => ?_)
  refine g_lcmp_eq (tgt := 1578) hx hb dL_law_740 dL_law_741 (by decide) (fun q => ?_) (fun q => absurd rfl q)
  exact hnext st2 hI H locs ls hl hP hS
end
def SP_gain (n : Nat) (Inv : St → Prop) : Prop := ∀ (a0 : Int32) (a1 : Int32) (a2 : Int32) (st : St), Inv st → ∃ (r : Int64) (st1 st2 : St), fX10_gain n a0 a1 a2 st = some (r, st1) ∧ fX11_gain n a0 a1 a2 st1 = some (r, st2) ∧ Inv st2
section
variable {p : Program} {l : Launch} {e : Env} {s : State} {m : MethodId} {below : List Frame} {meth : Method} {c : Code} {D : va_G} {G : G3} {ad : Nat → Nat} {b Ln : Nat} {xs : Nat → Int32} {Q : State → Prop} {cells slots : Nat}
set_option maxHeartbeats 4000000 in
set_option maxRecDepth 100000 in
theorem lwc_gain (C : LCx p s m c b Ln xs D G ad) (hcl : cells ≤ 600000) (hsl : slots ≤ 7302250) (n : Nat) (Inv : St → Prop) (hp : SP_gain n Inv) (v3 : Int32) (hv : ∀ k : Nat, k < 8 → vp_in (v3 + nI k) Ln) (hnext : ∀ st2 : St, Inv st2 → LAt p l e s m below meth c D G ad b cells slots Q st2 [(0, .ref b), (1, .ref (ad 0)), (2, .ref (ad 130)), (3, .int v3)] 1578 []) (st : St) (hI : Inv st) : LAt p l e s m below meth c D G ad b cells slots Q st [(0, .ref b), (1, .ref (ad 0)), (2, .ref (ad 130)), (3, .int v3)] 746 [] := by
  obtain ⟨hx, hb, hml, hown, hts, hK, had, hSt, hX, hbl, hbA⟩ := id C
  intro H locs ls hl hP hS
  refine lv_aload_n hx hb dL_law_746 rfl (lv_at hl 1 rfl) ?_
  refine lv_aload_n hx hb dL_law_747 rfl (lv_at hl 0 rfl) ?_
  refine lv_iload_n hx hb dL_law_748 rfl (lv_at hl 3 rfl) ?_
  refine lv_iconst (v := 1) hx hb dL_law_749 (by decide) ?_
  refine lv_iadd hx hb dL_law_750 ?_
  refine va_sld hx hb hX hbl hbA hS (hv 1 (by decide)) dL_law_751 ?_
  refine lv_aload_n hx hb dL_law_752 rfl (lv_at hl 0 rfl) ?_
  refine lv_iload_n hx hb dL_law_753 rfl (lv_at hl 3 rfl) ?_
  refine lv_iconst (v := 2) hx hb dL_law_754 (by decide) ?_
  refine lv_iadd hx hb dL_law_755 ?_
  refine va_sld hx hb hX hbl hbA hS (hv 2 (by decide)) dL_law_756 ?_
  refine lv_aload_n hx hb dL_law_757 rfl (lv_at hl 0 rfl) ?_
  refine lv_iload_n hx hb dL_law_758 rfl (lv_at hl 3 rfl) ?_
  refine lv_iconst (v := 3) hx hb dL_law_759 (by decide) ?_
  refine lv_iadd hx hb dL_law_760 ?_
  refine va_sld hx hb hX hbl hbA hS (hv 3 (by decide)) dL_law_761 ?_
  obtain ⟨r, st1, st2, h1, h2, hI⟩ := hp (xs (v3 + 1).toNatClampNeg) (xs (v3 + 2).toNatClampNeg) (xs (v3 + 3).toNatClampNeg) st hI
  refine gcL_j (k := 2) (o := 0) (As := [.int (xs (v3 + 1).toNatClampNeg), .int (xs (v3 + 2).toNatClampNeg), .int (xs (v3 + 3).toNatClampNeg)]) (rest := []) hx hb hml hown hts hK hSt hP hS hl.1 hcl hsl (goodV wm_33_1 wm_33_2 wm_33_3 wm_1_2 wm_33_4) okX10_gain ct_0 rfl rfl (Nat.le_of_ble_eq_true rfl) (Nat.le_of_ble_eq_true rfl) rfl rfl (Nat.le_of_ble_eq_true rfl) dL_law_762 (kX10_gain l D G ad had n (xs (v3 + 1).toNatClampNeg) (xs (v3 + 2).toNatClampNeg) (xs (v3 + 3).toNatClampNeg) st (r, st1) h1) (fun H locs hP hS => ?_)
  refine lv_aload_n hx hb dL_law_765 rfl (lv_at hl 2 rfl) ?_
  refine lv_aload_n hx hb dL_law_766 rfl (lv_at hl 0 rfl) ?_
  refine lv_iload_n hx hb dL_law_767 rfl (lv_at hl 3 rfl) ?_
  refine lv_iconst (v := 1) hx hb dL_law_768 (by decide) ?_
  refine lv_iadd hx hb dL_law_769 ?_
  refine va_sld hx hb hX hbl hbA hS (hv 1 (by decide)) dL_law_770 ?_
  refine lv_aload_n hx hb dL_law_771 rfl (lv_at hl 0 rfl) ?_
  refine lv_iload_n hx hb dL_law_772 rfl (lv_at hl 3 rfl) ?_
  refine lv_iconst (v := 2) hx hb dL_law_773 (by decide) ?_
  refine lv_iadd hx hb dL_law_774 ?_
  refine va_sld hx hb hX hbl hbA hS (hv 2 (by decide)) dL_law_775 ?_
  refine lv_aload_n hx hb dL_law_776 rfl (lv_at hl 0 rfl) ?_
  refine lv_iload_n hx hb dL_law_777 rfl (lv_at hl 3 rfl) ?_
  refine lv_iconst (v := 3) hx hb dL_law_778 (by decide) ?_
  refine lv_iadd hx hb dL_law_779 ?_
  refine va_sld hx hb hX hbl hbA hS (hv 3 (by decide)) dL_law_780 ?_
  refine gcL_j (k := 3) (o := 130) (As := [.int (xs (v3 + 1).toNatClampNeg), .int (xs (v3 + 2).toNatClampNeg), .int (xs (v3 + 3).toNatClampNeg)]) (rest := [.long r]) hx hb hml hown hts hK hSt hP hS hl.1 hcl hsl (goodV wm_34_3 wm_34_4 wm_34_5 wm_1_5 wm_34_6) okX11_gain ct_130 rfl rfl (Nat.le_of_ble_eq_true rfl) (Nat.le_of_ble_eq_true rfl) rfl rfl (Nat.le_of_ble_eq_true rfl) dL_law_781 (kX11_gain l D G ad had n (xs (v3 + 1).toNatClampNeg) (xs (v3 + 2).toNatClampNeg) (xs (v3 + 3).toNatClampNeg) st1 (r, st2) h2) (fun H locs hP hS => ?_)
  refine g_lcmp_eq (tgt := 1578) hx hb dL_law_784 dL_law_785 (by decide) (fun q => ?_) (fun q => absurd rfl q)
  exact hnext st2 hI H locs ls hl hP hS
end
def SP_straight (n : Nat) (Inv : St → Prop) : Prop := ∀ (a0 : Int32) (a1 : Int32) (a2 : Int32) (st : St), Inv st → ∃ (r : Int32) (st1 st2 : St), fX10_straight n a0 a1 a2 st = some (r, st1) ∧ fX11_straight n a0 a1 a2 st1 = some (r, st2) ∧ Inv st2
section
variable {p : Program} {l : Launch} {e : Env} {s : State} {m : MethodId} {below : List Frame} {meth : Method} {c : Code} {D : va_G} {G : G3} {ad : Nat → Nat} {b Ln : Nat} {xs : Nat → Int32} {Q : State → Prop} {cells slots : Nat}
set_option maxHeartbeats 4000000 in
set_option maxRecDepth 100000 in
theorem lwc_straight (C : LCx p s m c b Ln xs D G ad) (hcl : cells ≤ 600000) (hsl : slots ≤ 7302250) (n : Nat) (Inv : St → Prop) (hp : SP_straight n Inv) (v3 : Int32) (hv : ∀ k : Nat, k < 8 → vp_in (v3 + nI k) Ln) (hnext : ∀ st2 : St, Inv st2 → LAt p l e s m below meth c D G ad b cells slots Q st2 [(0, .ref b), (1, .ref (ad 0)), (2, .ref (ad 130)), (3, .int v3)] 1578 []) (st : St) (hI : Inv st) : LAt p l e s m below meth c D G ad b cells slots Q st [(0, .ref b), (1, .ref (ad 0)), (2, .ref (ad 130)), (3, .int v3)] 790 [] := by
  obtain ⟨hx, hb, hml, hown, hts, hK, had, hSt, hX, hbl, hbA⟩ := id C
  intro H locs ls hl hP hS
  refine lv_aload_n hx hb dL_law_790 rfl (lv_at hl 1 rfl) ?_
  refine lv_aload_n hx hb dL_law_791 rfl (lv_at hl 0 rfl) ?_
  refine lv_iload_n hx hb dL_law_792 rfl (lv_at hl 3 rfl) ?_
  refine lv_iconst (v := 1) hx hb dL_law_793 (by decide) ?_
  refine lv_iadd hx hb dL_law_794 ?_
  refine va_sld hx hb hX hbl hbA hS (hv 1 (by decide)) dL_law_795 ?_
  refine lv_aload_n hx hb dL_law_796 rfl (lv_at hl 0 rfl) ?_
  refine lv_iload_n hx hb dL_law_797 rfl (lv_at hl 3 rfl) ?_
  refine lv_iconst (v := 2) hx hb dL_law_798 (by decide) ?_
  refine lv_iadd hx hb dL_law_799 ?_
  refine va_sld hx hb hX hbl hbA hS (hv 2 (by decide)) dL_law_800 ?_
  refine lv_aload_n hx hb dL_law_801 rfl (lv_at hl 0 rfl) ?_
  refine lv_iload_n hx hb dL_law_802 rfl (lv_at hl 3 rfl) ?_
  refine lv_iconst (v := 3) hx hb dL_law_803 (by decide) ?_
  refine lv_iadd hx hb dL_law_804 ?_
  refine va_sld hx hb hX hbl hbA hS (hv 3 (by decide)) dL_law_805 ?_
  obtain ⟨r, st1, st2, h1, h2, hI⟩ := hp (xs (v3 + 1).toNatClampNeg) (xs (v3 + 2).toNatClampNeg) (xs (v3 + 3).toNatClampNeg) st hI
  refine gcL_i (k := 2) (o := 0) (As := [.int (xs (v3 + 1).toNatClampNeg), .int (xs (v3 + 2).toNatClampNeg), .int (xs (v3 + 3).toNatClampNeg)]) (rest := []) hx hb hml hown hts hK hSt hP hS hl.1 hcl hsl (goodV wm_34_12 wm_34_13 wm_34_14 wm_1_2 wm_34_15) okX10_straight ct_0 rfl rfl (Nat.le_of_ble_eq_true rfl) (Nat.le_of_ble_eq_true rfl) rfl rfl (Nat.le_of_ble_eq_true rfl) dL_law_806 (kX10_straight l D G ad had n (xs (v3 + 1).toNatClampNeg) (xs (v3 + 2).toNatClampNeg) (xs (v3 + 3).toNatClampNeg) st (r, st1) h1) (fun H locs hP hS => ?_)
  refine lv_aload_n hx hb dL_law_809 rfl (lv_at hl 2 rfl) ?_
  refine lv_aload_n hx hb dL_law_810 rfl (lv_at hl 0 rfl) ?_
  refine lv_iload_n hx hb dL_law_811 rfl (lv_at hl 3 rfl) ?_
  refine lv_iconst (v := 1) hx hb dL_law_812 (by decide) ?_
  refine lv_iadd hx hb dL_law_813 ?_
  refine va_sld hx hb hX hbl hbA hS (hv 1 (by decide)) dL_law_814 ?_
  refine lv_aload_n hx hb dL_law_815 rfl (lv_at hl 0 rfl) ?_
  refine lv_iload_n hx hb dL_law_816 rfl (lv_at hl 3 rfl) ?_
  refine lv_iconst (v := 2) hx hb dL_law_817 (by decide) ?_
  refine lv_iadd hx hb dL_law_818 ?_
  refine va_sld hx hb hX hbl hbA hS (hv 2 (by decide)) dL_law_819 ?_
  refine lv_aload_n hx hb dL_law_820 rfl (lv_at hl 0 rfl) ?_
  refine lv_iload_n hx hb dL_law_821 rfl (lv_at hl 3 rfl) ?_
  refine lv_iconst (v := 3) hx hb dL_law_822 (by decide) ?_
  refine lv_iadd hx hb dL_law_823 ?_
  refine va_sld hx hb hX hbl hbA hS (hv 3 (by decide)) dL_law_824 ?_
  refine gcL_i (k := 2) (o := 130) (As := [.int (xs (v3 + 1).toNatClampNeg), .int (xs (v3 + 2).toNatClampNeg), .int (xs (v3 + 3).toNatClampNeg)]) (rest := [.int r]) hx hb hml hown hts hK hSt hP hS hl.1 hcl hsl (goodV wm_34_22 wm_34_23 wm_35_0 wm_1_5 wm_35_1) okX11_straight ct_130 rfl rfl (Nat.le_of_ble_eq_true rfl) (Nat.le_of_ble_eq_true rfl) rfl rfl (Nat.le_of_ble_eq_true rfl) dL_law_825 (kX11_straight l D G ad had n (xs (v3 + 1).toNatClampNeg) (xs (v3 + 2).toNatClampNeg) (xs (v3 + 3).toNatClampNeg) st1 (r, st2) h2) (fun H locs hP hS => ?_)
  refine lv_icmp_eq (tgt := 1578) hx hb dL_law_828 (by decide) (fun q => ?_) (fun q => absurd rfl q)
  exact hnext st2 hI H locs ls hl hP hS
end
def SP_echo (n : Nat) (Inv : St → Prop) : Prop := ∀ (a0 : Int32) (a1 : Int32) (st : St), Inv st → ∃ (r : Int64) (st1 st2 : St), fX10_echo n a0 a1 st = some (r, st1) ∧ fX11_echo n a0 a1 st1 = some (r, st2) ∧ Inv st2
section
variable {p : Program} {l : Launch} {e : Env} {s : State} {m : MethodId} {below : List Frame} {meth : Method} {c : Code} {D : va_G} {G : G3} {ad : Nat → Nat} {b Ln : Nat} {xs : Nat → Int32} {Q : State → Prop} {cells slots : Nat}
set_option maxHeartbeats 4000000 in
set_option maxRecDepth 100000 in
theorem lwc_echo (C : LCx p s m c b Ln xs D G ad) (hcl : cells ≤ 600000) (hsl : slots ≤ 7302250) (n : Nat) (Inv : St → Prop) (hp : SP_echo n Inv) (v3 : Int32) (hv : ∀ k : Nat, k < 8 → vp_in (v3 + nI k) Ln) (hnext : ∀ st2 : St, Inv st2 → LAt p l e s m below meth c D G ad b cells slots Q st2 [(0, .ref b), (1, .ref (ad 0)), (2, .ref (ad 130)), (3, .int v3)] 1578 []) (st : St) (hI : Inv st) : LAt p l e s m below meth c D G ad b cells slots Q st [(0, .ref b), (1, .ref (ad 0)), (2, .ref (ad 130)), (3, .int v3)] 833 [] := by
  obtain ⟨hx, hb, hml, hown, hts, hK, had, hSt, hX, hbl, hbA⟩ := id C
  intro H locs ls hl hP hS
  refine lv_aload_n hx hb dL_law_833 rfl (lv_at hl 1 rfl) ?_
  refine lv_aload_n hx hb dL_law_834 rfl (lv_at hl 0 rfl) ?_
  refine lv_iload_n hx hb dL_law_835 rfl (lv_at hl 3 rfl) ?_
  refine lv_iconst (v := 1) hx hb dL_law_836 (by decide) ?_
  refine lv_iadd hx hb dL_law_837 ?_
  refine va_sld hx hb hX hbl hbA hS (hv 1 (by decide)) dL_law_838 ?_
  refine lv_aload_n hx hb dL_law_839 rfl (lv_at hl 0 rfl) ?_
  refine lv_iload_n hx hb dL_law_840 rfl (lv_at hl 3 rfl) ?_
  refine lv_iconst (v := 2) hx hb dL_law_841 (by decide) ?_
  refine lv_iadd hx hb dL_law_842 ?_
  refine va_sld hx hb hX hbl hbA hS (hv 2 (by decide)) dL_law_843 ?_
  obtain ⟨r, st1, st2, h1, h2, hI⟩ := hp (xs (v3 + 1).toNatClampNeg) (xs (v3 + 2).toNatClampNeg) st hI
  refine gcL_j (k := 4) (o := 0) (As := [.int (xs (v3 + 1).toNatClampNeg), .int (xs (v3 + 2).toNatClampNeg)]) (rest := []) hx hb hml hown hts hK hSt hP hS hl.1 hcl hsl (goodV wm_35_5 wm_35_6 wm_35_7 wm_1_2 wm_35_8) okX10_echo ct_0 rfl rfl (Nat.le_of_ble_eq_true rfl) (Nat.le_of_ble_eq_true rfl) rfl rfl (Nat.le_of_ble_eq_true rfl) dL_law_844 (kX10_echo l D G ad had n (xs (v3 + 1).toNatClampNeg) (xs (v3 + 2).toNatClampNeg) st (r, st1) h1) (fun H locs hP hS => ?_)
  refine lv_aload_n hx hb dL_law_847 rfl (lv_at hl 2 rfl) ?_
  refine lv_aload_n hx hb dL_law_848 rfl (lv_at hl 0 rfl) ?_
  refine lv_iload_n hx hb dL_law_849 rfl (lv_at hl 3 rfl) ?_
  refine lv_iconst (v := 1) hx hb dL_law_850 (by decide) ?_
  refine lv_iadd hx hb dL_law_851 ?_
  refine va_sld hx hb hX hbl hbA hS (hv 1 (by decide)) dL_law_852 ?_
  refine lv_aload_n hx hb dL_law_853 rfl (lv_at hl 0 rfl) ?_
  refine lv_iload_n hx hb dL_law_854 rfl (lv_at hl 3 rfl) ?_
  refine lv_iconst (v := 2) hx hb dL_law_855 (by decide) ?_
  refine lv_iadd hx hb dL_law_856 ?_
  refine va_sld hx hb hX hbl hbA hS (hv 2 (by decide)) dL_law_857 ?_
  refine gcL_j (k := 4) (o := 130) (As := [.int (xs (v3 + 1).toNatClampNeg), .int (xs (v3 + 2).toNatClampNeg)]) (rest := [.long r]) hx hb hml hown hts hK hSt hP hS hl.1 hcl hsl (goodV wm_36_9 wm_36_10 wm_36_11 wm_1_5 wm_36_12) okX11_echo ct_130 rfl rfl (Nat.le_of_ble_eq_true rfl) (Nat.le_of_ble_eq_true rfl) rfl rfl (Nat.le_of_ble_eq_true rfl) dL_law_858 (kX11_echo l D G ad had n (xs (v3 + 1).toNatClampNeg) (xs (v3 + 2).toNatClampNeg) st1 (r, st2) h2) (fun H locs hP hS => ?_)
  refine g_lcmp_eq (tgt := 1578) hx hb dL_law_861 dL_law_862 (by decide) (fun q => ?_) (fun q => absurd rfl q)
  exact hnext st2 hI H locs ls hl hP hS
end
def SP_pole (n : Nat) (Inv : St → Prop) : Prop := ∀ (a0 : Int32) (a1 : Int32) (a2 : Int32) (st : St), Inv st → ∃ (r : Int64) (st1 st2 : St), fX10_pole n a0 a1 a2 st = some (r, st1) ∧ fX11_pole n a0 a1 a2 st1 = some (r, st2) ∧ Inv st2
section
variable {p : Program} {l : Launch} {e : Env} {s : State} {m : MethodId} {below : List Frame} {meth : Method} {c : Code} {D : va_G} {G : G3} {ad : Nat → Nat} {b Ln : Nat} {xs : Nat → Int32} {Q : State → Prop} {cells slots : Nat}
set_option maxHeartbeats 4000000 in
set_option maxRecDepth 100000 in
theorem lwc_pole (C : LCx p s m c b Ln xs D G ad) (hcl : cells ≤ 600000) (hsl : slots ≤ 7302250) (n : Nat) (Inv : St → Prop) (hp : SP_pole n Inv) (v3 : Int32) (hv : ∀ k : Nat, k < 8 → vp_in (v3 + nI k) Ln) (hnext : ∀ st2 : St, Inv st2 → LAt p l e s m below meth c D G ad b cells slots Q st2 [(0, .ref b), (1, .ref (ad 0)), (2, .ref (ad 130)), (3, .int v3)] 1578 []) (st : St) (hI : Inv st) : LAt p l e s m below meth c D G ad b cells slots Q st [(0, .ref b), (1, .ref (ad 0)), (2, .ref (ad 130)), (3, .int v3)] 867 [] := by
  obtain ⟨hx, hb, hml, hown, hts, hK, had, hSt, hX, hbl, hbA⟩ := id C
  intro H locs ls hl hP hS
  refine lv_aload_n hx hb dL_law_867 rfl (lv_at hl 1 rfl) ?_
  refine lv_aload_n hx hb dL_law_868 rfl (lv_at hl 0 rfl) ?_
  refine lv_iload_n hx hb dL_law_869 rfl (lv_at hl 3 rfl) ?_
  refine lv_iconst (v := 1) hx hb dL_law_870 (by decide) ?_
  refine lv_iadd hx hb dL_law_871 ?_
  refine va_sld hx hb hX hbl hbA hS (hv 1 (by decide)) dL_law_872 ?_
  refine lv_aload_n hx hb dL_law_873 rfl (lv_at hl 0 rfl) ?_
  refine lv_iload_n hx hb dL_law_874 rfl (lv_at hl 3 rfl) ?_
  refine lv_iconst (v := 2) hx hb dL_law_875 (by decide) ?_
  refine lv_iadd hx hb dL_law_876 ?_
  refine va_sld hx hb hX hbl hbA hS (hv 2 (by decide)) dL_law_877 ?_
  refine lv_aload_n hx hb dL_law_878 rfl (lv_at hl 0 rfl) ?_
  refine lv_iload_n hx hb dL_law_879 rfl (lv_at hl 3 rfl) ?_
  refine lv_iconst (v := 3) hx hb dL_law_880 (by decide) ?_
  refine lv_iadd hx hb dL_law_881 ?_
  refine va_sld hx hb hX hbl hbA hS (hv 3 (by decide)) dL_law_882 ?_
  obtain ⟨r, st1, st2, h1, h2, hI⟩ := hp (xs (v3 + 1).toNatClampNeg) (xs (v3 + 2).toNatClampNeg) (xs (v3 + 3).toNatClampNeg) st hI
  refine gcL_j (k := 5) (o := 0) (As := [.int (xs (v3 + 1).toNatClampNeg), .int (xs (v3 + 2).toNatClampNeg), .int (xs (v3 + 3).toNatClampNeg)]) (rest := []) hx hb hml hown hts hK hSt hP hS hl.1 hcl hsl (goodV wm_37_13 wm_37_14 wm_37_15 wm_1_2 wm_37_16) okX10_pole ct_0 rfl rfl (Nat.le_of_ble_eq_true rfl) (Nat.le_of_ble_eq_true rfl) rfl rfl (Nat.le_of_ble_eq_true rfl) dL_law_883 (kX10_pole l D G ad had n (xs (v3 + 1).toNatClampNeg) (xs (v3 + 2).toNatClampNeg) (xs (v3 + 3).toNatClampNeg) st (r, st1) h1) (fun H locs hP hS => ?_)
  refine lv_aload_n hx hb dL_law_886 rfl (lv_at hl 2 rfl) ?_
  refine lv_aload_n hx hb dL_law_887 rfl (lv_at hl 0 rfl) ?_
  refine lv_iload_n hx hb dL_law_888 rfl (lv_at hl 3 rfl) ?_
  refine lv_iconst (v := 1) hx hb dL_law_889 (by decide) ?_
  refine lv_iadd hx hb dL_law_890 ?_
  refine va_sld hx hb hX hbl hbA hS (hv 1 (by decide)) dL_law_891 ?_
  refine lv_aload_n hx hb dL_law_892 rfl (lv_at hl 0 rfl) ?_
  refine lv_iload_n hx hb dL_law_893 rfl (lv_at hl 3 rfl) ?_
  refine lv_iconst (v := 2) hx hb dL_law_894 (by decide) ?_
  refine lv_iadd hx hb dL_law_895 ?_
  refine va_sld hx hb hX hbl hbA hS (hv 2 (by decide)) dL_law_896 ?_
  refine lv_aload_n hx hb dL_law_897 rfl (lv_at hl 0 rfl) ?_
  refine lv_iload_n hx hb dL_law_898 rfl (lv_at hl 3 rfl) ?_
  refine lv_iconst (v := 3) hx hb dL_law_899 (by decide) ?_
  refine lv_iadd hx hb dL_law_900 ?_
  refine va_sld hx hb hX hbl hbA hS (hv 3 (by decide)) dL_law_901 ?_
  refine gcL_j (k := 4) (o := 130) (As := [.int (xs (v3 + 1).toNatClampNeg), .int (xs (v3 + 2).toNatClampNeg), .int (xs (v3 + 3).toNatClampNeg)]) (rest := [.long r]) hx hb hml hown hts hK hSt hP hS hl.1 hcl hsl (goodV wm_38_6 wm_38_7 wm_38_8 wm_1_5 wm_38_9) okX11_pole ct_130 rfl rfl (Nat.le_of_ble_eq_true rfl) (Nat.le_of_ble_eq_true rfl) rfl rfl (Nat.le_of_ble_eq_true rfl) dL_law_902 (kX11_pole l D G ad had n (xs (v3 + 1).toNatClampNeg) (xs (v3 + 2).toNatClampNeg) (xs (v3 + 3).toNatClampNeg) st1 (r, st2) h2) (fun H locs hP hS => ?_)
  refine g_lcmp_eq (tgt := 1578) hx hb dL_law_905 dL_law_906 (by decide) (fun q => ?_) (fun q => absurd rfl q)
  exact hnext st2 hI H locs ls hl hP hS
end
def SP_loud (n : Nat) (Inv : St → Prop) : Prop := ∀ (a0 : Int32) (a1 : Int32) (st : St), Inv st → ∃ (r : Int64) (st1 st2 : St), fX10_loud n a0 a1 st = some (r, st1) ∧ fX11_loud n a0 a1 st1 = some (r, st2) ∧ Inv st2
section
variable {p : Program} {l : Launch} {e : Env} {s : State} {m : MethodId} {below : List Frame} {meth : Method} {c : Code} {D : va_G} {G : G3} {ad : Nat → Nat} {b Ln : Nat} {xs : Nat → Int32} {Q : State → Prop} {cells slots : Nat}
set_option maxHeartbeats 4000000 in
set_option maxRecDepth 100000 in
theorem lwc_loud (C : LCx p s m c b Ln xs D G ad) (hcl : cells ≤ 600000) (hsl : slots ≤ 7302250) (n : Nat) (Inv : St → Prop) (hp : SP_loud n Inv) (v3 : Int32) (hv : ∀ k : Nat, k < 8 → vp_in (v3 + nI k) Ln) (hnext : ∀ st2 : St, Inv st2 → LAt p l e s m below meth c D G ad b cells slots Q st2 [(0, .ref b), (1, .ref (ad 0)), (2, .ref (ad 130)), (3, .int v3)] 1578 []) (st : St) (hI : Inv st) : LAt p l e s m below meth c D G ad b cells slots Q st [(0, .ref b), (1, .ref (ad 0)), (2, .ref (ad 130)), (3, .int v3)] 911 [] := by
  obtain ⟨hx, hb, hml, hown, hts, hK, had, hSt, hX, hbl, hbA⟩ := id C
  intro H locs ls hl hP hS
  refine lv_aload_n hx hb dL_law_911 rfl (lv_at hl 1 rfl) ?_
  refine lv_aload_n hx hb dL_law_912 rfl (lv_at hl 0 rfl) ?_
  refine lv_iload_n hx hb dL_law_913 rfl (lv_at hl 3 rfl) ?_
  refine lv_iconst (v := 1) hx hb dL_law_914 (by decide) ?_
  refine lv_iadd hx hb dL_law_915 ?_
  refine va_sld hx hb hX hbl hbA hS (hv 1 (by decide)) dL_law_916 ?_
  refine lv_aload_n hx hb dL_law_917 rfl (lv_at hl 0 rfl) ?_
  refine lv_iload_n hx hb dL_law_918 rfl (lv_at hl 3 rfl) ?_
  refine lv_iconst (v := 2) hx hb dL_law_919 (by decide) ?_
  refine lv_iadd hx hb dL_law_920 ?_
  refine va_sld hx hb hX hbl hbA hS (hv 2 (by decide)) dL_law_921 ?_
  obtain ⟨r, st1, st2, h1, h2, hI⟩ := hp (xs (v3 + 1).toNatClampNeg) (xs (v3 + 2).toNatClampNeg) st hI
  refine gcL_j (k := 5) (o := 0) (As := [.int (xs (v3 + 1).toNatClampNeg), .int (xs (v3 + 2).toNatClampNeg)]) (rest := []) hx hb hml hown hts hK hSt hP hS hl.1 hcl hsl (goodV wm_38_14 wm_38_15 wm_38_16 wm_1_2 wm_38_17) okX10_loud ct_0 rfl rfl (Nat.le_of_ble_eq_true rfl) (Nat.le_of_ble_eq_true rfl) rfl rfl (Nat.le_of_ble_eq_true rfl) dL_law_922 (kX10_loud l D G ad had n (xs (v3 + 1).toNatClampNeg) (xs (v3 + 2).toNatClampNeg) st (r, st1) h1) (fun H locs hP hS => ?_)
  refine lv_aload_n hx hb dL_law_925 rfl (lv_at hl 2 rfl) ?_
  refine lv_aload_n hx hb dL_law_926 rfl (lv_at hl 0 rfl) ?_
  refine lv_iload_n hx hb dL_law_927 rfl (lv_at hl 3 rfl) ?_
  refine lv_iconst (v := 1) hx hb dL_law_928 (by decide) ?_
  refine lv_iadd hx hb dL_law_929 ?_
  refine va_sld hx hb hX hbl hbA hS (hv 1 (by decide)) dL_law_930 ?_
  refine lv_aload_n hx hb dL_law_931 rfl (lv_at hl 0 rfl) ?_
  refine lv_iload_n hx hb dL_law_932 rfl (lv_at hl 3 rfl) ?_
  refine lv_iconst (v := 2) hx hb dL_law_933 (by decide) ?_
  refine lv_iadd hx hb dL_law_934 ?_
  refine va_sld hx hb hX hbl hbA hS (hv 2 (by decide)) dL_law_935 ?_
  refine gcL_j (k := 4) (o := 130) (As := [.int (xs (v3 + 1).toNatClampNeg), .int (xs (v3 + 2).toNatClampNeg)]) (rest := [.long r]) hx hb hml hown hts hK hSt hP hS hl.1 hcl hsl (goodV wm_38_22 wm_38_23 wm_39_0 wm_1_5 wm_39_1) okX11_loud ct_130 rfl rfl (Nat.le_of_ble_eq_true rfl) (Nat.le_of_ble_eq_true rfl) rfl rfl (Nat.le_of_ble_eq_true rfl) dL_law_936 (kX11_loud l D G ad had n (xs (v3 + 1).toNatClampNeg) (xs (v3 + 2).toNatClampNeg) st1 (r, st2) h2) (fun H locs hP hS => ?_)
  refine g_lcmp_eq (tgt := 1578) hx hb dL_law_939 dL_law_940 (by decide) (fun q => ?_) (fun q => absurd rfl q)
  exact hnext st2 hI H locs ls hl hP hS
end
def SP_steady (n : Nat) (Inv : St → Prop) : Prop := ∀ (a0 : Int64) (a1 : Int32) (st : St), Inv st → ∃ (r : Int32) (st1 st2 : St), fX10_steady n a0 a1 st = some (r, st1) ∧ fX11_steady n a0 a1 st1 = some (r, st2) ∧ Inv st2
section
variable {p : Program} {l : Launch} {e : Env} {s : State} {m : MethodId} {below : List Frame} {meth : Method} {c : Code} {D : va_G} {G : G3} {ad : Nat → Nat} {b Ln : Nat} {xs : Nat → Int32} {Q : State → Prop} {cells slots : Nat}
set_option maxHeartbeats 4000000 in
set_option maxRecDepth 100000 in
theorem lwc_steady (C : LCx p s m c b Ln xs D G ad) (hcl : cells ≤ 600000) (hsl : slots ≤ 7302250) (n : Nat) (Inv : St → Prop) (hp : SP_steady n Inv) (v3 : Int32) (hv : ∀ k : Nat, k < 8 → vp_in (v3 + nI k) Ln) (hnext : ∀ st2 : St, Inv st2 → LAt p l e s m below meth c D G ad b cells slots Q st2 [(0, .ref b), (1, .ref (ad 0)), (2, .ref (ad 130)), (3, .int v3)] 1578 []) (st : St) (hI : Inv st) : LAt p l e s m below meth c D G ad b cells slots Q st [(0, .ref b), (1, .ref (ad 0)), (2, .ref (ad 130)), (3, .int v3)] 945 [] := by
  obtain ⟨hx, hb, hml, hown, hts, hK, had, hSt, hX, hbl, hbA⟩ := id C
  intro H locs ls hl hP hS
  refine lv_aload_n hx hb dL_law_945 rfl (lv_at hl 1 rfl) ?_
  refine lv_aload_n hx hb dL_law_946 rfl (lv_at hl 0 rfl) ?_
  refine lv_iload_n hx hb dL_law_947 rfl (lv_at hl 3 rfl) ?_
  refine lv_iconst (v := 1) hx hb dL_law_948 (by decide) ?_
  refine lv_iadd hx hb dL_law_949 ?_
  refine va_sld hx hb hX hbl hbA hS (hv 1 (by decide)) dL_law_950 ?_
  refine lv_i2l hx hb dL_law_951 rfl ?_
  refine lv_bipush (v := 32) hx hb dL_law_952 (by decide) ?_
  refine lv_lshl hx hb dL_law_954 rfl ?_
  refine lv_aload_n hx hb dL_law_955 rfl (lv_at hl 0 rfl) ?_
  refine lv_iload_n hx hb dL_law_956 rfl (lv_at hl 3 rfl) ?_
  refine lv_iconst (v := 2) hx hb dL_law_957 (by decide) ?_
  refine lv_iadd hx hb dL_law_958 ?_
  refine va_sld hx hb hX hbl hbA hS (hv 2 (by decide)) dL_law_959 ?_
  refine lv_i2l hx hb dL_law_960 rfl ?_
  refine lv_ldc2 hx hb hown (hts _ wm_1_6) dL_law_961 ?_
  refine lv_land hx hb dL_law_964 ?_
  refine lv_lor hx hb dL_law_965 ?_
  refine lv_aload_n hx hb dL_law_966 rfl (lv_at hl 0 rfl) ?_
  refine lv_iload_n hx hb dL_law_967 rfl (lv_at hl 3 rfl) ?_
  refine lv_iconst (v := 3) hx hb dL_law_968 (by decide) ?_
  refine lv_iadd hx hb dL_law_969 ?_
  refine va_sld hx hb hX hbl hbA hS (hv 3 (by decide)) dL_law_970 ?_
  obtain ⟨r, st1, st2, h1, h2, hI⟩ := hp (((xs (v3 + 1).toNatClampNeg).toInt64 <<< ((32 : Int32).toInt64 &&& 63)) ||| ((xs (v3 + 2).toNatClampNeg).toInt64 &&& 4294967295)) (xs (v3 + 3).toNatClampNeg) st hI
  refine gcL_i (k := 1) (o := 0) (As := [.long (((xs (v3 + 1).toNatClampNeg).toInt64 <<< ((32 : Int32).toInt64 &&& 63)) ||| ((xs (v3 + 2).toNatClampNeg).toInt64 &&& 4294967295)), .int (xs (v3 + 3).toNatClampNeg)]) (rest := []) hx hb hml hown hts hK hSt hP hS hl.1 hcl hsl (goodV wm_39_2 wm_39_3 wm_39_4 wm_1_2 wm_39_5) okX10_steady ct_0 rfl rfl (Nat.le_of_ble_eq_true rfl) (Nat.le_of_ble_eq_true rfl) rfl rfl (Nat.le_of_ble_eq_true rfl) dL_law_971 (kX10_steady l D G ad had n (((xs (v3 + 1).toNatClampNeg).toInt64 <<< ((32 : Int32).toInt64 &&& 63)) ||| ((xs (v3 + 2).toNatClampNeg).toInt64 &&& 4294967295)) (xs (v3 + 3).toNatClampNeg) st (r, st1) h1) (fun H locs hP hS => ?_)
  refine lv_aload_n hx hb dL_law_974 rfl (lv_at hl 2 rfl) ?_
  refine lv_aload_n hx hb dL_law_975 rfl (lv_at hl 0 rfl) ?_
  refine lv_iload_n hx hb dL_law_976 rfl (lv_at hl 3 rfl) ?_
  refine lv_iconst (v := 1) hx hb dL_law_977 (by decide) ?_
  refine lv_iadd hx hb dL_law_978 ?_
  refine va_sld hx hb hX hbl hbA hS (hv 1 (by decide)) dL_law_979 ?_
  refine lv_i2l hx hb dL_law_980 rfl ?_
  refine lv_bipush (v := 32) hx hb dL_law_981 (by decide) ?_
  refine lv_lshl hx hb dL_law_983 rfl ?_
  refine lv_aload_n hx hb dL_law_984 rfl (lv_at hl 0 rfl) ?_
  refine lv_iload_n hx hb dL_law_985 rfl (lv_at hl 3 rfl) ?_
  refine lv_iconst (v := 2) hx hb dL_law_986 (by decide) ?_
  refine lv_iadd hx hb dL_law_987 ?_
  refine va_sld hx hb hX hbl hbA hS (hv 2 (by decide)) dL_law_988 ?_
  refine lv_i2l hx hb dL_law_989 rfl ?_
  refine lv_ldc2 hx hb hown (hts _ wm_1_6) dL_law_990 ?_
  refine lv_land hx hb dL_law_993 ?_
  refine lv_lor hx hb dL_law_994 ?_
  refine lv_aload_n hx hb dL_law_995 rfl (lv_at hl 0 rfl) ?_
  refine lv_iload_n hx hb dL_law_996 rfl (lv_at hl 3 rfl) ?_
  refine lv_iconst (v := 3) hx hb dL_law_997 (by decide) ?_
  refine lv_iadd hx hb dL_law_998 ?_
  refine va_sld hx hb hX hbl hbA hS (hv 3 (by decide)) dL_law_999 ?_
  refine gcL_i (k := 1) (o := 130) (As := [.long (((xs (v3 + 1).toNatClampNeg).toInt64 <<< ((32 : Int32).toInt64 &&& 63)) ||| ((xs (v3 + 2).toNatClampNeg).toInt64 &&& 4294967295)), .int (xs (v3 + 3).toNatClampNeg)]) (rest := [.int r]) hx hb hml hown hts hK hSt hP hS hl.1 hcl hsl (goodV wm_39_14 wm_39_15 wm_39_16 wm_1_5 wm_39_17) okX11_steady ct_130 rfl rfl (Nat.le_of_ble_eq_true rfl) (Nat.le_of_ble_eq_true rfl) rfl rfl (Nat.le_of_ble_eq_true rfl) dL_law_1000 (kX11_steady l D G ad had n (((xs (v3 + 1).toNatClampNeg).toInt64 <<< ((32 : Int32).toInt64 &&& 63)) ||| ((xs (v3 + 2).toNatClampNeg).toInt64 &&& 4294967295)) (xs (v3 + 3).toNatClampNeg) st1 (r, st2) h2) (fun H locs hP hS => ?_)
  refine lv_icmp_eq (tgt := 1578) hx hb dL_law_1003 (by decide) (fun q => ?_) (fun q => absurd rfl q)
  exact hnext st2 hI H locs ls hl hP hS
end
def SP_chances (n : Nat) (Inv : St → Prop) : Prop := ∀ (a0 : Int32) (st : St), Inv st → ∃ (r : Int32) (st1 st2 : St), fX10_chances n a0 st = some (r, st1) ∧ fX11_chances n a0 st1 = some (r, st2) ∧ Inv st2
section
variable {p : Program} {l : Launch} {e : Env} {s : State} {m : MethodId} {below : List Frame} {meth : Method} {c : Code} {D : va_G} {G : G3} {ad : Nat → Nat} {b Ln : Nat} {xs : Nat → Int32} {Q : State → Prop} {cells slots : Nat}
set_option maxHeartbeats 4000000 in
set_option maxRecDepth 100000 in
theorem lwc_chances (C : LCx p s m c b Ln xs D G ad) (hcl : cells ≤ 600000) (hsl : slots ≤ 7302250) (n : Nat) (Inv : St → Prop) (hp : SP_chances n Inv) (v3 : Int32) (hv : ∀ k : Nat, k < 8 → vp_in (v3 + nI k) Ln) (hnext : ∀ st2 : St, Inv st2 → LAt p l e s m below meth c D G ad b cells slots Q st2 [(0, .ref b), (1, .ref (ad 0)), (2, .ref (ad 130)), (3, .int v3)] 1578 []) (st : St) (hI : Inv st) : LAt p l e s m below meth c D G ad b cells slots Q st [(0, .ref b), (1, .ref (ad 0)), (2, .ref (ad 130)), (3, .int v3)] 1008 [] := by
  obtain ⟨hx, hb, hml, hown, hts, hK, had, hSt, hX, hbl, hbA⟩ := id C
  intro H locs ls hl hP hS
  refine lv_aload_n hx hb dL_law_1008 rfl (lv_at hl 1 rfl) ?_
  refine lv_aload_n hx hb dL_law_1009 rfl (lv_at hl 0 rfl) ?_
  refine lv_iload_n hx hb dL_law_1010 rfl (lv_at hl 3 rfl) ?_
  refine lv_iconst (v := 1) hx hb dL_law_1011 (by decide) ?_
  refine lv_iadd hx hb dL_law_1012 ?_
  refine va_sld hx hb hX hbl hbA hS (hv 1 (by decide)) dL_law_1013 ?_
  obtain ⟨r, st1, st2, h1, h2, hI⟩ := hp (xs (v3 + 1).toNatClampNeg) st hI
  refine gcL_i (k := 1) (o := 0) (As := [.int (xs (v3 + 1).toNatClampNeg)]) (rest := []) hx hb hml hown hts hK hSt hP hS hl.1 hcl hsl (goodV wm_40_0 wm_40_1 wm_40_2 wm_1_2 wm_40_3) okX10_chances ct_0 rfl rfl (Nat.le_of_ble_eq_true rfl) (Nat.le_of_ble_eq_true rfl) rfl rfl (Nat.le_of_ble_eq_true rfl) dL_law_1014 (kX10_chances l D G ad had n (xs (v3 + 1).toNatClampNeg) st (r, st1) h1) (fun H locs hP hS => ?_)
  refine lv_aload_n hx hb dL_law_1017 rfl (lv_at hl 2 rfl) ?_
  refine lv_aload_n hx hb dL_law_1018 rfl (lv_at hl 0 rfl) ?_
  refine lv_iload_n hx hb dL_law_1019 rfl (lv_at hl 3 rfl) ?_
  refine lv_iconst (v := 1) hx hb dL_law_1020 (by decide) ?_
  refine lv_iadd hx hb dL_law_1021 ?_
  refine va_sld hx hb hX hbl hbA hS (hv 1 (by decide)) dL_law_1022 ?_
  refine gcL_i (k := 1) (o := 130) (As := [.int (xs (v3 + 1).toNatClampNeg)]) (rest := [.int r]) hx hb hml hown hts hK hSt hP hS hl.1 hcl hsl (goodV wm_40_6 wm_40_7 wm_40_8 wm_1_5 wm_40_9) okX11_chances ct_130 rfl rfl (Nat.le_of_ble_eq_true rfl) (Nat.le_of_ble_eq_true rfl) rfl rfl (Nat.le_of_ble_eq_true rfl) dL_law_1023 (kX11_chances l D G ad had n (xs (v3 + 1).toNatClampNeg) st1 (r, st2) h2) (fun H locs hP hS => ?_)
  refine lv_icmp_eq (tgt := 1578) hx hb dL_law_1026 (by decide) (fun q => ?_) (fun q => absurd rfl q)
  exact hnext st2 hI H locs ls hl hP hS
end
def SP_chance (n : Nat) (Inv : St → Prop) : Prop := ∀ (a0 : Int32) (a1 : Int32) (st : St), Inv st → ∃ (r : Int64) (st1 st2 : St), fX10_chance n a0 a1 st = some (r, st1) ∧ fX11_chance n a0 a1 st1 = some (r, st2) ∧ Inv st2
section
variable {p : Program} {l : Launch} {e : Env} {s : State} {m : MethodId} {below : List Frame} {meth : Method} {c : Code} {D : va_G} {G : G3} {ad : Nat → Nat} {b Ln : Nat} {xs : Nat → Int32} {Q : State → Prop} {cells slots : Nat}
set_option maxHeartbeats 4000000 in
set_option maxRecDepth 100000 in
theorem lwc_chance (C : LCx p s m c b Ln xs D G ad) (hcl : cells ≤ 600000) (hsl : slots ≤ 7302250) (n : Nat) (Inv : St → Prop) (hp : SP_chance n Inv) (v3 : Int32) (hv : ∀ k : Nat, k < 8 → vp_in (v3 + nI k) Ln) (hnext : ∀ st2 : St, Inv st2 → LAt p l e s m below meth c D G ad b cells slots Q st2 [(0, .ref b), (1, .ref (ad 0)), (2, .ref (ad 130)), (3, .int v3)] 1578 []) (st : St) (hI : Inv st) : LAt p l e s m below meth c D G ad b cells slots Q st [(0, .ref b), (1, .ref (ad 0)), (2, .ref (ad 130)), (3, .int v3)] 1031 [] := by
  obtain ⟨hx, hb, hml, hown, hts, hK, had, hSt, hX, hbl, hbA⟩ := id C
  intro H locs ls hl hP hS
  refine lv_aload_n hx hb dL_law_1031 rfl (lv_at hl 1 rfl) ?_
  refine lv_aload_n hx hb dL_law_1032 rfl (lv_at hl 0 rfl) ?_
  refine lv_iload_n hx hb dL_law_1033 rfl (lv_at hl 3 rfl) ?_
  refine lv_iconst (v := 1) hx hb dL_law_1034 (by decide) ?_
  refine lv_iadd hx hb dL_law_1035 ?_
  refine va_sld hx hb hX hbl hbA hS (hv 1 (by decide)) dL_law_1036 ?_
  refine lv_aload_n hx hb dL_law_1037 rfl (lv_at hl 0 rfl) ?_
  refine lv_iload_n hx hb dL_law_1038 rfl (lv_at hl 3 rfl) ?_
  refine lv_iconst (v := 2) hx hb dL_law_1039 (by decide) ?_
  refine lv_iadd hx hb dL_law_1040 ?_
  refine va_sld hx hb hX hbl hbA hS (hv 2 (by decide)) dL_law_1041 ?_
  obtain ⟨r, st1, st2, h1, h2, hI⟩ := hp (xs (v3 + 1).toNatClampNeg) (xs (v3 + 2).toNatClampNeg) st hI
  refine gcL_j (k := 1) (o := 0) (As := [.int (xs (v3 + 1).toNatClampNeg), .int (xs (v3 + 2).toNatClampNeg)]) (rest := []) hx hb hml hown hts hK hSt hP hS hl.1 hcl hsl (goodV wm_40_11 wm_40_12 wm_40_13 wm_1_2 wm_40_14) okX10_chance ct_0 rfl rfl (Nat.le_of_ble_eq_true rfl) (Nat.le_of_ble_eq_true rfl) rfl rfl (Nat.le_of_ble_eq_true rfl) dL_law_1042 (kX10_chance l D G ad had n (xs (v3 + 1).toNatClampNeg) (xs (v3 + 2).toNatClampNeg) st (r, st1) h1) (fun H locs hP hS => ?_)
  refine lv_aload_n hx hb dL_law_1045 rfl (lv_at hl 2 rfl) ?_
  refine lv_aload_n hx hb dL_law_1046 rfl (lv_at hl 0 rfl) ?_
  refine lv_iload_n hx hb dL_law_1047 rfl (lv_at hl 3 rfl) ?_
  refine lv_iconst (v := 1) hx hb dL_law_1048 (by decide) ?_
  refine lv_iadd hx hb dL_law_1049 ?_
  refine va_sld hx hb hX hbl hbA hS (hv 1 (by decide)) dL_law_1050 ?_
  refine lv_aload_n hx hb dL_law_1051 rfl (lv_at hl 0 rfl) ?_
  refine lv_iload_n hx hb dL_law_1052 rfl (lv_at hl 3 rfl) ?_
  refine lv_iconst (v := 2) hx hb dL_law_1053 (by decide) ?_
  refine lv_iadd hx hb dL_law_1054 ?_
  refine va_sld hx hb hX hbl hbA hS (hv 2 (by decide)) dL_law_1055 ?_
  refine gcL_j (k := 1) (o := 130) (As := [.int (xs (v3 + 1).toNatClampNeg), .int (xs (v3 + 2).toNatClampNeg)]) (rest := [.long r]) hx hb hml hown hts hK hSt hP hS hl.1 hcl hsl (goodV wm_40_20 wm_40_21 wm_40_22 wm_1_5 wm_40_23) okX11_chance ct_130 rfl rfl (Nat.le_of_ble_eq_true rfl) (Nat.le_of_ble_eq_true rfl) rfl rfl (Nat.le_of_ble_eq_true rfl) dL_law_1056 (kX11_chance l D G ad had n (xs (v3 + 1).toNatClampNeg) (xs (v3 + 2).toNatClampNeg) st1 (r, st2) h2) (fun H locs hP hS => ?_)
  refine g_lcmp_eq (tgt := 1578) hx hb dL_law_1059 dL_law_1060 (by decide) (fun q => ?_) (fun q => absurd rfl q)
  exact hnext st2 hI H locs ls hl hP hS
end
def SP_level (n : Nat) (Inv : St → Prop) : Prop := ∀ (a0 : Int32) (a1 : Int32) (a2 : Int32) (st : St), Inv st → ∃ (r : Int32) (st1 st2 : St), fX10_level n a0 a1 a2 st = some (r, st1) ∧ fX11_level n a0 a1 a2 st1 = some (r, st2) ∧ Inv st2
section
variable {p : Program} {l : Launch} {e : Env} {s : State} {m : MethodId} {below : List Frame} {meth : Method} {c : Code} {D : va_G} {G : G3} {ad : Nat → Nat} {b Ln : Nat} {xs : Nat → Int32} {Q : State → Prop} {cells slots : Nat}
set_option maxHeartbeats 4000000 in
set_option maxRecDepth 100000 in
theorem lwc_level (C : LCx p s m c b Ln xs D G ad) (hcl : cells ≤ 600000) (hsl : slots ≤ 7302250) (n : Nat) (Inv : St → Prop) (hp : SP_level n Inv) (v3 : Int32) (hv : ∀ k : Nat, k < 8 → vp_in (v3 + nI k) Ln) (hnext : ∀ st2 : St, Inv st2 → LAt p l e s m below meth c D G ad b cells slots Q st2 [(0, .ref b), (1, .ref (ad 0)), (2, .ref (ad 130)), (3, .int v3)] 1578 []) (st : St) (hI : Inv st) : LAt p l e s m below meth c D G ad b cells slots Q st [(0, .ref b), (1, .ref (ad 0)), (2, .ref (ad 130)), (3, .int v3)] 1065 [] := by
  obtain ⟨hx, hb, hml, hown, hts, hK, had, hSt, hX, hbl, hbA⟩ := id C
  intro H locs ls hl hP hS
  refine lv_aload_n hx hb dL_law_1065 rfl (lv_at hl 1 rfl) ?_
  refine lv_aload_n hx hb dL_law_1066 rfl (lv_at hl 0 rfl) ?_
  refine lv_iload_n hx hb dL_law_1067 rfl (lv_at hl 3 rfl) ?_
  refine lv_iconst (v := 1) hx hb dL_law_1068 (by decide) ?_
  refine lv_iadd hx hb dL_law_1069 ?_
  refine va_sld hx hb hX hbl hbA hS (hv 1 (by decide)) dL_law_1070 ?_
  refine lv_aload_n hx hb dL_law_1071 rfl (lv_at hl 0 rfl) ?_
  refine lv_iload_n hx hb dL_law_1072 rfl (lv_at hl 3 rfl) ?_
  refine lv_iconst (v := 2) hx hb dL_law_1073 (by decide) ?_
  refine lv_iadd hx hb dL_law_1074 ?_
  refine va_sld hx hb hX hbl hbA hS (hv 2 (by decide)) dL_law_1075 ?_
  refine lv_aload_n hx hb dL_law_1076 rfl (lv_at hl 0 rfl) ?_
  refine lv_iload_n hx hb dL_law_1077 rfl (lv_at hl 3 rfl) ?_
  refine lv_iconst (v := 3) hx hb dL_law_1078 (by decide) ?_
  refine lv_iadd hx hb dL_law_1079 ?_
  refine va_sld hx hb hX hbl hbA hS (hv 3 (by decide)) dL_law_1080 ?_
  obtain ⟨r, st1, st2, h1, h2, hI⟩ := hp (xs (v3 + 1).toNatClampNeg) (xs (v3 + 2).toNatClampNeg) (xs (v3 + 3).toNatClampNeg) st hI
  refine gcL_i (k := 4) (o := 0) (As := [.int (xs (v3 + 1).toNatClampNeg), .int (xs (v3 + 2).toNatClampNeg), .int (xs (v3 + 3).toNatClampNeg)]) (rest := []) hx hb hml hown hts hK hSt hP hS hl.1 hcl hsl (goodV wm_41_4 wm_41_5 wm_41_6 wm_1_2 wm_41_7) okX10_level ct_0 rfl rfl (Nat.le_of_ble_eq_true rfl) (Nat.le_of_ble_eq_true rfl) rfl rfl (Nat.le_of_ble_eq_true rfl) dL_law_1081 (kX10_level l D G ad had n (xs (v3 + 1).toNatClampNeg) (xs (v3 + 2).toNatClampNeg) (xs (v3 + 3).toNatClampNeg) st (r, st1) h1) (fun H locs hP hS => ?_)
  refine lv_aload_n hx hb dL_law_1084 rfl (lv_at hl 2 rfl) ?_
  refine lv_aload_n hx hb dL_law_1085 rfl (lv_at hl 0 rfl) ?_
  refine lv_iload_n hx hb dL_law_1086 rfl (lv_at hl 3 rfl) ?_
  refine lv_iconst (v := 1) hx hb dL_law_1087 (by decide) ?_
  refine lv_iadd hx hb dL_law_1088 ?_
  refine va_sld hx hb hX hbl hbA hS (hv 1 (by decide)) dL_law_1089 ?_
  refine lv_aload_n hx hb dL_law_1090 rfl (lv_at hl 0 rfl) ?_
  refine lv_iload_n hx hb dL_law_1091 rfl (lv_at hl 3 rfl) ?_
  refine lv_iconst (v := 2) hx hb dL_law_1092 (by decide) ?_
  refine lv_iadd hx hb dL_law_1093 ?_
  refine va_sld hx hb hX hbl hbA hS (hv 2 (by decide)) dL_law_1094 ?_
  refine lv_aload_n hx hb dL_law_1095 rfl (lv_at hl 0 rfl) ?_
  refine lv_iload_n hx hb dL_law_1096 rfl (lv_at hl 3 rfl) ?_
  refine lv_iconst (v := 3) hx hb dL_law_1097 (by decide) ?_
  refine lv_iadd hx hb dL_law_1098 ?_
  refine va_sld hx hb hX hbl hbA hS (hv 3 (by decide)) dL_law_1099 ?_
  refine gcL_i (k := 3) (o := 130) (As := [.int (xs (v3 + 1).toNatClampNeg), .int (xs (v3 + 2).toNatClampNeg), .int (xs (v3 + 3).toNatClampNeg)]) (rest := [.int r]) hx hb hml hown hts hK hSt hP hS hl.1 hcl hsl (goodV wm_42_18 wm_42_19 wm_42_20 wm_1_5 wm_42_21) okX11_level ct_130 rfl rfl (Nat.le_of_ble_eq_true rfl) (Nat.le_of_ble_eq_true rfl) rfl rfl (Nat.le_of_ble_eq_true rfl) dL_law_1100 (kX11_level l D G ad had n (xs (v3 + 1).toNatClampNeg) (xs (v3 + 2).toNatClampNeg) (xs (v3 + 3).toNatClampNeg) st1 (r, st2) h2) (fun H locs hP hS => ?_)
  refine lv_icmp_eq (tgt := 1578) hx hb dL_law_1103 (by decide) (fun q => ?_) (fun q => absurd rfl q)
  exact hnext st2 hI H locs ls hl hP hS
end
def SP_levelCost (n : Nat) (Inv : St → Prop) : Prop := ∀ (a0 : Int32) (a1 : Int32) (a2 : Int32) (a3 : Int32) (st : St), Inv st → ∃ (r : Int64) (st1 st2 : St), fX10_levelCost n a0 a1 a2 a3 st = some (r, st1) ∧ fX11_levelCost n a0 a1 a2 a3 st1 = some (r, st2) ∧ Inv st2
section
variable {p : Program} {l : Launch} {e : Env} {s : State} {m : MethodId} {below : List Frame} {meth : Method} {c : Code} {D : va_G} {G : G3} {ad : Nat → Nat} {b Ln : Nat} {xs : Nat → Int32} {Q : State → Prop} {cells slots : Nat}
set_option maxHeartbeats 4000000 in
set_option maxRecDepth 100000 in
theorem lwc_levelCost (C : LCx p s m c b Ln xs D G ad) (hcl : cells ≤ 600000) (hsl : slots ≤ 7302250) (n : Nat) (Inv : St → Prop) (hp : SP_levelCost n Inv) (v3 : Int32) (hv : ∀ k : Nat, k < 8 → vp_in (v3 + nI k) Ln) (hnext : ∀ st2 : St, Inv st2 → LAt p l e s m below meth c D G ad b cells slots Q st2 [(0, .ref b), (1, .ref (ad 0)), (2, .ref (ad 130)), (3, .int v3)] 1578 []) (st : St) (hI : Inv st) : LAt p l e s m below meth c D G ad b cells slots Q st [(0, .ref b), (1, .ref (ad 0)), (2, .ref (ad 130)), (3, .int v3)] 1108 [] := by
  obtain ⟨hx, hb, hml, hown, hts, hK, had, hSt, hX, hbl, hbA⟩ := id C
  intro H locs ls hl hP hS
  refine lv_aload_n hx hb dL_law_1108 rfl (lv_at hl 1 rfl) ?_
  refine lv_aload_n hx hb dL_law_1109 rfl (lv_at hl 0 rfl) ?_
  refine lv_iload_n hx hb dL_law_1110 rfl (lv_at hl 3 rfl) ?_
  refine lv_iconst (v := 1) hx hb dL_law_1111 (by decide) ?_
  refine lv_iadd hx hb dL_law_1112 ?_
  refine va_sld hx hb hX hbl hbA hS (hv 1 (by decide)) dL_law_1113 ?_
  refine lv_aload_n hx hb dL_law_1114 rfl (lv_at hl 0 rfl) ?_
  refine lv_iload_n hx hb dL_law_1115 rfl (lv_at hl 3 rfl) ?_
  refine lv_iconst (v := 2) hx hb dL_law_1116 (by decide) ?_
  refine lv_iadd hx hb dL_law_1117 ?_
  refine va_sld hx hb hX hbl hbA hS (hv 2 (by decide)) dL_law_1118 ?_
  refine lv_aload_n hx hb dL_law_1119 rfl (lv_at hl 0 rfl) ?_
  refine lv_iload_n hx hb dL_law_1120 rfl (lv_at hl 3 rfl) ?_
  refine lv_iconst (v := 3) hx hb dL_law_1121 (by decide) ?_
  refine lv_iadd hx hb dL_law_1122 ?_
  refine va_sld hx hb hX hbl hbA hS (hv 3 (by decide)) dL_law_1123 ?_
  refine lv_aload_n hx hb dL_law_1124 rfl (lv_at hl 0 rfl) ?_
  refine lv_iload_n hx hb dL_law_1125 rfl (lv_at hl 3 rfl) ?_
  refine lv_iconst (v := 4) hx hb dL_law_1126 (by decide) ?_
  refine lv_iadd hx hb dL_law_1127 ?_
  refine va_sld hx hb hX hbl hbA hS (hv 4 (by decide)) dL_law_1128 ?_
  obtain ⟨r, st1, st2, h1, h2, hI⟩ := hp (xs (v3 + 1).toNatClampNeg) (xs (v3 + 2).toNatClampNeg) (xs (v3 + 3).toNatClampNeg) (xs (v3 + 4).toNatClampNeg) st hI
  refine gcL_j (k := 3) (o := 0) (As := [.int (xs (v3 + 1).toNatClampNeg), .int (xs (v3 + 2).toNatClampNeg), .int (xs (v3 + 3).toNatClampNeg), .int (xs (v3 + 4).toNatClampNeg)]) (rest := []) hx hb hml hown hts hK hSt hP hS hl.1 hcl hsl (goodV wm_44_1 wm_44_2 wm_44_3 wm_1_2 wm_44_4) okX10_levelCost ct_0 rfl rfl (Nat.le_of_ble_eq_true rfl) (Nat.le_of_ble_eq_true rfl) rfl rfl (Nat.le_of_ble_eq_true rfl) dL_law_1129 (kX10_levelCost l D G ad had n (xs (v3 + 1).toNatClampNeg) (xs (v3 + 2).toNatClampNeg) (xs (v3 + 3).toNatClampNeg) (xs (v3 + 4).toNatClampNeg) st (r, st1) h1) (fun H locs hP hS => ?_)
  refine lv_aload_n hx hb dL_law_1132 rfl (lv_at hl 2 rfl) ?_
  refine lv_aload_n hx hb dL_law_1133 rfl (lv_at hl 0 rfl) ?_
  refine lv_iload_n hx hb dL_law_1134 rfl (lv_at hl 3 rfl) ?_
  refine lv_iconst (v := 1) hx hb dL_law_1135 (by decide) ?_
  refine lv_iadd hx hb dL_law_1136 ?_
  refine va_sld hx hb hX hbl hbA hS (hv 1 (by decide)) dL_law_1137 ?_
  refine lv_aload_n hx hb dL_law_1138 rfl (lv_at hl 0 rfl) ?_
  refine lv_iload_n hx hb dL_law_1139 rfl (lv_at hl 3 rfl) ?_
  refine lv_iconst (v := 2) hx hb dL_law_1140 (by decide) ?_
  refine lv_iadd hx hb dL_law_1141 ?_
  refine va_sld hx hb hX hbl hbA hS (hv 2 (by decide)) dL_law_1142 ?_
  refine lv_aload_n hx hb dL_law_1143 rfl (lv_at hl 0 rfl) ?_
  refine lv_iload_n hx hb dL_law_1144 rfl (lv_at hl 3 rfl) ?_
  refine lv_iconst (v := 3) hx hb dL_law_1145 (by decide) ?_
  refine lv_iadd hx hb dL_law_1146 ?_
  refine va_sld hx hb hX hbl hbA hS (hv 3 (by decide)) dL_law_1147 ?_
  refine lv_aload_n hx hb dL_law_1148 rfl (lv_at hl 0 rfl) ?_
  refine lv_iload_n hx hb dL_law_1149 rfl (lv_at hl 3 rfl) ?_
  refine lv_iconst (v := 4) hx hb dL_law_1150 (by decide) ?_
  refine lv_iadd hx hb dL_law_1151 ?_
  refine va_sld hx hb hX hbl hbA hS (hv 4 (by decide)) dL_law_1152 ?_
  refine gcL_j (k := 3) (o := 130) (As := [.int (xs (v3 + 1).toNatClampNeg), .int (xs (v3 + 2).toNatClampNeg), .int (xs (v3 + 3).toNatClampNeg), .int (xs (v3 + 4).toNatClampNeg)]) (rest := [.long r]) hx hb hml hown hts hK hSt hP hS hl.1 hcl hsl (goodV wm_44_7 wm_44_8 wm_44_9 wm_1_5 wm_44_10) okX11_levelCost ct_130 rfl rfl (Nat.le_of_ble_eq_true rfl) (Nat.le_of_ble_eq_true rfl) rfl rfl (Nat.le_of_ble_eq_true rfl) dL_law_1153 (kX11_levelCost l D G ad had n (xs (v3 + 1).toNatClampNeg) (xs (v3 + 2).toNatClampNeg) (xs (v3 + 3).toNatClampNeg) (xs (v3 + 4).toNatClampNeg) st1 (r, st2) h2) (fun H locs hP hS => ?_)
  refine g_lcmp_eq (tgt := 1578) hx hb dL_law_1156 dL_law_1157 (by decide) (fun q => ?_) (fun q => absurd rfl q)
  exact hnext st2 hI H locs ls hl hP hS
end
def SP_worst (n : Nat) (Inv : St → Prop) : Prop := ∀ (a0 : Int32) (a1 : Int32) (a2 : Int32) (a3 : Int32) (a4 : Int32) (st : St), Inv st → ∃ (r : Int64) (st1 st2 : St), fX10_worst n a0 a1 a2 a3 a4 st = some (r, st1) ∧ fX11_worst n a0 a1 a2 a3 a4 st1 = some (r, st2) ∧ Inv st2
section
variable {p : Program} {l : Launch} {e : Env} {s : State} {m : MethodId} {below : List Frame} {meth : Method} {c : Code} {D : va_G} {G : G3} {ad : Nat → Nat} {b Ln : Nat} {xs : Nat → Int32} {Q : State → Prop} {cells slots : Nat}
set_option maxHeartbeats 4000000 in
set_option maxRecDepth 100000 in
theorem lwc_worst (C : LCx p s m c b Ln xs D G ad) (hcl : cells ≤ 600000) (hsl : slots ≤ 7302250) (n : Nat) (Inv : St → Prop) (hp : SP_worst n Inv) (v3 : Int32) (hv : ∀ k : Nat, k < 8 → vp_in (v3 + nI k) Ln) (hnext : ∀ st2 : St, Inv st2 → LAt p l e s m below meth c D G ad b cells slots Q st2 [(0, .ref b), (1, .ref (ad 0)), (2, .ref (ad 130)), (3, .int v3)] 1578 []) (st : St) (hI : Inv st) : LAt p l e s m below meth c D G ad b cells slots Q st [(0, .ref b), (1, .ref (ad 0)), (2, .ref (ad 130)), (3, .int v3)] 1162 [] := by
  obtain ⟨hx, hb, hml, hown, hts, hK, had, hSt, hX, hbl, hbA⟩ := id C
  intro H locs ls hl hP hS
  refine lv_aload_n hx hb dL_law_1162 rfl (lv_at hl 1 rfl) ?_
  refine lv_aload_n hx hb dL_law_1163 rfl (lv_at hl 0 rfl) ?_
  refine lv_iload_n hx hb dL_law_1164 rfl (lv_at hl 3 rfl) ?_
  refine lv_iconst (v := 1) hx hb dL_law_1165 (by decide) ?_
  refine lv_iadd hx hb dL_law_1166 ?_
  refine va_sld hx hb hX hbl hbA hS (hv 1 (by decide)) dL_law_1167 ?_
  refine lv_aload_n hx hb dL_law_1168 rfl (lv_at hl 0 rfl) ?_
  refine lv_iload_n hx hb dL_law_1169 rfl (lv_at hl 3 rfl) ?_
  refine lv_iconst (v := 2) hx hb dL_law_1170 (by decide) ?_
  refine lv_iadd hx hb dL_law_1171 ?_
  refine va_sld hx hb hX hbl hbA hS (hv 2 (by decide)) dL_law_1172 ?_
  refine lv_aload_n hx hb dL_law_1173 rfl (lv_at hl 0 rfl) ?_
  refine lv_iload_n hx hb dL_law_1174 rfl (lv_at hl 3 rfl) ?_
  refine lv_iconst (v := 3) hx hb dL_law_1175 (by decide) ?_
  refine lv_iadd hx hb dL_law_1176 ?_
  refine va_sld hx hb hX hbl hbA hS (hv 3 (by decide)) dL_law_1177 ?_
  refine lv_aload_n hx hb dL_law_1178 rfl (lv_at hl 0 rfl) ?_
  refine lv_iload_n hx hb dL_law_1179 rfl (lv_at hl 3 rfl) ?_
  refine lv_iconst (v := 4) hx hb dL_law_1180 (by decide) ?_
  refine lv_iadd hx hb dL_law_1181 ?_
  refine va_sld hx hb hX hbl hbA hS (hv 4 (by decide)) dL_law_1182 ?_
  refine lv_aload_n hx hb dL_law_1183 rfl (lv_at hl 0 rfl) ?_
  refine lv_iload_n hx hb dL_law_1184 rfl (lv_at hl 3 rfl) ?_
  refine lv_iconst (v := 5) hx hb dL_law_1185 (by decide) ?_
  refine lv_iadd hx hb dL_law_1186 ?_
  refine va_sld hx hb hX hbl hbA hS (hv 5 (by decide)) dL_law_1187 ?_
  obtain ⟨r, st1, st2, h1, h2, hI⟩ := hp (xs (v3 + 1).toNatClampNeg) (xs (v3 + 2).toNatClampNeg) (xs (v3 + 3).toNatClampNeg) (xs (v3 + 4).toNatClampNeg) (xs (v3 + 5).toNatClampNeg) st hI
  refine gcL_j (k := 6) (o := 0) (As := [.int (xs (v3 + 1).toNatClampNeg), .int (xs (v3 + 2).toNatClampNeg), .int (xs (v3 + 3).toNatClampNeg), .int (xs (v3 + 4).toNatClampNeg), .int (xs (v3 + 5).toNatClampNeg)]) (rest := []) hx hb hml hown hts hK hSt hP hS hl.1 hcl hsl (goodV wm_44_11 wm_44_12 wm_44_13 wm_1_2 wm_44_14) okX10_worst ct_0 rfl rfl (Nat.le_of_ble_eq_true rfl) (Nat.le_of_ble_eq_true rfl) rfl rfl (Nat.le_of_ble_eq_true rfl) dL_law_1188 (kX10_worst l D G ad had n (xs (v3 + 1).toNatClampNeg) (xs (v3 + 2).toNatClampNeg) (xs (v3 + 3).toNatClampNeg) (xs (v3 + 4).toNatClampNeg) (xs (v3 + 5).toNatClampNeg) st (r, st1) h1) (fun H locs hP hS => ?_)
  refine lv_aload_n hx hb dL_law_1191 rfl (lv_at hl 2 rfl) ?_
  refine lv_aload_n hx hb dL_law_1192 rfl (lv_at hl 0 rfl) ?_
  refine lv_iload_n hx hb dL_law_1193 rfl (lv_at hl 3 rfl) ?_
  refine lv_iconst (v := 1) hx hb dL_law_1194 (by decide) ?_
  refine lv_iadd hx hb dL_law_1195 ?_
  refine va_sld hx hb hX hbl hbA hS (hv 1 (by decide)) dL_law_1196 ?_
  refine lv_aload_n hx hb dL_law_1197 rfl (lv_at hl 0 rfl) ?_
  refine lv_iload_n hx hb dL_law_1198 rfl (lv_at hl 3 rfl) ?_
  refine lv_iconst (v := 2) hx hb dL_law_1199 (by decide) ?_
  refine lv_iadd hx hb dL_law_1200 ?_
  refine va_sld hx hb hX hbl hbA hS (hv 2 (by decide)) dL_law_1201 ?_
  refine lv_aload_n hx hb dL_law_1202 rfl (lv_at hl 0 rfl) ?_
  refine lv_iload_n hx hb dL_law_1203 rfl (lv_at hl 3 rfl) ?_
  refine lv_iconst (v := 3) hx hb dL_law_1204 (by decide) ?_
  refine lv_iadd hx hb dL_law_1205 ?_
  refine va_sld hx hb hX hbl hbA hS (hv 3 (by decide)) dL_law_1206 ?_
  refine lv_aload_n hx hb dL_law_1207 rfl (lv_at hl 0 rfl) ?_
  refine lv_iload_n hx hb dL_law_1208 rfl (lv_at hl 3 rfl) ?_
  refine lv_iconst (v := 4) hx hb dL_law_1209 (by decide) ?_
  refine lv_iadd hx hb dL_law_1210 ?_
  refine va_sld hx hb hX hbl hbA hS (hv 4 (by decide)) dL_law_1211 ?_
  refine lv_aload_n hx hb dL_law_1212 rfl (lv_at hl 0 rfl) ?_
  refine lv_iload_n hx hb dL_law_1213 rfl (lv_at hl 3 rfl) ?_
  refine lv_iconst (v := 5) hx hb dL_law_1214 (by decide) ?_
  refine lv_iadd hx hb dL_law_1215 ?_
  refine va_sld hx hb hX hbl hbA hS (hv 5 (by decide)) dL_law_1216 ?_
  refine gcL_j (k := 7) (o := 130) (As := [.int (xs (v3 + 1).toNatClampNeg), .int (xs (v3 + 2).toNatClampNeg), .int (xs (v3 + 3).toNatClampNeg), .int (xs (v3 + 4).toNatClampNeg), .int (xs (v3 + 5).toNatClampNeg)]) (rest := [.long r]) hx hb hml hown hts hK hSt hP hS hl.1 hcl hsl (goodV wm_45_22 wm_45_23 wm_46_0 wm_1_5 wm_46_1) okX11_worst ct_130 rfl rfl (Nat.le_of_ble_eq_true rfl) (Nat.le_of_ble_eq_true rfl) rfl rfl (Nat.le_of_ble_eq_true rfl) dL_law_1217 (kX11_worst l D G ad had n (xs (v3 + 1).toNatClampNeg) (xs (v3 + 2).toNatClampNeg) (xs (v3 + 3).toNatClampNeg) (xs (v3 + 4).toNatClampNeg) (xs (v3 + 5).toNatClampNeg) st1 (r, st2) h2) (fun H locs hP hS => ?_)
  refine g_lcmp_eq (tgt := 1578) hx hb dL_law_1220 dL_law_1221 (by decide) (fun q => ?_) (fun q => absurd rfl q)
  exact hnext st2 hI H locs ls hl hP hS
end
def SP_worstAt (n : Nat) (Inv : St → Prop) : Prop := ∀ (a0 : Int32) (st : St), Inv st → ∃ (r : Int32) (st1 st2 : St), fX10_worstAt n a0 st = some (r, st1) ∧ fX11_worstAt n a0 st1 = some (r, st2) ∧ Inv st2
section
variable {p : Program} {l : Launch} {e : Env} {s : State} {m : MethodId} {below : List Frame} {meth : Method} {c : Code} {D : va_G} {G : G3} {ad : Nat → Nat} {b Ln : Nat} {xs : Nat → Int32} {Q : State → Prop} {cells slots : Nat}
set_option maxHeartbeats 4000000 in
set_option maxRecDepth 100000 in
theorem lwc_worstAt (C : LCx p s m c b Ln xs D G ad) (hcl : cells ≤ 600000) (hsl : slots ≤ 7302250) (n : Nat) (Inv : St → Prop) (hp : SP_worstAt n Inv) (v3 : Int32) (hv : ∀ k : Nat, k < 8 → vp_in (v3 + nI k) Ln) (hnext : ∀ st2 : St, Inv st2 → LAt p l e s m below meth c D G ad b cells slots Q st2 [(0, .ref b), (1, .ref (ad 0)), (2, .ref (ad 130)), (3, .int v3)] 1578 []) (st : St) (hI : Inv st) : LAt p l e s m below meth c D G ad b cells slots Q st [(0, .ref b), (1, .ref (ad 0)), (2, .ref (ad 130)), (3, .int v3)] 1226 [] := by
  obtain ⟨hx, hb, hml, hown, hts, hK, had, hSt, hX, hbl, hbA⟩ := id C
  intro H locs ls hl hP hS
  refine lv_aload_n hx hb dL_law_1226 rfl (lv_at hl 1 rfl) ?_
  refine lv_aload_n hx hb dL_law_1227 rfl (lv_at hl 0 rfl) ?_
  refine lv_iload_n hx hb dL_law_1228 rfl (lv_at hl 3 rfl) ?_
  refine lv_iconst (v := 1) hx hb dL_law_1229 (by decide) ?_
  refine lv_iadd hx hb dL_law_1230 ?_
  refine va_sld hx hb hX hbl hbA hS (hv 1 (by decide)) dL_law_1231 ?_
  obtain ⟨r, st1, st2, h1, h2, hI⟩ := hp (xs (v3 + 1).toNatClampNeg) st hI
  refine gcL_i (k := 0) (o := 0) (As := [.int (xs (v3 + 1).toNatClampNeg)]) (rest := []) hx hb hml hown hts hK hSt hP hS hl.1 hcl hsl (goodV wm_46_17 wm_46_18 wm_46_19 wm_1_2 wm_46_20) okX10_worstAt ct_0 rfl rfl (Nat.le_of_ble_eq_true rfl) (Nat.le_of_ble_eq_true rfl) rfl rfl (Nat.le_of_ble_eq_true rfl) dL_law_1232 (kX10_worstAt l D G ad had n (xs (v3 + 1).toNatClampNeg) st (r, st1) h1) (fun H locs hP hS => ?_)
  refine lv_aload_n hx hb dL_law_1235 rfl (lv_at hl 2 rfl) ?_
  refine lv_aload_n hx hb dL_law_1236 rfl (lv_at hl 0 rfl) ?_
  refine lv_iload_n hx hb dL_law_1237 rfl (lv_at hl 3 rfl) ?_
  refine lv_iconst (v := 1) hx hb dL_law_1238 (by decide) ?_
  refine lv_iadd hx hb dL_law_1239 ?_
  refine va_sld hx hb hX hbl hbA hS (hv 1 (by decide)) dL_law_1240 ?_
  refine gcL_i (k := 1) (o := 130) (As := [.int (xs (v3 + 1).toNatClampNeg)]) (rest := [.int r]) hx hb hml hown hts hK hSt hP hS hl.1 hcl hsl (goodV wm_46_21 wm_46_22 wm_46_23 wm_1_5 wm_47_0) okX11_worstAt ct_130 rfl rfl (Nat.le_of_ble_eq_true rfl) (Nat.le_of_ble_eq_true rfl) rfl rfl (Nat.le_of_ble_eq_true rfl) dL_law_1241 (kX11_worstAt l D G ad had n (xs (v3 + 1).toNatClampNeg) st1 (r, st2) h2) (fun H locs hP hS => ?_)
  refine lv_icmp_eq (tgt := 1578) hx hb dL_law_1244 (by decide) (fun q => ?_) (fun q => absurd rfl q)
  exact hnext st2 hI H locs ls hl hP hS
end
def SP_gets (n : Nat) (Inv : St → Prop) : Prop := ∀ (a0 : Int32) (a1 : Int32) (a2 : Int64) (a3 : Int32) (a4 : Int32) (st : St), Inv st → ∃ (r : Int32) (st1 st2 : St), fX10_gets n a0 a1 a2 a3 a4 st = some (r, st1) ∧ fX11_gets n a0 a1 a2 a3 a4 st1 = some (r, st2) ∧ Inv st2
section
variable {p : Program} {l : Launch} {e : Env} {s : State} {m : MethodId} {below : List Frame} {meth : Method} {c : Code} {D : va_G} {G : G3} {ad : Nat → Nat} {b Ln : Nat} {xs : Nat → Int32} {Q : State → Prop} {cells slots : Nat}
set_option maxHeartbeats 4000000 in
set_option maxRecDepth 100000 in
theorem lwc_gets (C : LCx p s m c b Ln xs D G ad) (hcl : cells ≤ 600000) (hsl : slots ≤ 7302250) (n : Nat) (Inv : St → Prop) (hp : SP_gets n Inv) (v3 : Int32) (hv : ∀ k : Nat, k < 8 → vp_in (v3 + nI k) Ln) (hnext : ∀ st2 : St, Inv st2 → LAt p l e s m below meth c D G ad b cells slots Q st2 [(0, .ref b), (1, .ref (ad 0)), (2, .ref (ad 130)), (3, .int v3)] 1578 []) (st : St) (hI : Inv st) : LAt p l e s m below meth c D G ad b cells slots Q st [(0, .ref b), (1, .ref (ad 0)), (2, .ref (ad 130)), (3, .int v3)] 1249 [] := by
  obtain ⟨hx, hb, hml, hown, hts, hK, had, hSt, hX, hbl, hbA⟩ := id C
  intro H locs ls hl hP hS
  refine lv_aload_n hx hb dL_law_1249 rfl (lv_at hl 1 rfl) ?_
  refine lv_aload_n hx hb dL_law_1250 rfl (lv_at hl 0 rfl) ?_
  refine lv_iload_n hx hb dL_law_1251 rfl (lv_at hl 3 rfl) ?_
  refine lv_iconst (v := 1) hx hb dL_law_1252 (by decide) ?_
  refine lv_iadd hx hb dL_law_1253 ?_
  refine va_sld hx hb hX hbl hbA hS (hv 1 (by decide)) dL_law_1254 ?_
  refine lv_aload_n hx hb dL_law_1255 rfl (lv_at hl 0 rfl) ?_
  refine lv_iload_n hx hb dL_law_1256 rfl (lv_at hl 3 rfl) ?_
  refine lv_iconst (v := 2) hx hb dL_law_1257 (by decide) ?_
  refine lv_iadd hx hb dL_law_1258 ?_
  refine va_sld hx hb hX hbl hbA hS (hv 2 (by decide)) dL_law_1259 ?_
  refine lv_aload_n hx hb dL_law_1260 rfl (lv_at hl 0 rfl) ?_
  refine lv_iload_n hx hb dL_law_1261 rfl (lv_at hl 3 rfl) ?_
  refine lv_iconst (v := 3) hx hb dL_law_1262 (by decide) ?_
  refine lv_iadd hx hb dL_law_1263 ?_
  refine va_sld hx hb hX hbl hbA hS (hv 3 (by decide)) dL_law_1264 ?_
  refine lv_i2l hx hb dL_law_1265 rfl ?_
  refine lv_bipush (v := 32) hx hb dL_law_1266 (by decide) ?_
  refine lv_lshl hx hb dL_law_1268 rfl ?_
  refine lv_aload_n hx hb dL_law_1269 rfl (lv_at hl 0 rfl) ?_
  refine lv_iload_n hx hb dL_law_1270 rfl (lv_at hl 3 rfl) ?_
  refine lv_iconst (v := 4) hx hb dL_law_1271 (by decide) ?_
  refine lv_iadd hx hb dL_law_1272 ?_
  refine va_sld hx hb hX hbl hbA hS (hv 4 (by decide)) dL_law_1273 ?_
  refine lv_i2l hx hb dL_law_1274 rfl ?_
  refine lv_ldc2 hx hb hown (hts _ wm_1_6) dL_law_1275 ?_
  refine lv_land hx hb dL_law_1278 ?_
  refine lv_lor hx hb dL_law_1279 ?_
  refine lv_aload_n hx hb dL_law_1280 rfl (lv_at hl 0 rfl) ?_
  refine lv_iload_n hx hb dL_law_1281 rfl (lv_at hl 3 rfl) ?_
  refine lv_iconst (v := 5) hx hb dL_law_1282 (by decide) ?_
  refine lv_iadd hx hb dL_law_1283 ?_
  refine va_sld hx hb hX hbl hbA hS (hv 5 (by decide)) dL_law_1284 ?_
  refine lv_aload_n hx hb dL_law_1285 rfl (lv_at hl 0 rfl) ?_
  refine lv_iload_n hx hb dL_law_1286 rfl (lv_at hl 3 rfl) ?_
  refine lv_bipush (v := 6) hx hb dL_law_1287 (by decide) ?_
  refine lv_iadd hx hb dL_law_1289 ?_
  refine va_sld hx hb hX hbl hbA hS (hv 6 (by decide)) dL_law_1290 ?_
  obtain ⟨r, st1, st2, h1, h2, hI⟩ := hp (xs (v3 + 1).toNatClampNeg) (xs (v3 + 2).toNatClampNeg) (((xs (v3 + 3).toNatClampNeg).toInt64 <<< ((32 : Int32).toInt64 &&& 63)) ||| ((xs (v3 + 4).toNatClampNeg).toInt64 &&& 4294967295)) (xs (v3 + 5).toNatClampNeg) (xs (v3 + 6).toNatClampNeg) st hI
  refine gcL_i (k := 4) (o := 0) (As := [.int (xs (v3 + 1).toNatClampNeg), .int (xs (v3 + 2).toNatClampNeg), .long (((xs (v3 + 3).toNatClampNeg).toInt64 <<< ((32 : Int32).toInt64 &&& 63)) ||| ((xs (v3 + 4).toNatClampNeg).toInt64 &&& 4294967295)), .int (xs (v3 + 5).toNatClampNeg), .int (xs (v3 + 6).toNatClampNeg)]) (rest := []) hx hb hml hown hts hK hSt hP hS hl.1 hcl hsl (goodV wm_47_1 wm_47_2 wm_47_3 wm_1_2 wm_47_4) okX10_gets ct_0 rfl rfl (Nat.le_of_ble_eq_true rfl) (Nat.le_of_ble_eq_true rfl) rfl rfl (Nat.le_of_ble_eq_true rfl) dL_law_1291 (kX10_gets l D G ad had n (xs (v3 + 1).toNatClampNeg) (xs (v3 + 2).toNatClampNeg) (((xs (v3 + 3).toNatClampNeg).toInt64 <<< ((32 : Int32).toInt64 &&& 63)) ||| ((xs (v3 + 4).toNatClampNeg).toInt64 &&& 4294967295)) (xs (v3 + 5).toNatClampNeg) (xs (v3 + 6).toNatClampNeg) st (r, st1) h1) (fun H locs hP hS => ?_)
  refine lv_aload_n hx hb dL_law_1294 rfl (lv_at hl 2 rfl) ?_
  refine lv_aload_n hx hb dL_law_1295 rfl (lv_at hl 0 rfl) ?_
  refine lv_iload_n hx hb dL_law_1296 rfl (lv_at hl 3 rfl) ?_
  refine lv_iconst (v := 1) hx hb dL_law_1297 (by decide) ?_
  refine lv_iadd hx hb dL_law_1298 ?_
  refine va_sld hx hb hX hbl hbA hS (hv 1 (by decide)) dL_law_1299 ?_
  refine lv_aload_n hx hb dL_law_1300 rfl (lv_at hl 0 rfl) ?_
  refine lv_iload_n hx hb dL_law_1301 rfl (lv_at hl 3 rfl) ?_
  refine lv_iconst (v := 2) hx hb dL_law_1302 (by decide) ?_
  refine lv_iadd hx hb dL_law_1303 ?_
  refine va_sld hx hb hX hbl hbA hS (hv 2 (by decide)) dL_law_1304 ?_
  refine lv_aload_n hx hb dL_law_1305 rfl (lv_at hl 0 rfl) ?_
  refine lv_iload_n hx hb dL_law_1306 rfl (lv_at hl 3 rfl) ?_
  refine lv_iconst (v := 3) hx hb dL_law_1307 (by decide) ?_
  refine lv_iadd hx hb dL_law_1308 ?_
  refine va_sld hx hb hX hbl hbA hS (hv 3 (by decide)) dL_law_1309 ?_
  refine lv_i2l hx hb dL_law_1310 rfl ?_
  refine lv_bipush (v := 32) hx hb dL_law_1311 (by decide) ?_
  refine lv_lshl hx hb dL_law_1313 rfl ?_
  refine lv_aload_n hx hb dL_law_1314 rfl (lv_at hl 0 rfl) ?_
  refine lv_iload_n hx hb dL_law_1315 rfl (lv_at hl 3 rfl) ?_
  refine lv_iconst (v := 4) hx hb dL_law_1316 (by decide) ?_
  refine lv_iadd hx hb dL_law_1317 ?_
  refine va_sld hx hb hX hbl hbA hS (hv 4 (by decide)) dL_law_1318 ?_
  refine lv_i2l hx hb dL_law_1319 rfl ?_
  refine lv_ldc2 hx hb hown (hts _ wm_1_6) dL_law_1320 ?_
  refine lv_land hx hb dL_law_1323 ?_
  refine lv_lor hx hb dL_law_1324 ?_
  refine lv_aload_n hx hb dL_law_1325 rfl (lv_at hl 0 rfl) ?_
  refine lv_iload_n hx hb dL_law_1326 rfl (lv_at hl 3 rfl) ?_
  refine lv_iconst (v := 5) hx hb dL_law_1327 (by decide) ?_
  refine lv_iadd hx hb dL_law_1328 ?_
  refine va_sld hx hb hX hbl hbA hS (hv 5 (by decide)) dL_law_1329 ?_
  refine lv_aload_n hx hb dL_law_1330 rfl (lv_at hl 0 rfl) ?_
  refine lv_iload_n hx hb dL_law_1331 rfl (lv_at hl 3 rfl) ?_
  refine lv_bipush (v := 6) hx hb dL_law_1332 (by decide) ?_
  refine lv_iadd hx hb dL_law_1334 ?_
  refine va_sld hx hb hX hbl hbA hS (hv 6 (by decide)) dL_law_1335 ?_
  refine gcL_i (k := 2) (o := 130) (As := [.int (xs (v3 + 1).toNatClampNeg), .int (xs (v3 + 2).toNatClampNeg), .long (((xs (v3 + 3).toNatClampNeg).toInt64 <<< ((32 : Int32).toInt64 &&& 63)) ||| ((xs (v3 + 4).toNatClampNeg).toInt64 &&& 4294967295)), .int (xs (v3 + 5).toNatClampNeg), .int (xs (v3 + 6).toNatClampNeg)]) (rest := [.int r]) hx hb hml hown hts hK hSt hP hS hl.1 hcl hsl (goodV wm_47_20 wm_47_21 wm_47_22 wm_1_5 wm_47_23) okX11_gets ct_130 rfl rfl (Nat.le_of_ble_eq_true rfl) (Nat.le_of_ble_eq_true rfl) rfl rfl (Nat.le_of_ble_eq_true rfl) dL_law_1336 (kX11_gets l D G ad had n (xs (v3 + 1).toNatClampNeg) (xs (v3 + 2).toNatClampNeg) (((xs (v3 + 3).toNatClampNeg).toInt64 <<< ((32 : Int32).toInt64 &&& 63)) ||| ((xs (v3 + 4).toNatClampNeg).toInt64 &&& 4294967295)) (xs (v3 + 5).toNatClampNeg) (xs (v3 + 6).toNatClampNeg) st1 (r, st2) h2) (fun H locs hP hS => ?_)
  refine lv_icmp_eq (tgt := 1578) hx hb dL_law_1339 (by decide) (fun q => ?_) (fun q => absurd rfl q)
  exact hnext st2 hI H locs ls hl hP hS
end
def SP_calm (n : Nat) (Inv : St → Prop) : Prop := ∀ (a0 : Int32) (a1 : Int32) (a2 : Int64) (a3 : Int64) (a4 : Int32) (st : St), Inv st → ∃ (r : Int32) (st1 st2 : St), fX10_calm n a0 a1 a2 a3 a4 st = some (r, st1) ∧ fX11_calm n a0 a1 a2 a3 a4 st1 = some (r, st2) ∧ Inv st2
section
variable {p : Program} {l : Launch} {e : Env} {s : State} {m : MethodId} {below : List Frame} {meth : Method} {c : Code} {D : va_G} {G : G3} {ad : Nat → Nat} {b Ln : Nat} {xs : Nat → Int32} {Q : State → Prop} {cells slots : Nat}
set_option maxHeartbeats 4000000 in
set_option maxRecDepth 100000 in
theorem lwc_calm (C : LCx p s m c b Ln xs D G ad) (hcl : cells ≤ 600000) (hsl : slots ≤ 7302250) (n : Nat) (Inv : St → Prop) (hp : SP_calm n Inv) (v3 : Int32) (hv : ∀ k : Nat, k < 8 → vp_in (v3 + nI k) Ln) (hnext : ∀ st2 : St, Inv st2 → LAt p l e s m below meth c D G ad b cells slots Q st2 [(0, .ref b), (1, .ref (ad 0)), (2, .ref (ad 130)), (3, .int v3)] 1578 []) (st : St) (hI : Inv st) : LAt p l e s m below meth c D G ad b cells slots Q st [(0, .ref b), (1, .ref (ad 0)), (2, .ref (ad 130)), (3, .int v3)] 1344 [] := by
  obtain ⟨hx, hb, hml, hown, hts, hK, had, hSt, hX, hbl, hbA⟩ := id C
  intro H locs ls hl hP hS
  refine lv_aload_n hx hb dL_law_1344 rfl (lv_at hl 1 rfl) ?_
  refine lv_aload_n hx hb dL_law_1345 rfl (lv_at hl 0 rfl) ?_
  refine lv_iload_n hx hb dL_law_1346 rfl (lv_at hl 3 rfl) ?_
  refine lv_iconst (v := 1) hx hb dL_law_1347 (by decide) ?_
  refine lv_iadd hx hb dL_law_1348 ?_
  refine va_sld hx hb hX hbl hbA hS (hv 1 (by decide)) dL_law_1349 ?_
  refine lv_aload_n hx hb dL_law_1350 rfl (lv_at hl 0 rfl) ?_
  refine lv_iload_n hx hb dL_law_1351 rfl (lv_at hl 3 rfl) ?_
  refine lv_iconst (v := 2) hx hb dL_law_1352 (by decide) ?_
  refine lv_iadd hx hb dL_law_1353 ?_
  refine va_sld hx hb hX hbl hbA hS (hv 2 (by decide)) dL_law_1354 ?_
  refine lv_aload_n hx hb dL_law_1355 rfl (lv_at hl 0 rfl) ?_
  refine lv_iload_n hx hb dL_law_1356 rfl (lv_at hl 3 rfl) ?_
  refine lv_iconst (v := 3) hx hb dL_law_1357 (by decide) ?_
  refine lv_iadd hx hb dL_law_1358 ?_
  refine va_sld hx hb hX hbl hbA hS (hv 3 (by decide)) dL_law_1359 ?_
  refine lv_i2l hx hb dL_law_1360 rfl ?_
  refine lv_bipush (v := 32) hx hb dL_law_1361 (by decide) ?_
  refine lv_lshl hx hb dL_law_1363 rfl ?_
  refine lv_aload_n hx hb dL_law_1364 rfl (lv_at hl 0 rfl) ?_
  refine lv_iload_n hx hb dL_law_1365 rfl (lv_at hl 3 rfl) ?_
  refine lv_iconst (v := 4) hx hb dL_law_1366 (by decide) ?_
  refine lv_iadd hx hb dL_law_1367 ?_
  refine va_sld hx hb hX hbl hbA hS (hv 4 (by decide)) dL_law_1368 ?_
  refine lv_i2l hx hb dL_law_1369 rfl ?_
  refine lv_ldc2 hx hb hown (hts _ wm_1_6) dL_law_1370 ?_
  refine lv_land hx hb dL_law_1373 ?_
  refine lv_lor hx hb dL_law_1374 ?_
  refine lv_aload_n hx hb dL_law_1375 rfl (lv_at hl 0 rfl) ?_
  refine lv_iload_n hx hb dL_law_1376 rfl (lv_at hl 3 rfl) ?_
  refine lv_iconst (v := 5) hx hb dL_law_1377 (by decide) ?_
  refine lv_iadd hx hb dL_law_1378 ?_
  refine va_sld hx hb hX hbl hbA hS (hv 5 (by decide)) dL_law_1379 ?_
  refine lv_i2l hx hb dL_law_1380 rfl ?_
  refine lv_bipush (v := 32) hx hb dL_law_1381 (by decide) ?_
  refine lv_lshl hx hb dL_law_1383 rfl ?_
  refine lv_aload_n hx hb dL_law_1384 rfl (lv_at hl 0 rfl) ?_
  refine lv_iload_n hx hb dL_law_1385 rfl (lv_at hl 3 rfl) ?_
  refine lv_bipush (v := 6) hx hb dL_law_1386 (by decide) ?_
  refine lv_iadd hx hb dL_law_1388 ?_
  refine va_sld hx hb hX hbl hbA hS (hv 6 (by decide)) dL_law_1389 ?_
  refine lv_i2l hx hb dL_law_1390 rfl ?_
  refine lv_ldc2 hx hb hown (hts _ wm_1_6) dL_law_1391 ?_
  refine lv_land hx hb dL_law_1394 ?_
  refine lv_lor hx hb dL_law_1395 ?_
  refine lv_aload_n hx hb dL_law_1396 rfl (lv_at hl 0 rfl) ?_
  refine lv_iload_n hx hb dL_law_1397 rfl (lv_at hl 3 rfl) ?_
  refine lv_bipush (v := 7) hx hb dL_law_1398 (by decide) ?_
  refine lv_iadd hx hb dL_law_1400 ?_
  refine va_sld hx hb hX hbl hbA hS (hv 7 (by decide)) dL_law_1401 ?_
  obtain ⟨r, st1, st2, h1, h2, hI⟩ := hp (xs (v3 + 1).toNatClampNeg) (xs (v3 + 2).toNatClampNeg) (((xs (v3 + 3).toNatClampNeg).toInt64 <<< ((32 : Int32).toInt64 &&& 63)) ||| ((xs (v3 + 4).toNatClampNeg).toInt64 &&& 4294967295)) (((xs (v3 + 5).toNatClampNeg).toInt64 <<< ((32 : Int32).toInt64 &&& 63)) ||| ((xs (v3 + 6).toNatClampNeg).toInt64 &&& 4294967295)) (xs (v3 + 7).toNatClampNeg) st hI
  refine gcL_i (k := 5) (o := 0) (As := [.int (xs (v3 + 1).toNatClampNeg), .int (xs (v3 + 2).toNatClampNeg), .long (((xs (v3 + 3).toNatClampNeg).toInt64 <<< ((32 : Int32).toInt64 &&& 63)) ||| ((xs (v3 + 4).toNatClampNeg).toInt64 &&& 4294967295)), .long (((xs (v3 + 5).toNatClampNeg).toInt64 <<< ((32 : Int32).toInt64 &&& 63)) ||| ((xs (v3 + 6).toNatClampNeg).toInt64 &&& 4294967295)), .int (xs (v3 + 7).toNatClampNeg)]) (rest := []) hx hb hml hown hts hK hSt hP hS hl.1 hcl hsl (goodV wm_48_11 wm_48_12 wm_48_13 wm_1_2 wm_48_14) okX10_calm ct_0 rfl rfl (Nat.le_of_ble_eq_true rfl) (Nat.le_of_ble_eq_true rfl) rfl rfl (Nat.le_of_ble_eq_true rfl) dL_law_1402 (kX10_calm l D G ad had n (xs (v3 + 1).toNatClampNeg) (xs (v3 + 2).toNatClampNeg) (((xs (v3 + 3).toNatClampNeg).toInt64 <<< ((32 : Int32).toInt64 &&& 63)) ||| ((xs (v3 + 4).toNatClampNeg).toInt64 &&& 4294967295)) (((xs (v3 + 5).toNatClampNeg).toInt64 <<< ((32 : Int32).toInt64 &&& 63)) ||| ((xs (v3 + 6).toNatClampNeg).toInt64 &&& 4294967295)) (xs (v3 + 7).toNatClampNeg) st (r, st1) h1) (fun H locs hP hS => ?_)
  refine lv_aload_n hx hb dL_law_1405 rfl (lv_at hl 2 rfl) ?_
  refine lv_aload_n hx hb dL_law_1406 rfl (lv_at hl 0 rfl) ?_
  refine lv_iload_n hx hb dL_law_1407 rfl (lv_at hl 3 rfl) ?_
  refine lv_iconst (v := 1) hx hb dL_law_1408 (by decide) ?_
  refine lv_iadd hx hb dL_law_1409 ?_
  refine va_sld hx hb hX hbl hbA hS (hv 1 (by decide)) dL_law_1410 ?_
  refine lv_aload_n hx hb dL_law_1411 rfl (lv_at hl 0 rfl) ?_
  refine lv_iload_n hx hb dL_law_1412 rfl (lv_at hl 3 rfl) ?_
  refine lv_iconst (v := 2) hx hb dL_law_1413 (by decide) ?_
  refine lv_iadd hx hb dL_law_1414 ?_
  refine va_sld hx hb hX hbl hbA hS (hv 2 (by decide)) dL_law_1415 ?_
  refine lv_aload_n hx hb dL_law_1416 rfl (lv_at hl 0 rfl) ?_
  refine lv_iload_n hx hb dL_law_1417 rfl (lv_at hl 3 rfl) ?_
  refine lv_iconst (v := 3) hx hb dL_law_1418 (by decide) ?_
  refine lv_iadd hx hb dL_law_1419 ?_
  refine va_sld hx hb hX hbl hbA hS (hv 3 (by decide)) dL_law_1420 ?_
  refine lv_i2l hx hb dL_law_1421 rfl ?_
  refine lv_bipush (v := 32) hx hb dL_law_1422 (by decide) ?_
  refine lv_lshl hx hb dL_law_1424 rfl ?_
  refine lv_aload_n hx hb dL_law_1425 rfl (lv_at hl 0 rfl) ?_
  refine lv_iload_n hx hb dL_law_1426 rfl (lv_at hl 3 rfl) ?_
  refine lv_iconst (v := 4) hx hb dL_law_1427 (by decide) ?_
  refine lv_iadd hx hb dL_law_1428 ?_
  refine va_sld hx hb hX hbl hbA hS (hv 4 (by decide)) dL_law_1429 ?_
  refine lv_i2l hx hb dL_law_1430 rfl ?_
  refine lv_ldc2 hx hb hown (hts _ wm_1_6) dL_law_1431 ?_
  refine lv_land hx hb dL_law_1434 ?_
  refine lv_lor hx hb dL_law_1435 ?_
  refine lv_aload_n hx hb dL_law_1436 rfl (lv_at hl 0 rfl) ?_
  refine lv_iload_n hx hb dL_law_1437 rfl (lv_at hl 3 rfl) ?_
  refine lv_iconst (v := 5) hx hb dL_law_1438 (by decide) ?_
  refine lv_iadd hx hb dL_law_1439 ?_
  refine va_sld hx hb hX hbl hbA hS (hv 5 (by decide)) dL_law_1440 ?_
  refine lv_i2l hx hb dL_law_1441 rfl ?_
  refine lv_bipush (v := 32) hx hb dL_law_1442 (by decide) ?_
  refine lv_lshl hx hb dL_law_1444 rfl ?_
  refine lv_aload_n hx hb dL_law_1445 rfl (lv_at hl 0 rfl) ?_
  refine lv_iload_n hx hb dL_law_1446 rfl (lv_at hl 3 rfl) ?_
  refine lv_bipush (v := 6) hx hb dL_law_1447 (by decide) ?_
  refine lv_iadd hx hb dL_law_1449 ?_
  refine va_sld hx hb hX hbl hbA hS (hv 6 (by decide)) dL_law_1450 ?_
  refine lv_i2l hx hb dL_law_1451 rfl ?_
  refine lv_ldc2 hx hb hown (hts _ wm_1_6) dL_law_1452 ?_
  refine lv_land hx hb dL_law_1455 ?_
  refine lv_lor hx hb dL_law_1456 ?_
  refine lv_aload_n hx hb dL_law_1457 rfl (lv_at hl 0 rfl) ?_
  refine lv_iload_n hx hb dL_law_1458 rfl (lv_at hl 3 rfl) ?_
  refine lv_bipush (v := 7) hx hb dL_law_1459 (by decide) ?_
  refine lv_iadd hx hb dL_law_1461 ?_
  refine va_sld hx hb hX hbl hbA hS (hv 7 (by decide)) dL_law_1462 ?_
  refine gcL_i (k := 3) (o := 130) (As := [.int (xs (v3 + 1).toNatClampNeg), .int (xs (v3 + 2).toNatClampNeg), .long (((xs (v3 + 3).toNatClampNeg).toInt64 <<< ((32 : Int32).toInt64 &&& 63)) ||| ((xs (v3 + 4).toNatClampNeg).toInt64 &&& 4294967295)), .long (((xs (v3 + 5).toNatClampNeg).toInt64 <<< ((32 : Int32).toInt64 &&& 63)) ||| ((xs (v3 + 6).toNatClampNeg).toInt64 &&& 4294967295)), .int (xs (v3 + 7).toNatClampNeg)]) (rest := [.int r]) hx hb hml hown hts hK hSt hP hS hl.1 hcl hsl (goodV wm_49_8 wm_49_9 wm_49_10 wm_1_5 wm_49_11) okX11_calm ct_130 rfl rfl (Nat.le_of_ble_eq_true rfl) (Nat.le_of_ble_eq_true rfl) rfl rfl (Nat.le_of_ble_eq_true rfl) dL_law_1463 (kX11_calm l D G ad had n (xs (v3 + 1).toNatClampNeg) (xs (v3 + 2).toNatClampNeg) (((xs (v3 + 3).toNatClampNeg).toInt64 <<< ((32 : Int32).toInt64 &&& 63)) ||| ((xs (v3 + 4).toNatClampNeg).toInt64 &&& 4294967295)) (((xs (v3 + 5).toNatClampNeg).toInt64 <<< ((32 : Int32).toInt64 &&& 63)) ||| ((xs (v3 + 6).toNatClampNeg).toInt64 &&& 4294967295)) (xs (v3 + 7).toNatClampNeg) st1 (r, st2) h2) (fun H locs hP hS => ?_)
  refine lv_icmp_eq (tgt := 1578) hx hb dL_law_1466 (by decide) (fun q => ?_) (fun q => absurd rfl q)
  exact hnext st2 hI H locs ls hl hP hS
end
def SP_calmest (n : Nat) (Inv : St → Prop) : Prop := ∀ (a0 : Int32) (a1 : Int32) (a2 : Int64) (a3 : Int32) (st : St), Inv st → ∃ (r : Int64) (st1 st2 : St), fX10_calmest n a0 a1 a2 a3 st = some (r, st1) ∧ fX11_calmest n a0 a1 a2 a3 st1 = some (r, st2) ∧ Inv st2
section
variable {p : Program} {l : Launch} {e : Env} {s : State} {m : MethodId} {below : List Frame} {meth : Method} {c : Code} {D : va_G} {G : G3} {ad : Nat → Nat} {b Ln : Nat} {xs : Nat → Int32} {Q : State → Prop} {cells slots : Nat}
set_option maxHeartbeats 4000000 in
set_option maxRecDepth 100000 in
theorem lwc_calmest (C : LCx p s m c b Ln xs D G ad) (hcl : cells ≤ 600000) (hsl : slots ≤ 7302250) (n : Nat) (Inv : St → Prop) (hp : SP_calmest n Inv) (v3 : Int32) (hv : ∀ k : Nat, k < 8 → vp_in (v3 + nI k) Ln) (hnext : ∀ st2 : St, Inv st2 → LAt p l e s m below meth c D G ad b cells slots Q st2 [(0, .ref b), (1, .ref (ad 0)), (2, .ref (ad 130)), (3, .int v3)] 1578 []) (st : St) (hI : Inv st) : LAt p l e s m below meth c D G ad b cells slots Q st [(0, .ref b), (1, .ref (ad 0)), (2, .ref (ad 130)), (3, .int v3)] 1471 [] := by
  obtain ⟨hx, hb, hml, hown, hts, hK, had, hSt, hX, hbl, hbA⟩ := id C
  intro H locs ls hl hP hS
  refine lv_aload_n hx hb dL_law_1471 rfl (lv_at hl 1 rfl) ?_
  refine lv_aload_n hx hb dL_law_1472 rfl (lv_at hl 0 rfl) ?_
  refine lv_iload_n hx hb dL_law_1473 rfl (lv_at hl 3 rfl) ?_
  refine lv_iconst (v := 1) hx hb dL_law_1474 (by decide) ?_
  refine lv_iadd hx hb dL_law_1475 ?_
  refine va_sld hx hb hX hbl hbA hS (hv 1 (by decide)) dL_law_1476 ?_
  refine lv_aload_n hx hb dL_law_1477 rfl (lv_at hl 0 rfl) ?_
  refine lv_iload_n hx hb dL_law_1478 rfl (lv_at hl 3 rfl) ?_
  refine lv_iconst (v := 2) hx hb dL_law_1479 (by decide) ?_
  refine lv_iadd hx hb dL_law_1480 ?_
  refine va_sld hx hb hX hbl hbA hS (hv 2 (by decide)) dL_law_1481 ?_
  refine lv_aload_n hx hb dL_law_1482 rfl (lv_at hl 0 rfl) ?_
  refine lv_iload_n hx hb dL_law_1483 rfl (lv_at hl 3 rfl) ?_
  refine lv_iconst (v := 3) hx hb dL_law_1484 (by decide) ?_
  refine lv_iadd hx hb dL_law_1485 ?_
  refine va_sld hx hb hX hbl hbA hS (hv 3 (by decide)) dL_law_1486 ?_
  refine lv_i2l hx hb dL_law_1487 rfl ?_
  refine lv_bipush (v := 32) hx hb dL_law_1488 (by decide) ?_
  refine lv_lshl hx hb dL_law_1490 rfl ?_
  refine lv_aload_n hx hb dL_law_1491 rfl (lv_at hl 0 rfl) ?_
  refine lv_iload_n hx hb dL_law_1492 rfl (lv_at hl 3 rfl) ?_
  refine lv_iconst (v := 4) hx hb dL_law_1493 (by decide) ?_
  refine lv_iadd hx hb dL_law_1494 ?_
  refine va_sld hx hb hX hbl hbA hS (hv 4 (by decide)) dL_law_1495 ?_
  refine lv_i2l hx hb dL_law_1496 rfl ?_
  refine lv_ldc2 hx hb hown (hts _ wm_1_6) dL_law_1497 ?_
  refine lv_land hx hb dL_law_1500 ?_
  refine lv_lor hx hb dL_law_1501 ?_
  refine lv_aload_n hx hb dL_law_1502 rfl (lv_at hl 0 rfl) ?_
  refine lv_iload_n hx hb dL_law_1503 rfl (lv_at hl 3 rfl) ?_
  refine lv_iconst (v := 5) hx hb dL_law_1504 (by decide) ?_
  refine lv_iadd hx hb dL_law_1505 ?_
  refine va_sld hx hb hX hbl hbA hS (hv 5 (by decide)) dL_law_1506 ?_
  obtain ⟨r, st1, st2, h1, h2, hI⟩ := hp (xs (v3 + 1).toNatClampNeg) (xs (v3 + 2).toNatClampNeg) (((xs (v3 + 3).toNatClampNeg).toInt64 <<< ((32 : Int32).toInt64 &&& 63)) ||| ((xs (v3 + 4).toNatClampNeg).toInt64 &&& 4294967295)) (xs (v3 + 5).toNatClampNeg) st hI
  refine gcL_j (k := 6) (o := 0) (As := [.int (xs (v3 + 1).toNatClampNeg), .int (xs (v3 + 2).toNatClampNeg), .long (((xs (v3 + 3).toNatClampNeg).toInt64 <<< ((32 : Int32).toInt64 &&& 63)) ||| ((xs (v3 + 4).toNatClampNeg).toInt64 &&& 4294967295)), .int (xs (v3 + 5).toNatClampNeg)]) (rest := []) hx hb hml hown hts hK hSt hP hS hl.1 hcl hsl (goodV wm_49_16 wm_49_17 wm_49_18 wm_1_2 wm_49_19) okX10_calmest ct_0 rfl rfl (Nat.le_of_ble_eq_true rfl) (Nat.le_of_ble_eq_true rfl) rfl rfl (Nat.le_of_ble_eq_true rfl) dL_law_1507 (kX10_calmest l D G ad had n (xs (v3 + 1).toNatClampNeg) (xs (v3 + 2).toNatClampNeg) (((xs (v3 + 3).toNatClampNeg).toInt64 <<< ((32 : Int32).toInt64 &&& 63)) ||| ((xs (v3 + 4).toNatClampNeg).toInt64 &&& 4294967295)) (xs (v3 + 5).toNatClampNeg) st (r, st1) h1) (fun H locs hP hS => ?_)
  refine lv_aload_n hx hb dL_law_1510 rfl (lv_at hl 2 rfl) ?_
  refine lv_aload_n hx hb dL_law_1511 rfl (lv_at hl 0 rfl) ?_
  refine lv_iload_n hx hb dL_law_1512 rfl (lv_at hl 3 rfl) ?_
  refine lv_iconst (v := 1) hx hb dL_law_1513 (by decide) ?_
  refine lv_iadd hx hb dL_law_1514 ?_
  refine va_sld hx hb hX hbl hbA hS (hv 1 (by decide)) dL_law_1515 ?_
  refine lv_aload_n hx hb dL_law_1516 rfl (lv_at hl 0 rfl) ?_
  refine lv_iload_n hx hb dL_law_1517 rfl (lv_at hl 3 rfl) ?_
  refine lv_iconst (v := 2) hx hb dL_law_1518 (by decide) ?_
  refine lv_iadd hx hb dL_law_1519 ?_
  refine va_sld hx hb hX hbl hbA hS (hv 2 (by decide)) dL_law_1520 ?_
  refine lv_aload_n hx hb dL_law_1521 rfl (lv_at hl 0 rfl) ?_
  refine lv_iload_n hx hb dL_law_1522 rfl (lv_at hl 3 rfl) ?_
  refine lv_iconst (v := 3) hx hb dL_law_1523 (by decide) ?_
  refine lv_iadd hx hb dL_law_1524 ?_
  refine va_sld hx hb hX hbl hbA hS (hv 3 (by decide)) dL_law_1525 ?_
  refine lv_i2l hx hb dL_law_1526 rfl ?_
  refine lv_bipush (v := 32) hx hb dL_law_1527 (by decide) ?_
  refine lv_lshl hx hb dL_law_1529 rfl ?_
  refine lv_aload_n hx hb dL_law_1530 rfl (lv_at hl 0 rfl) ?_
  refine lv_iload_n hx hb dL_law_1531 rfl (lv_at hl 3 rfl) ?_
  refine lv_iconst (v := 4) hx hb dL_law_1532 (by decide) ?_
  refine lv_iadd hx hb dL_law_1533 ?_
  refine va_sld hx hb hX hbl hbA hS (hv 4 (by decide)) dL_law_1534 ?_
  refine lv_i2l hx hb dL_law_1535 rfl ?_
  refine lv_ldc2 hx hb hown (hts _ wm_1_6) dL_law_1536 ?_
  refine lv_land hx hb dL_law_1539 ?_
  refine lv_lor hx hb dL_law_1540 ?_
  refine lv_aload_n hx hb dL_law_1541 rfl (lv_at hl 0 rfl) ?_
  refine lv_iload_n hx hb dL_law_1542 rfl (lv_at hl 3 rfl) ?_
  refine lv_iconst (v := 5) hx hb dL_law_1543 (by decide) ?_
  refine lv_iadd hx hb dL_law_1544 ?_
  refine va_sld hx hb hX hbl hbA hS (hv 5 (by decide)) dL_law_1545 ?_
  refine gcL_j (k := 3) (o := 130) (As := [.int (xs (v3 + 1).toNatClampNeg), .int (xs (v3 + 2).toNatClampNeg), .long (((xs (v3 + 3).toNatClampNeg).toInt64 <<< ((32 : Int32).toInt64 &&& 63)) ||| ((xs (v3 + 4).toNatClampNeg).toInt64 &&& 4294967295)), .int (xs (v3 + 5).toNatClampNeg)]) (rest := [.long r]) hx hb hml hown hts hK hSt hP hS hl.1 hcl hsl (goodV wm_50_6 wm_50_7 wm_50_8 wm_1_5 wm_50_9) okX11_calmest ct_130 rfl rfl (Nat.le_of_ble_eq_true rfl) (Nat.le_of_ble_eq_true rfl) rfl rfl (Nat.le_of_ble_eq_true rfl) dL_law_1546 (kX11_calmest l D G ad had n (xs (v3 + 1).toNatClampNeg) (xs (v3 + 2).toNatClampNeg) (((xs (v3 + 3).toNatClampNeg).toInt64 <<< ((32 : Int32).toInt64 &&& 63)) ||| ((xs (v3 + 4).toNatClampNeg).toInt64 &&& 4294967295)) (xs (v3 + 5).toNatClampNeg) st1 (r, st2) h2) (fun H locs hP hS => ?_)
  refine g_lcmp_eq (tgt := 1578) hx hb dL_law_1549 dL_law_1550 (by decide) (fun q => ?_) (fun q => absurd rfl q)
  exact hnext st2 hI H locs ls hl hP hS
end
def SP_count (n : Nat) (Inv : St → Prop) : Prop := ∀ (a0 : Int32) (st : St), Inv st → ∃ (r : Int32) (st1 st2 : St), fX10_count n a0 st = some (r, st1) ∧ fX11_count n a0 st1 = some (r, st2) ∧ Inv st2
section
variable {p : Program} {l : Launch} {e : Env} {s : State} {m : MethodId} {below : List Frame} {meth : Method} {c : Code} {D : va_G} {G : G3} {ad : Nat → Nat} {b Ln : Nat} {xs : Nat → Int32} {Q : State → Prop} {cells slots : Nat}
set_option maxHeartbeats 4000000 in
set_option maxRecDepth 100000 in
theorem lwc_count (C : LCx p s m c b Ln xs D G ad) (hcl : cells ≤ 600000) (hsl : slots ≤ 7302250) (n : Nat) (Inv : St → Prop) (hp : SP_count n Inv) (v3 : Int32) (hv : ∀ k : Nat, k < 8 → vp_in (v3 + nI k) Ln) (hnext : ∀ st2 : St, Inv st2 → LAt p l e s m below meth c D G ad b cells slots Q st2 [(0, .ref b), (1, .ref (ad 0)), (2, .ref (ad 130)), (3, .int v3)] 1578 []) (st : St) (hI : Inv st) : LAt p l e s m below meth c D G ad b cells slots Q st [(0, .ref b), (1, .ref (ad 0)), (2, .ref (ad 130)), (3, .int v3)] 1555 [] := by
  obtain ⟨hx, hb, hml, hown, hts, hK, had, hSt, hX, hbl, hbA⟩ := id C
  intro H locs ls hl hP hS
  refine lv_aload_n hx hb dL_law_1555 rfl (lv_at hl 1 rfl) ?_
  refine lv_aload_n hx hb dL_law_1556 rfl (lv_at hl 0 rfl) ?_
  refine lv_iload_n hx hb dL_law_1557 rfl (lv_at hl 3 rfl) ?_
  refine lv_iconst (v := 1) hx hb dL_law_1558 (by decide) ?_
  refine lv_iadd hx hb dL_law_1559 ?_
  refine va_sld hx hb hX hbl hbA hS (hv 1 (by decide)) dL_law_1560 ?_
  obtain ⟨r, st1, st2, h1, h2, hI⟩ := hp (xs (v3 + 1).toNatClampNeg) st hI
  refine gcL_i (k := 0) (o := 0) (As := [.int (xs (v3 + 1).toNatClampNeg)]) (rest := []) hx hb hml hown hts hK hSt hP hS hl.1 hcl hsl (goodV wm_50_10 wm_50_11 wm_50_12 wm_1_2 wm_50_13) okX10_count ct_0 rfl rfl (Nat.le_of_ble_eq_true rfl) (Nat.le_of_ble_eq_true rfl) rfl rfl (Nat.le_of_ble_eq_true rfl) dL_law_1561 (kX10_count l D G ad had n (xs (v3 + 1).toNatClampNeg) st (r, st1) h1) (fun H locs hP hS => ?_)
  refine lv_aload_n hx hb dL_law_1564 rfl (lv_at hl 2 rfl) ?_
  refine lv_aload_n hx hb dL_law_1565 rfl (lv_at hl 0 rfl) ?_
  refine lv_iload_n hx hb dL_law_1566 rfl (lv_at hl 3 rfl) ?_
  refine lv_iconst (v := 1) hx hb dL_law_1567 (by decide) ?_
  refine lv_iadd hx hb dL_law_1568 ?_
  refine va_sld hx hb hX hbl hbA hS (hv 1 (by decide)) dL_law_1569 ?_
  refine gcL_i (k := 0) (o := 130) (As := [.int (xs (v3 + 1).toNatClampNeg)]) (rest := [.int r]) hx hb hml hown hts hK hSt hP hS hl.1 hcl hsl (goodV wm_50_15 wm_50_16 wm_50_17 wm_1_5 wm_50_18) okX11_count ct_130 rfl rfl (Nat.le_of_ble_eq_true rfl) (Nat.le_of_ble_eq_true rfl) rfl rfl (Nat.le_of_ble_eq_true rfl) dL_law_1570 (kX11_count l D G ad had n (xs (v3 + 1).toNatClampNeg) st1 (r, st2) h2) (fun H locs hP hS => ?_)
  refine lv_icmp_eq (tgt := 1578) hx hb dL_law_1573 (by decide) (fun q => ?_) (fun q => absurd rfl q)
  exact hnext st2 hI H locs ls hl hP hS
end
def SPall (n : Nat) (Inv : St → Prop) : Prop := SP_stage n Inv ∧ SP_set n Inv ∧ SP_use n Inv ∧ SP_allot n Inv ∧ SP_about n Inv ∧ SP_place n Inv ∧ SP_slot n Inv ∧ SP_owed n Inv ∧ SP_cost n Inv ∧ SP_kept n Inv ∧ SP_demand n Inv ∧ SP_week n Inv ∧ SP_weeks n Inv ∧ SP_feed n Inv ∧ SP_rule n Inv ∧ SP_worth n Inv ∧ SP_swing n Inv ∧ SP_gain n Inv ∧ SP_straight n Inv ∧ SP_echo n Inv ∧ SP_pole n Inv ∧ SP_loud n Inv ∧ SP_steady n Inv ∧ SP_chances n Inv ∧ SP_chance n Inv ∧ SP_level n Inv ∧ SP_levelCost n Inv ∧ SP_worst n Inv ∧ SP_worstAt n Inv ∧ SP_gets n Inv ∧ SP_calm n Inv ∧ SP_calmest n Inv ∧ SP_count n Inv
section
variable {p : Program} {l : Launch} {e : Env} {s : State} {m : MethodId} {below : List Frame} {meth : Method} {c : Code} {D : va_G} {G : G3} {ad : Nat → Nat} {b Ln : Nat} {xs : Nat → Int32} {Q : State → Prop} {cells slots : Nat}
set_option maxHeartbeats 8000000 in
set_option maxRecDepth 100000 in
theorem lw_loop (hr : meth.sig.returnType = ret) (hlk : meth.locks = false) (C : LCx p s m c b Ln xs D G ad) (hLn : Ln ≤ 4096) (hcl : cells ≤ 600000) (hsl : slots ≤ 7302250) (hnew : ∀ q, AA ad s.heap.size q → s.heap.size ≤ q) (n : Nat) (Inv : St → Prop) (hp : SPall n Inv) : ∀ (k j : Nat) (v3 : Int32) (st : St), v3 = nI j → j ≤ Ln + 8 → Ln + 8 - j < k → Inv st → LAt p l e s m below meth c D G ad b cells slots (lw_Z below #[Value.ref b] s) st [(0, .ref b), (1, .ref (ad 0)), (2, .ref (ad 130)), (3, .int v3)] 18 [] := by
  obtain ⟨hx, hb, hml, hown, hts, hK, had, hSt, hX, hbl, hbA⟩ := id C
  obtain ⟨p_stage, p_set, p_use, p_allot, p_about, p_place, p_slot, p_owed, p_cost, p_kept, p_demand, p_week, p_weeks, p_feed, p_rule, p_worth, p_swing, p_gain, p_straight, p_echo, p_pole, p_loud, p_steady, p_chances, p_chance, p_level, p_levelCost, p_worst, p_worstAt, p_gets, p_calm, p_calmest, p_count⟩ := hp
  intro k
  induction k with
  | zero => intro j v3 st _ _ hk; omega
  | succ k ih =>
    intro j v3 st e3 hj hk hI H locs ls hl hP hS
    subst e3
    refine lv_iload_n hx hb dL_law_18 rfl (lv_at hl 3 rfl) ?_
    refine lv_aload_n hx hb dL_law_19 rfl (lv_at hl 0 rfl) ?_
    refine va_slen hx hb hX hbl hbA hS dL_law_20 ?_
    refine lv_bipush (v := 8) hx hb dL_law_21 (by decide) ?_
    refine lv_isub hx hb dL_law_23 ?_
    have e1 : (Int32.ofNat Ln - 8).toInt = (Ln : Int) - 8 := pk_sub_toInt (a := Ln) (b := 8) (by omega) (by omega)
    have e2 : (nI j).toInt = (j : Int) := nI_toInt (by omega)
    refine lv_icmp_gt (tgt := 1584) hx hb dL_law_24 (by decide) (fun q => ?_) (fun q => ?_)
    · refine lv_iconst (v := 1) hx hb dL_law_1584 (by decide) ?_
      refine W.widen hcl hsl ?_
      refine va_forget (fun q hq => hnew _ (hS.2.2 q hq)) ?_
      exact lw_ret hx hb hr hlk dL_law_1585
    · have hj8 : j + 8 ≤ Ln := by
        rw [Int32.lt_iff_toInt_lt, e1, e2] at q
        omega
      have hv : ∀ k : Nat, k < 8 → vp_in (nI j + nI k) Ln := fun k hk => by rw [nI_add]; exact vp_in_nI (by omega) (by omega)
      have hv0 : vp_in (nI j) Ln := vp_in_nI (by omega) (by omega)
      have hnext : ∀ st2 : St, Inv st2 → LAt p l e s m below meth c D G ad b cells slots (lw_Z below #[Value.ref b] s) st2 [(0, .ref b), (1, .ref (ad 0)), (2, .ref (ad 130)), (3, .int (nI j))] 1578 [] := by
        intro st2 hI2 H locs ls hl hP hS
        refine lv_iinc (v := nI (j + 8)) (lv' := [(3, .int (nI (j + 8))), (0, .ref b), (1, .ref (ad 0)), (2, .ref (ad 130))]) hx hb dL_law_1578 hl (k := 3) rfl (nI_add j 8) (by decide) rfl (fun ls hl => ?_)
        refine lv_goto (tgt := 18) hx hb dL_law_1581 (by decide) ?_
        exact ih (j + 8) (nI (j + 8)) st2 rfl (by omega) (by omega) hI2 H locs ls (lv_sub hl [1, 2, 3, 0] rfl) hP hS
      refine lv_aload_n hx hb dL_law_27 rfl (lv_at hl 0 rfl) ?_
      refine lv_iload_n hx hb dL_law_28 rfl (lv_at hl 3 rfl) ?_
      refine va_sld hx hb hX hbl hbA hS hv0 dL_law_29 ?_
      refine lv_bipush (v := 63) hx hb dL_law_30 (by decide) ?_
      refine lv_iand hx hb dL_law_32 ?_
      generalize (xs (nI j).toNatClampNeg &&& 63) = X
      by_cases q : X = 0
      · rw [q]
        refine lv_tableIn (tgt := 180) hx hb dL_law_33 (by decide) (by decide) rfl (by decide) ?_
        exact lwc_stage C hcl hsl n Inv p_stage (nI j) hv hnext st hI H locs ls hl hP hS
      have q0 := q
      clear q
      by_cases q : X = 1
      · rw [q]
        refine lv_tableIn (tgt := 243) hx hb dL_law_33 (by decide) (by decide) rfl (by decide) ?_
        exact lwc_set C hcl hsl n Inv p_set (nI j) hv hnext st hI H locs ls hl hP hS
      have q1 := q
      clear q
      by_cases q : X = 2
      · rw [q]
        refine lv_tableIn (tgt := 286) hx hb dL_law_33 (by decide) (by decide) rfl (by decide) ?_
        exact lwc_use C hcl hsl n Inv p_use (nI j) hv hnext st hI H locs ls hl hP hS
      have q2 := q
      clear q
      by_cases q : X = 3
      · rw [q]
        refine lv_tableIn (tgt := 319) hx hb dL_law_33 (by decide) (by decide) rfl (by decide) ?_
        exact lwc_allot C hcl hsl n Inv p_allot (nI j) hv hnext st hI H locs ls hl hP hS
      have q3 := q
      clear q
      by_cases q : X = 4
      · rw [q]
        refine lv_tableIn (tgt := 342) hx hb dL_law_33 (by decide) (by decide) rfl (by decide) ?_
        exact lwc_about C hcl hsl n Inv p_about (nI j) hv hnext st hI H locs ls hl hP hS
      have q4 := q
      clear q
      by_cases q : X = 5
      · rw [q]
        refine lv_tableIn (tgt := 375) hx hb dL_law_33 (by decide) (by decide) rfl (by decide) ?_
        exact lwc_place C hcl hsl n Inv p_place (nI j) hv hnext st hI H locs ls hl hP hS
      have q5 := q
      clear q
      by_cases q : X = 6
      · rw [q]
        refine lv_tableIn (tgt := 399) hx hb dL_law_33 (by decide) (by decide) rfl (by decide) ?_
        exact lwc_slot C hcl hsl n Inv p_slot (nI j) hv hnext st hI H locs ls hl hP hS
      have q6 := q
      clear q
      by_cases q : X = 7
      · rw [q]
        refine lv_tableIn (tgt := 432) hx hb dL_law_33 (by decide) (by decide) rfl (by decide) ?_
        exact lwc_owed C hcl hsl n Inv p_owed (nI j) hv hnext st hI H locs ls hl hP hS
      have q7 := q
      clear q
      by_cases q : X = 8
      · rw [q]
        refine lv_tableIn (tgt := 465) hx hb dL_law_33 (by decide) (by decide) rfl (by decide) ?_
        exact lwc_cost C hcl hsl n Inv p_cost (nI j) hv hnext st hI H locs ls hl hP hS
      have q8 := q
      clear q
      by_cases q : X = 9
      · rw [q]
        refine lv_tableIn (tgt := 489) hx hb dL_law_33 (by decide) (by decide) rfl (by decide) ?_
        exact lwc_kept C hcl hsl n Inv p_kept (nI j) hv hnext st hI H locs ls hl hP hS
      have q9 := q
      clear q
      by_cases q : X = 10
      · rw [q]
        refine lv_tableIn (tgt := 513) hx hb dL_law_33 (by decide) (by decide) rfl (by decide) ?_
        exact lwc_demand C hcl hsl n Inv p_demand (nI j) hv hnext st hI H locs ls hl hP hS
      have q10 := q
      clear q
      by_cases q : X = 11
      · rw [q]
        refine lv_tableIn (tgt := 546) hx hb dL_law_33 (by decide) (by decide) rfl (by decide) ?_
        exact lwc_week C hcl hsl n Inv p_week (nI j) hv hnext st hI H locs ls hl hP hS
      have q11 := q
      clear q
      by_cases q : X = 12
      · rw [q]
        refine lv_tableIn (tgt := 559) hx hb dL_law_33 (by decide) (by decide) rfl (by decide) ?_
        exact lwc_weeks C hcl hsl n Inv p_weeks (nI j) hv hnext st hI H locs ls hl hP hS
      have q12 := q
      clear q
      by_cases q : X = 13
      · rw [q]
        refine lv_tableIn (tgt := 592) hx hb dL_law_33 (by decide) (by decide) rfl (by decide) ?_
        exact lwc_feed C hcl hsl n Inv p_feed (nI j) hv hnext st hI H locs ls hl hP hS
      have q13 := q
      clear q
      by_cases q : X = 14
      · rw [q]
        refine lv_tableIn (tgt := 655) hx hb dL_law_33 (by decide) (by decide) rfl (by decide) ?_
        exact lwc_rule C hcl hsl n Inv p_rule (nI j) hv hnext st hI H locs ls hl hP hS
      have q14 := q
      clear q
      by_cases q : X = 15
      · rw [q]
        refine lv_tableIn (tgt := 668) hx hb dL_law_33 (by decide) (by decide) rfl (by decide) ?_
        exact lwc_worth C hcl hsl n Inv p_worth (nI j) hv hnext st hI H locs ls hl hP hS
      have q15 := q
      clear q
      by_cases q : X = 16
      · rw [q]
        refine lv_tableIn (tgt := 702) hx hb dL_law_33 (by decide) (by decide) rfl (by decide) ?_
        exact lwc_swing C hcl hsl n Inv p_swing (nI j) hv hnext st hI H locs ls hl hP hS
      have q16 := q
      clear q
      by_cases q : X = 17
      · rw [q]
        refine lv_tableIn (tgt := 746) hx hb dL_law_33 (by decide) (by decide) rfl (by decide) ?_
        exact lwc_gain C hcl hsl n Inv p_gain (nI j) hv hnext st hI H locs ls hl hP hS
      have q17 := q
      clear q
      by_cases q : X = 18
      · rw [q]
        refine lv_tableIn (tgt := 790) hx hb dL_law_33 (by decide) (by decide) rfl (by decide) ?_
        exact lwc_straight C hcl hsl n Inv p_straight (nI j) hv hnext st hI H locs ls hl hP hS
      have q18 := q
      clear q
      by_cases q : X = 19
      · rw [q]
        refine lv_tableIn (tgt := 833) hx hb dL_law_33 (by decide) (by decide) rfl (by decide) ?_
        exact lwc_echo C hcl hsl n Inv p_echo (nI j) hv hnext st hI H locs ls hl hP hS
      have q19 := q
      clear q
      by_cases q : X = 20
      · rw [q]
        refine lv_tableIn (tgt := 867) hx hb dL_law_33 (by decide) (by decide) rfl (by decide) ?_
        exact lwc_pole C hcl hsl n Inv p_pole (nI j) hv hnext st hI H locs ls hl hP hS
      have q20 := q
      clear q
      by_cases q : X = 21
      · rw [q]
        refine lv_tableIn (tgt := 911) hx hb dL_law_33 (by decide) (by decide) rfl (by decide) ?_
        exact lwc_loud C hcl hsl n Inv p_loud (nI j) hv hnext st hI H locs ls hl hP hS
      have q21 := q
      clear q
      by_cases q : X = 22
      · rw [q]
        refine lv_tableIn (tgt := 945) hx hb dL_law_33 (by decide) (by decide) rfl (by decide) ?_
        exact lwc_steady C hcl hsl n Inv p_steady (nI j) hv hnext st hI H locs ls hl hP hS
      have q22 := q
      clear q
      by_cases q : X = 23
      · rw [q]
        refine lv_tableIn (tgt := 1008) hx hb dL_law_33 (by decide) (by decide) rfl (by decide) ?_
        exact lwc_chances C hcl hsl n Inv p_chances (nI j) hv hnext st hI H locs ls hl hP hS
      have q23 := q
      clear q
      by_cases q : X = 24
      · rw [q]
        refine lv_tableIn (tgt := 1031) hx hb dL_law_33 (by decide) (by decide) rfl (by decide) ?_
        exact lwc_chance C hcl hsl n Inv p_chance (nI j) hv hnext st hI H locs ls hl hP hS
      have q24 := q
      clear q
      by_cases q : X = 25
      · rw [q]
        refine lv_tableIn (tgt := 1065) hx hb dL_law_33 (by decide) (by decide) rfl (by decide) ?_
        exact lwc_level C hcl hsl n Inv p_level (nI j) hv hnext st hI H locs ls hl hP hS
      have q25 := q
      clear q
      by_cases q : X = 26
      · rw [q]
        refine lv_tableIn (tgt := 1108) hx hb dL_law_33 (by decide) (by decide) rfl (by decide) ?_
        exact lwc_levelCost C hcl hsl n Inv p_levelCost (nI j) hv hnext st hI H locs ls hl hP hS
      have q26 := q
      clear q
      by_cases q : X = 27
      · rw [q]
        refine lv_tableIn (tgt := 1162) hx hb dL_law_33 (by decide) (by decide) rfl (by decide) ?_
        exact lwc_worst C hcl hsl n Inv p_worst (nI j) hv hnext st hI H locs ls hl hP hS
      have q27 := q
      clear q
      by_cases q : X = 28
      · rw [q]
        refine lv_tableIn (tgt := 1226) hx hb dL_law_33 (by decide) (by decide) rfl (by decide) ?_
        exact lwc_worstAt C hcl hsl n Inv p_worstAt (nI j) hv hnext st hI H locs ls hl hP hS
      have q28 := q
      clear q
      by_cases q : X = 29
      · rw [q]
        refine lv_tableIn (tgt := 1249) hx hb dL_law_33 (by decide) (by decide) rfl (by decide) ?_
        exact lwc_gets C hcl hsl n Inv p_gets (nI j) hv hnext st hI H locs ls hl hP hS
      have q29 := q
      clear q
      by_cases q : X = 30
      · rw [q]
        refine lv_tableIn (tgt := 1344) hx hb dL_law_33 (by decide) (by decide) rfl (by decide) ?_
        exact lwc_calm C hcl hsl n Inv p_calm (nI j) hv hnext st hI H locs ls hl hP hS
      have q30 := q
      clear q
      by_cases q : X = 31
      · rw [q]
        refine lv_tableIn (tgt := 1471) hx hb dL_law_33 (by decide) (by decide) rfl (by decide) ?_
        exact lwc_calmest C hcl hsl n Inv p_calmest (nI j) hv hnext st hI H locs ls hl hP hS
      have q31 := q
      clear q
      by_cases q : X = 32
      · rw [q]
        refine lv_tableIn (tgt := 1555) hx hb dL_law_33 (by decide) (by decide) rfl (by decide) ?_
        exact lwc_count C hcl hsl n Inv p_count (nI j) hv hnext st hI H locs ls hl hP hS
      have q32 := q
      clear q
      have qo : X.toInt < 0 ∨ 32 < X.toInt := by
        refine Classical.byContradiction (fun w => ?_)
        have w : X.toInt = 0 ∨ X.toInt = 1 ∨ X.toInt = 2 ∨ X.toInt = 3 ∨ X.toInt = 4 ∨ X.toInt = 5 ∨ X.toInt = 6 ∨ X.toInt = 7 ∨ X.toInt = 8 ∨ X.toInt = 9 ∨ X.toInt = 10 ∨ X.toInt = 11 ∨ X.toInt = 12 ∨ X.toInt = 13 ∨ X.toInt = 14 ∨ X.toInt = 15 ∨ X.toInt = 16 ∨ X.toInt = 17 ∨ X.toInt = 18 ∨ X.toInt = 19 ∨ X.toInt = 20 ∨ X.toInt = 21 ∨ X.toInt = 22 ∨ X.toInt = 23 ∨ X.toInt = 24 ∨ X.toInt = 25 ∨ X.toInt = 26 ∨ X.toInt = 27 ∨ X.toInt = 28 ∨ X.toInt = 29 ∨ X.toInt = 30 ∨ X.toInt = 31 ∨ X.toInt = 32 := by omega
        rcases w with w | w | w | w | w | w | w | w | w | w | w | w | w | w | w | w | w | w | w | w | w | w | w | w | w | w | w | w | w | w | w | w | w
        · exact q0 (Int32.toInt_inj.mp (w.trans (by decide)))
        · exact q1 (Int32.toInt_inj.mp (w.trans (by decide)))
        · exact q2 (Int32.toInt_inj.mp (w.trans (by decide)))
        · exact q3 (Int32.toInt_inj.mp (w.trans (by decide)))
        · exact q4 (Int32.toInt_inj.mp (w.trans (by decide)))
        · exact q5 (Int32.toInt_inj.mp (w.trans (by decide)))
        · exact q6 (Int32.toInt_inj.mp (w.trans (by decide)))
        · exact q7 (Int32.toInt_inj.mp (w.trans (by decide)))
        · exact q8 (Int32.toInt_inj.mp (w.trans (by decide)))
        · exact q9 (Int32.toInt_inj.mp (w.trans (by decide)))
        · exact q10 (Int32.toInt_inj.mp (w.trans (by decide)))
        · exact q11 (Int32.toInt_inj.mp (w.trans (by decide)))
        · exact q12 (Int32.toInt_inj.mp (w.trans (by decide)))
        · exact q13 (Int32.toInt_inj.mp (w.trans (by decide)))
        · exact q14 (Int32.toInt_inj.mp (w.trans (by decide)))
        · exact q15 (Int32.toInt_inj.mp (w.trans (by decide)))
        · exact q16 (Int32.toInt_inj.mp (w.trans (by decide)))
        · exact q17 (Int32.toInt_inj.mp (w.trans (by decide)))
        · exact q18 (Int32.toInt_inj.mp (w.trans (by decide)))
        · exact q19 (Int32.toInt_inj.mp (w.trans (by decide)))
        · exact q20 (Int32.toInt_inj.mp (w.trans (by decide)))
        · exact q21 (Int32.toInt_inj.mp (w.trans (by decide)))
        · exact q22 (Int32.toInt_inj.mp (w.trans (by decide)))
        · exact q23 (Int32.toInt_inj.mp (w.trans (by decide)))
        · exact q24 (Int32.toInt_inj.mp (w.trans (by decide)))
        · exact q25 (Int32.toInt_inj.mp (w.trans (by decide)))
        · exact q26 (Int32.toInt_inj.mp (w.trans (by decide)))
        · exact q27 (Int32.toInt_inj.mp (w.trans (by decide)))
        · exact q28 (Int32.toInt_inj.mp (w.trans (by decide)))
        · exact q29 (Int32.toInt_inj.mp (w.trans (by decide)))
        · exact q30 (Int32.toInt_inj.mp (w.trans (by decide)))
        · exact q31 (Int32.toInt_inj.mp (w.trans (by decide)))
        · exact q32 (Int32.toInt_inj.mp (w.trans (by decide)))
      refine lv_tableOut (tgt := 1578) hx hb dL_law_33 qo (by decide) ?_
      exact hnext st hI H locs ls hl hP hS
end
