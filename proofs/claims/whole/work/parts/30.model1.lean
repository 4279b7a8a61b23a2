theorem wm_1_5 : Cond.initialized RX11 ∈ wsL_law := in_r1 _ (mm_at 5 rfl)
theorem wm_7_2 : Cond.fieldLink RX11 7 "OrderEchoModel" "kind" "[I" ∈ wsL_law := in_r7 _ (mm_at 2 rfl)
theorem wm_7_3 : Cond.fieldLink RX11 13 "OrderEchoModel" "supplier" "[I" ∈ wsL_law := in_r7 _ (mm_at 3 rfl)
theorem wm_7_4 : Cond.fieldLink RX11 16 "OrderEchoModel" "way" "[I" ∈ wsL_law := in_r7 _ (mm_at 4 rfl)
theorem wm_7_5 : Cond.fieldLink RX11 19 "OrderEchoModel" "delay" "[I" ∈ wsL_law := in_r7 _ (mm_at 5 rfl)
theorem wm_7_6 : Cond.fieldLink RX11 22 "OrderEchoModel" "lot" "[I" ∈ wsL_law := in_r7 _ (mm_at 6 rfl)
theorem wm_7_7 : Cond.fieldLink RX11 25 "OrderEchoModel" "cap" "[I" ∈ wsL_law := in_r7 _ (mm_at 7 rfl)
theorem wm_7_8 : Cond.fieldLink RX11 28 "OrderEchoModel" "hold" "[I" ∈ wsL_law := in_r7 _ (mm_at 8 rfl)
theorem wm_7_9 : Cond.fieldLink RX11 31 "OrderEchoModel" "lack" "[I" ∈ wsL_law := in_r7 _ (mm_at 9 rfl)
theorem wm_7_10 : Cond.fieldLink RX11 34 "OrderEchoModel" "ruleOf" "[I" ∈ wsL_law := in_r7 _ (mm_at 10 rfl)
theorem wm_7_11 : Cond.fieldLink RX11 37 "OrderEchoModel" "demand" "[I" ∈ wsL_law := in_r7 _ (mm_at 11 rfl)
theorem wm_7_12 : Cond.fieldLink RX11 40 "OrderEchoModel" "stock" "[J" ∈ wsL_law := in_r7 _ (mm_at 12 rfl)
theorem wm_7_13 : Cond.fieldLink RX11 44 "OrderEchoModel" "owed" "[J" ∈ wsL_law := in_r7 _ (mm_at 13 rfl)
theorem wm_7_14 : Cond.fieldLink RX11 47 "OrderEchoModel" "slots" "[J" ∈ wsL_law := in_r7 _ (mm_at 14 rfl)
theorem wm_7_15 : Cond.fieldLink RX11 50 "OrderEchoModel" "given" "[J" ∈ wsL_law := in_r7 _ (mm_at 15 rfl)
theorem wm_7_16 : Cond.fieldLink RX11 53 "OrderEchoModel" "cost" "[J" ∈ wsL_law := in_r7 _ (mm_at 16 rfl)
theorem wm_7_17 : Cond.fieldLink RX11 56 "OrderEchoModel" "sent" "[J" ∈ wsL_law := in_r7 _ (mm_at 17 rfl)
theorem wm_7_18 : Cond.fieldLink RX11 59 "OrderEchoModel" "seen" "[J" ∈ wsL_law := in_r7 _ (mm_at 18 rfl)
theorem wm_7_19 : Cond.fieldLink RX11 62 "OrderEchoModel" "ordered" "[J" ∈ wsL_law := in_r7 _ (mm_at 19 rfl)
theorem wm_7_20 : Cond.fieldLink RX11 65 "OrderEchoModel" "saw" "[J" ∈ wsL_law := in_r7 _ (mm_at 20 rfl)
theorem wm_7_21 : Cond.fieldLink RX11 68 "OrderEchoModel" "gave" "[J" ∈ wsL_law := in_r7 _ (mm_at 21 rfl)
theorem wm_7_22 : Cond.fieldLink RX11 71 "OrderEchoModel" "claim" "[J" ∈ wsL_law := in_r7 _ (mm_at 22 rfl)
theorem wm_7_23 : Cond.fieldLink RX11 74 "OrderEchoModel" "share" "[J" ∈ wsL_law := in_r7 _ (mm_at 23 rfl)
theorem wm_8_0 : Cond.fieldLink RX11 77 "OrderEchoModel" "length" "[I" ∈ wsL_law := in_r8 _ (mm_at 0 rfl)
theorem wm_8_1 : Cond.fieldLink RX11 80 "OrderEchoModel" "codes" "[I" ∈ wsL_law := in_r8 _ (mm_at 1 rfl)
theorem wm_8_5 : Cond.fieldLink RX11 92 "OrderEchoModel" "values" "[J" ∈ wsL_law := in_r8 _ (mm_at 5 rfl)
theorem wm_10_11 : Cond.fieldLink RX11 166 "OrderEchoModel" "stages" "I" ∈ wsL_law := in_r10 _ (mm_at 11 rfl)
theorem wm_10_12 : Cond.constantLong RX11 177 (3) ∈ wsL_law := in_r10 _ (mm_at 12 rfl)
theorem wm_10_13 : Cond.constantLong RX11 179 (6) ∈ wsL_law := in_r10 _ (mm_at 13 rfl)
theorem wm_10_14 : Cond.constantLong RX11 181 (9999) ∈ wsL_law := in_r10 _ (mm_at 14 rfl)
theorem wm_10_15 : Cond.fieldLink RX11 183 "OrderEchoModel" "week" "I" ∈ wsL_law := in_r10 _ (mm_at 15 rfl)
theorem wm_10_16 : Cond.fieldLink RX11 186 "OrderEchoModel" "first" "J" ∈ wsL_law := in_r10 _ (mm_at 16 rfl)
theorem wm_10_17 : Cond.methodLink RX11 173 yX11_isStage ∈ wsL_law := in_r10 _ (mm_at 17 rfl)
theorem wm_10_18 : Cond.instanceMethod yX11_isStage ∈ wsL_law := in_r10 _ (mm_at 18 rfl)
theorem wm_10_19 : Cond.selects RX11 yX11_isStage yX11_isStage ∈ wsL_law := in_r10 _ (mm_at 19 rfl)
theorem wm_10_20 : Cond.code yX11_isStage cX11_isStage 2 (some .boolean) ∈ wsL_law := in_r10 _ (mm_at 20 rfl)
theorem wm_10_21 : Cond.methodLink RX11 169 yX11_in ∈ wsL_law := in_r10 _ (mm_at 21 rfl)
theorem wm_10_22 : Cond.static yX11_in ∈ wsL_law := in_r10 _ (mm_at 22 rfl)
theorem wm_10_23 : Cond.code yX11_in cX11_in 6 (some .boolean) ∈ wsL_law := in_r10 _ (mm_at 23 rfl)
theorem wm_11_12 : Cond.constantLong RX11 189 (50) ∈ wsL_law := in_r11 _ (mm_at 12 rfl)
theorem wm_11_13 : Cond.constantLong RX11 191 (99) ∈ wsL_law := in_r11 _ (mm_at 13 rfl)
theorem wm_12_4 : Cond.constantLong RX11 193 (-1) ∈ wsL_law := in_r12 _ (mm_at 4 rfl)
theorem wm_12_5 : Cond.fieldLink RX11 195 "OrderEchoModel" "rules" "I" ∈ wsL_law := in_r12 _ (mm_at 5 rfl)
theorem wm_12_15 : Cond.constantLong RX11 198 (2) ∈ wsL_law := in_r12 _ (mm_at 15 rfl)
theorem wm_12_16 : Cond.fieldLink RX11 200 "OrderEchoModel" "allotment" "I" ∈ wsL_law := in_r12 _ (mm_at 16 rfl)
theorem wm_13_17 : Cond.constantLong RX11 210 (12) ∈ wsL_law := in_r13 _ (mm_at 17 rfl)
theorem wm_13_18 : Cond.methodLink RX11 207 yX11_owes ∈ wsL_law := in_r13 _ (mm_at 18 rfl)
theorem wm_13_19 : Cond.instanceMethod yX11_owes ∈ wsL_law := in_r13 _ (mm_at 19 rfl)
theorem wm_13_20 : Cond.selects RX11 yX11_owes yX11_owes ∈ wsL_law := in_r13 _ (mm_at 20 rfl)
theorem wm_13_21 : Cond.code yX11_owes cX11_owes 5 (some .long) ∈ wsL_law := in_r13 _ (mm_at 21 rfl)
theorem wm_13_22 : Cond.methodLink RX11 203 yX11_onWay ∈ wsL_law := in_r13 _ (mm_at 22 rfl)
theorem wm_13_23 : Cond.instanceMethod yX11_onWay ∈ wsL_law := in_r13 _ (mm_at 23 rfl)
theorem wm_14_0 : Cond.selects RX11 yX11_onWay yX11_onWay ∈ wsL_law := in_r14 _ (mm_at 0 rfl)
theorem wm_14_1 : Cond.code yX11_onWay cX11_onWay 5 (some .long) ∈ wsL_law := in_r14 _ (mm_at 1 rfl)
theorem wm_14_15 : Cond.constantLong RX11 215 (-9223372036854775808) ∈ wsL_law := in_r14 _ (mm_at 15 rfl)
theorem wm_14_16 : Cond.methodLink RX11 212 yX11_position ∈ wsL_law := in_r14 _ (mm_at 16 rfl)
theorem wm_14_17 : Cond.instanceMethod yX11_position ∈ wsL_law := in_r14 _ (mm_at 17 rfl)
theorem wm_14_18 : Cond.selects RX11 yX11_position yX11_position ∈ wsL_law := in_r14 _ (mm_at 18 rfl)
theorem wm_14_19 : Cond.code yX11_position cX11_position 5 (some .long) ∈ wsL_law := in_r14 _ (mm_at 19 rfl)
theorem wm_16_14 : Cond.fieldLink RX11 217 "OrderEchoModel" "made" "J" ∈ wsL_law := in_r16 _ (mm_at 14 rfl)
theorem wm_16_15 : Cond.fieldLink RX11 220 "OrderEchoModel" "sold" "J" ∈ wsL_law := in_r16 _ (mm_at 15 rfl)
theorem wm_17_0 : Cond.constantLong RX11 226 (999) ∈ wsL_law := in_r17 _ (mm_at 0 rfl)
theorem wm_17_1 : Cond.methodLink RX11 223 yX11_isShop ∈ wsL_law := in_r17 _ (mm_at 1 rfl)
theorem wm_17_2 : Cond.instanceMethod yX11_isShop ∈ wsL_law := in_r17 _ (mm_at 2 rfl)
theorem wm_17_3 : Cond.selects RX11 yX11_isShop yX11_isShop ∈ wsL_law := in_r17 _ (mm_at 3 rfl)
theorem wm_17_4 : Cond.code yX11_isShop cX11_isShop 2 (some .boolean) ∈ wsL_law := in_r17 _ (mm_at 4 rfl)
theorem wm_22_19 : Cond.methodLink RX11 243 yX11_goesBy ∈ wsL_law := in_r22 _ (mm_at 19 rfl)
theorem wm_22_20 : Cond.instanceMethod yX11_goesBy ∈ wsL_law := in_r22 _ (mm_at 20 rfl)
theorem wm_22_21 : Cond.selects RX11 yX11_goesBy yX11_goesBy ∈ wsL_law := in_r22 _ (mm_at 21 rfl)
theorem wm_22_22 : Cond.code yX11_goesBy cX11_goesBy 5 (some .int) ∈ wsL_law := in_r22 _ (mm_at 22 rfl)
theorem wm_22_23 : Cond.methodLink RX11 228 yX11_sends ∈ wsL_law := in_r22 _ (mm_at 23 rfl)
theorem wm_23_0 : Cond.instanceMethod yX11_sends ∈ wsL_law := in_r23 _ (mm_at 0 rfl)
theorem wm_23_1 : Cond.selects RX11 yX11_sends yX11_sends ∈ wsL_law := in_r23 _ (mm_at 1 rfl)
theorem wm_23_2 : Cond.code yX11_sends cX11_sends 5 (some .long) ∈ wsL_law := in_r23 _ (mm_at 2 rfl)
theorem wm_23_3 : Cond.methodLink RX11 235 yX11_shares ∈ wsL_law := in_r23 _ (mm_at 3 rfl)
theorem wm_23_4 : Cond.instanceMethod yX11_shares ∈ wsL_law := in_r23 _ (mm_at 4 rfl)
theorem wm_23_5 : Cond.selects RX11 yX11_shares yX11_shares ∈ wsL_law := in_r23 _ (mm_at 5 rfl)
theorem wm_23_6 : Cond.code yX11_shares cX11_shares 11 none ∈ wsL_law := in_r23 _ (mm_at 6 rfl)
theorem wm_23_7 : Cond.methodLink RX11 231 yX11_orders ∈ wsL_law := in_r23 _ (mm_at 7 rfl)
theorem wm_23_8 : Cond.instanceMethod yX11_orders ∈ wsL_law := in_r23 _ (mm_at 8 rfl)
theorem wm_23_9 : Cond.selects RX11 yX11_orders yX11_orders ∈ wsL_law := in_r23 _ (mm_at 9 rfl)
theorem wm_23_10 : Cond.code yX11_orders cX11_orders 4 none ∈ wsL_law := in_r23 _ (mm_at 10 rfl)
theorem wm_23_11 : Cond.methodLink RX11 239 yX11_worthOf ∈ wsL_law := in_r23 _ (mm_at 11 rfl)
theorem wm_23_12 : Cond.instanceMethod yX11_worthOf ∈ wsL_law := in_r23 _ (mm_at 12 rfl)
theorem wm_23_13 : Cond.selects RX11 yX11_worthOf yX11_worthOf ∈ wsL_law := in_r23 _ (mm_at 13 rfl)
theorem wm_23_14 : Cond.code yX11_worthOf cX11_worthOf 7 (some .long) ∈ wsL_law := in_r23 _ (mm_at 14 rfl)
theorem wm_23_15 : Cond.methodLink RX11 312 yX11_field ∈ wsL_law := in_r23 _ (mm_at 15 rfl)
theorem wm_23_16 : Cond.instanceMethod yX11_field ∈ wsL_law := in_r23 _ (mm_at 16 rfl)
theorem wm_23_17 : Cond.selects RX11 yX11_field yX11_field ∈ wsL_law := in_r23 _ (mm_at 17 rfl)
theorem wm_23_18 : Cond.code yX11_field cX11_field 4 (some .long) ∈ wsL_law := in_r23 _ (mm_at 18 rfl)
theorem wm_23_19 : Cond.methodLink RX11 308 yX11_mean ∈ wsL_law := in_r23 _ (mm_at 19 rfl)
theorem wm_23_20 : Cond.instanceMethod yX11_mean ∈ wsL_law := in_r23 _ (mm_at 20 rfl)
theorem wm_23_21 : Cond.selects RX11 yX11_mean yX11_mean ∈ wsL_law := in_r23 _ (mm_at 21 rfl)
theorem wm_23_22 : Cond.code yX11_mean cX11_mean 7 (some .long) ∈ wsL_law := in_r23 _ (mm_at 22 rfl)
theorem wm_23_23 : Cond.methodLink RX11 315 yX11_kept0 ∈ wsL_law := in_r23 _ (mm_at 23 rfl)
theorem wm_24_0 : Cond.static yX11_kept0 ∈ wsL_law := in_r24 _ (mm_at 0 rfl)
theorem wm_24_1 : Cond.code yX11_kept0 cX11_kept0 2 (some .long) ∈ wsL_law := in_r24 _ (mm_at 1 rfl)
theorem wm_24_2 : Cond.constantLong RX11 304 (1000000000) ∈ wsL_law := in_r24 _ (mm_at 2 rfl)
theorem wm_24_3 : Cond.constantLong RX11 306 (-1000000000) ∈ wsL_law := in_r24 _ (mm_at 3 rfl)
theorem wm_24_4 : Cond.methodLink RX11 319 yX11_stepOf ∈ wsL_law := in_r24 _ (mm_at 4 rfl)
theorem wm_24_5 : Cond.static yX11_stepOf ∈ wsL_law := in_r24 _ (mm_at 5 rfl)
theorem wm_24_6 : Cond.code yX11_stepOf cX11_stepOf 5 (some .long) ∈ wsL_law := in_r24 _ (mm_at 6 rfl)
theorem wm_24_15 : Cond.constantLong RX11 247 (20) ∈ wsL_law := in_r24 _ (mm_at 15 rfl)
theorem wm_24_16 : Cond.methodLink RX11 249 yX11_demands ∈ wsL_law := in_r24 _ (mm_at 16 rfl)
theorem wm_24_17 : Cond.instanceMethod yX11_demands ∈ wsL_law := in_r24 _ (mm_at 17 rfl)
theorem wm_24_18 : Cond.selects RX11 yX11_demands yX11_demands ∈ wsL_law := in_r24 _ (mm_at 18 rfl)
theorem wm_24_19 : Cond.code yX11_demands cX11_demands 3 none ∈ wsL_law := in_r24 _ (mm_at 19 rfl)
section
variable {p : Program} {l : Launch} {e : Env} {s : State} {m : MethodId} {args : Array Value} {below : List Frame} {meth : Method} {c : Code} {D : va_G} {G : G3} {ad : Nat → Nat}
def fX11_in_s18 (n : Nat)   (k0 : Int32) (st : St) : Option (Int32 × St) := if zb k0 = true then (some (k0, st)) else none
set_option maxHeartbeats 4000000 in
set_option maxRecDepth 100000 in
theorem wX11_in_s18 (C : Cx p s m args meth c cX11_in 6 wsL_law RX11 (some .boolean) D G ad) (n : Nat)   (k0 : Int32)   (st : St) (res : (Int32 × St))  (hf : fX11_in_s18 n   k0 st = some res) : At p l e (rmK 0) s m args below meth c D G ad (MQI D G ad below args s res) 6 st [] 18 [.int k0] := by
  obtain ⟨hx, hb, hml, hown, hts, hr, hlk, hK, had, hSt⟩ := id C
  intro H locs ls hl hP hS
  unfold fX11_in_s18 at hf
  obtain ⟨gz, hf⟩ := gd hf
  exact g_zret hx hb hr hlk hP hS (zb_of gz) dX11_in_18 hf
def fX11_in_s17 (n : Nat)    (st : St) : Option (Int32 × St) := fX11_in_s18 n 0 st
set_option maxHeartbeats 4000000 in
set_option maxRecDepth 100000 in
theorem wX11_in_s17 (C : Cx p s m args meth c cX11_in 6 wsL_law RX11 (some .boolean) D G ad) (n : Nat)      (st : St) (res : (Int32 × St))  (hf : fX11_in_s17 n    st = some res) : At p l e (rmK 0) s m args below meth c D G ad (MQI D G ad below args s res) 6 st [] 17 [] := by
  obtain ⟨hx, hb, hml, hown, hts, hr, hlk, hK, had, hSt⟩ := id C
  intro H locs ls hl hP hS
  unfold fX11_in_s17 at hf
  refine lv_iconst (v := 0) hx hb dX11_in_17 (by decide) ?_
  exact wX11_in_s18 C n 0 st res hf H locs ls (lv_sub hl [] rfl) hP hS
def fX11_in_s13 (n : Nat)    (st : St) : Option (Int32 × St) := fX11_in_s18 n 1 st
set_option maxHeartbeats 4000000 in
set_option maxRecDepth 100000 in
theorem wX11_in_s13 (C : Cx p s m args meth c cX11_in 6 wsL_law RX11 (some .boolean) D G ad) (n : Nat)      (st : St) (res : (Int32 × St))  (hf : fX11_in_s13 n    st = some res) : At p l e (rmK 0) s m args below meth c D G ad (MQI D G ad below args s res) 6 st [] 13 [] := by
  obtain ⟨hx, hb, hml, hown, hts, hr, hlk, hK, had, hSt⟩ := id C
  intro H locs ls hl hP hS
  unfold fX11_in_s13 at hf
  refine lv_iconst (v := 1) hx hb dX11_in_13 (by decide) ?_
  refine lv_goto (tgt := 18) hx hb dX11_in_14 (by decide) ?_
  exact wX11_in_s18 C n 1 st res hf H locs ls (lv_sub hl [] rfl) hP hS
def fX11_in_s6 (n : Nat)   (v0 : Int64) (v4 : Int64) (st : St) : Option (Int32 × St) := if v4 < v0 then fX11_in_s17 n st else fX11_in_s13 n st
set_option maxHeartbeats 4000000 in
set_option maxRecDepth 100000 in
theorem wX11_in_s6 (C : Cx p s m args meth c cX11_in 6 wsL_law RX11 (some .boolean) D G ad) (n : Nat)   (v0 : Int64) (v4 : Int64)   (st : St) (res : (Int32 × St))  (hf : fX11_in_s6 n   v0 v4 st = some res) : At p l e (rmK 0) s m args below meth c D G ad (MQI D G ad below args s res) 6 st [(0, .long v0), (4, .long v4)] 6 [] := by
  obtain ⟨hx, hb, hml, hown, hts, hr, hlk, hK, had, hSt⟩ := id C
  intro H locs ls hl hP hS
  unfold fX11_in_s6 at hf
  refine lv_lload_n hx hb dX11_in_6 rfl (lv_at hl 0 rfl) ?_
  refine lv_lload hx hb dX11_in_7 (lv_at hl 1 rfl) ?_
  refine g_lcmp_gt (tgt := 17) hx hb dX11_in_9 dX11_in_10 (by decide) (fun q => ?_) (fun q => ?_)
  · exact wX11_in_s17 C n st res (it hf q) H locs ls (lv_sub hl [] rfl) hP hS
  · exact wX11_in_s13 C n st res (ie hf q) H locs ls (lv_sub hl [] rfl) hP hS
def fX11_in_s0 (n : Nat)   (v0 : Int64) (v2 : Int64) (v4 : Int64) (st : St) : Option (Int32 × St) := if v0 < v2 then fX11_in_s17 n st else fX11_in_s6 n v0 v4 st
set_option maxHeartbeats 4000000 in
set_option maxRecDepth 100000 in
theorem wX11_in_s0 (C : Cx p s m args meth c cX11_in 6 wsL_law RX11 (some .boolean) D G ad) (n : Nat)   (v0 : Int64) (v2 : Int64) (v4 : Int64)   (st : St) (res : (Int32 × St))  (hf : fX11_in_s0 n   v0 v2 v4 st = some res) : At p l e (rmK 0) s m args below meth c D G ad (MQI D G ad below args s res) 6 st [(0, .long v0), (2, .long v2), (4, .long v4)] 0 [] := by
  obtain ⟨hx, hb, hml, hown, hts, hr, hlk, hK, had, hSt⟩ := id C
  intro H locs ls hl hP hS
  unfold fX11_in_s0 at hf
  refine lv_lload_n hx hb dX11_in_0 rfl (lv_at hl 0 rfl) ?_
  refine lv_lload_n hx hb dX11_in_1 rfl (lv_at hl 1 rfl) ?_
  refine g_lcmp_lt (tgt := 17) hx hb dX11_in_2 dX11_in_3 (by decide) (fun q => ?_) (fun q => ?_)
  · exact wX11_in_s17 C n st res (it hf q) H locs ls (lv_sub hl [] rfl) hP hS
  · exact wX11_in_s6 C n v0 v4 st res (ie hf q) H locs ls (lv_sub hl [0, 2] rfl) hP hS
def fX11_in (n : Nat)  (a0 : Int64) (a2 : Int64) (a4 : Int64) (st : St) : Option (Int32 × St) := fX11_in_s0 n a0 a2 a4 st
theorem okX11_in : okY yX11_in RX11 3 := by unfold okY; decide +kernel
end
set_option maxRecDepth 100000 in
theorem kX11_in (l : Launch) (D : va_G) (G : G3) (ad : Nat → Nat) (had : Adr ad) (n : Nat)   (a0 : Int64) (a2 : Int64) (a4 : Int64) (st : St) (res : (Int32 × St)) (hf : fX11_in n  a0 a2 a4 st = some res) {sz : Nat} : CtI l yX11_in (wsU yX11_in cX11_in 6 (some .boolean)) (rmK 0) D G ad sz [.long a0, .long a2, .long a4] st res := by
  refine Met.ofW (cc := cX11_in) (maxL := 6) (ret := (some .boolean)) (by decide) rfl ?_
  intro p e s m args below meth c s₁ B hml hv
  obtain ⟨rfl, hsz, hP, hK, hSt⟩ := hv
  have hts := atoms_spec (ws := wsU yX11_in cX11_in 6 (some .boolean)) B.pre
  have C : Cx p s m _ meth c cX11_in 6 wsL_law RX11 (some .boolean) D G ad := ⟨B.exec, B.bytes, hml, findClass_of_methodNamed B.named, fun w h => hts w (List.mem_cons_of_mem _ h), B.returns, B.notSynchronized, hK, had, hSt⟩
  subst hsz
  have hl := lv_entry ([.long a0, .long a2, .long a4]) (n := 6) (Nat.le_of_ble_eq_true rfl)
  rw [lg_entry_eq]
  generalize (lg_sl ([.long a0, .long a2, .long a4]) ++ List.replicate (6 - (lg_sl ([.long a0, .long a2, .long a4])).length) Slot.unset).toArray = ls at hl ⊢
  exact wX11_in_s0 C n  a0 a2 a4   st res hf s.heap [] ls (lv_sub hl [0, 1, 2] rfl) hP va_S.rf
section
variable {p : Program} {l : Launch} {e : Env} {s : State} {m : MethodId} {args : Array Value} {below : List Frame} {meth : Method} {c : Code} {D : va_G} {G : G3} {ad : Nat → Nat}
def fX11_isStage_s13 (n : Nat)   (k0 : Int32) (st : St) : Option (Int32 × St) := if zb k0 = true then (some (k0, st)) else none
set_option maxHeartbeats 4000000 in
set_option maxRecDepth 100000 in
theorem wX11_isStage_s13 (C : Cx p s m args meth c cX11_isStage 2 wsL_law RX11 (some .boolean) D G ad) (n : Nat)   (k0 : Int32)   (st : St) (res : (Int32 × St))  (hf : fX11_isStage_s13 n   k0 st = some res) : At p l e (rmK 1) s m args below meth c D G ad (MQI D G ad below args s res) 2 st [] 13 [.int k0] := by
  obtain ⟨hx, hb, hml, hown, hts, hr, hlk, hK, had, hSt⟩ := id C
  intro H locs ls hl hP hS
  unfold fX11_isStage_s13 at hf
  obtain ⟨gz, hf⟩ := gd hf
  exact g_zret hx hb hr hlk hP hS (zb_of gz) dX11_isStage_13 hf
def fX11_isStage_s0 (n : Nat)   (v1 : Int32) (st : St) : Option (Int32 × St) := (fX11_in n v1.toInt64 0 (((st.1 130 0) - 1).toInt64) st).bind (fun q => fX11_isStage_s13 n q.1 q.2)
set_option maxHeartbeats 4000000 in
set_option maxRecDepth 100000 in
theorem wX11_isStage_s0 (C : Cx p s m args meth c cX11_isStage 2 wsL_law RX11 (some .boolean) D G ad) (n : Nat)   (v1 : Int32)   (st : St) (res : (Int32 × St))  (hf : fX11_isStage_s0 n   v1 st = some res) : At p l e (rmK 1) s m args below meth c D G ad (MQI D G ad below args s res) 2 st [(0, .ref (ad 130)), (1, .int v1)] 0 [] := by
  obtain ⟨hx, hb, hml, hown, hts, hr, hlk, hK, had, hSt⟩ := id C
  intro H locs ls hl hP hS
  unfold fX11_isStage_s0 at hf
  refine lv_iload_n hx hb dX11_isStage_0 rfl (lv_at hl 1 rfl) ?_
  refine lv_i2l hx hb dX11_isStage_1 rfl ?_
  refine lv_lconst (v := 0) hx hb dX11_isStage_2 (by decide) ?_
  refine lv_aload_n hx hb dX11_isStage_3 rfl (lv_at hl 0 rfl) ?_
  refine g_getI hx hb hts inlX11 hown hK hP 130 ct_130 rfl 0 (by decide) (hts _ wm_10_11) rfl dX11_isStage_4 ?_
  refine lv_iconst (v := 1) hx hb dX11_isStage_7 (by decide) ?_
  refine lv_isub hx hb dX11_isStage_8 ?_
  refine lv_i2l hx hb dX11_isStage_9 rfl ?_
  obtain ⟨q, hq, hf⟩ := bd hf
  refine gcS_i (k := 0) (As := [.long v1.toInt64, .long 0, .long (((st.1 130 0) - 1).toInt64)]) (rest := []) hx hb hml hown hts hK hSt hP hS hl.1 (goodS wm_10_21 wm_10_22 wm_1_5 wm_10_23) okX11_in (Nat.le_of_ble_eq_true rfl) (Nat.le_of_ble_eq_true rfl) rfl rfl (Nat.le_of_ble_eq_true rfl) dX11_isStage_10 (kX11_in l D G ad had n  v1.toInt64 0 (((st.1 130 0) - 1).toInt64) st q hq) (fun H locs hP hS => ?_)
  exact wX11_isStage_s13 C n q.1 q.2 res hf H locs ls (lv_sub hl [] rfl) hP hS
def fX11_isStage (n : Nat)  (a1 : Int32) (st : St) : Option (Int32 × St) := fX11_isStage_s0 n a1 st
theorem okX11_isStage : okY yX11_isStage RX11 1 := by unfold okY; decide +kernel
end
set_option maxRecDepth 100000 in
theorem kX11_isStage (l : Launch) (D : va_G) (G : G3) (ad : Nat → Nat) (had : Adr ad) (n : Nat)   (a1 : Int32) (st : St) (res : (Int32 × St)) (hf : fX11_isStage n  a1 st = some res) {sz : Nat} : CtI l yX11_isStage (wsU yX11_isStage cX11_isStage 2 (some .boolean)) (rmK 1) D G ad sz [.ref (ad 130), .int a1] st res := by
  refine Met.ofW (cc := cX11_isStage) (maxL := 2) (ret := (some .boolean)) (by decide) rfl ?_
  intro p e s m args below meth c s₁ B hml hv
  obtain ⟨rfl, hsz, hP, hK, hSt⟩ := hv
  have hts := atoms_spec (ws := wsU yX11_isStage cX11_isStage 2 (some .boolean)) B.pre
  have C : Cx p s m _ meth c cX11_isStage 2 wsL_law RX11 (some .boolean) D G ad := ⟨B.exec, B.bytes, hml, findClass_of_methodNamed B.named, fun w h => hts w (List.mem_cons_of_mem _ h), B.returns, B.notSynchronized, hK, had, hSt⟩
  subst hsz
  have hl := lv_entry ([.ref (ad 130), .int a1]) (n := 2) (Nat.le_of_ble_eq_true rfl)
  rw [lg_entry_eq]
  generalize (lg_sl ([.ref (ad 130), .int a1]) ++ List.replicate (2 - (lg_sl ([.ref (ad 130), .int a1])).length) Slot.unset).toArray = ls at hl ⊢
  exact wX11_isStage_s0 C n  a1   st res hf s.heap [] ls (lv_sub hl [0, 1] rfl) hP va_S.rf
section
variable {p : Program} {l : Launch} {e : Env} {s : State} {m : MethodId} {args : Array Value} {below : List Frame} {meth : Method} {c : Code} {D : va_G} {G : G3} {ad : Nat → Nat}
def fX11_isShop_s23 (n : Nat)   (k0 : Int32) (st : St) : Option (Int32 × St) := if zb k0 = true then (some (k0, st)) else none
set_option maxHeartbeats 4000000 in
set_option maxRecDepth 100000 in
theorem wX11_isShop_s23 (C : Cx p s m args meth c cX11_isShop 2 wsL_law RX11 (some .boolean) D G ad) (n : Nat)   (k0 : Int32)   (st : St) (res : (Int32 × St))  (hf : fX11_isShop_s23 n   k0 st = some res) : At p l e (rmK 2) s m args below meth c D G ad (MQI D G ad below args s res) 2 st [] 23 [.int k0] := by
  obtain ⟨hx, hb, hml, hown, hts, hr, hlk, hK, had, hSt⟩ := id C
  intro H locs ls hl hP hS
  unfold fX11_isShop_s23 at hf
  obtain ⟨gz, hf⟩ := gd hf
  exact g_zret hx hb hr hlk hP hS (zb_of gz) dX11_isShop_23 hf
def fX11_isShop_s22 (n : Nat)    (st : St) : Option (Int32 × St) := fX11_isShop_s23 n 0 st
set_option maxHeartbeats 4000000 in
set_option maxRecDepth 100000 in
theorem wX11_isShop_s22 (C : Cx p s m args meth c cX11_isShop 2 wsL_law RX11 (some .boolean) D G ad) (n : Nat)      (st : St) (res : (Int32 × St))  (hf : fX11_isShop_s22 n    st = some res) : At p l e (rmK 2) s m args below meth c D G ad (MQI D G ad below args s res) 2 st [] 22 [] := by
  obtain ⟨hx, hb, hml, hown, hts, hr, hlk, hK, had, hSt⟩ := id C
  intro H locs ls hl hP hS
  unfold fX11_isShop_s22 at hf
  refine lv_iconst (v := 0) hx hb dX11_isShop_22 (by decide) ?_
  exact wX11_isShop_s23 C n 0 st res hf H locs ls (lv_sub hl [] rfl) hP hS
def fX11_isShop_s18 (n : Nat)    (st : St) : Option (Int32 × St) := fX11_isShop_s23 n 1 st
set_option maxHeartbeats 4000000 in
set_option maxRecDepth 100000 in
theorem wX11_isShop_s18 (C : Cx p s m args meth c cX11_isShop 2 wsL_law RX11 (some .boolean) D G ad) (n : Nat)      (st : St) (res : (Int32 × St))  (hf : fX11_isShop_s18 n    st = some res) : At p l e (rmK 2) s m args below meth c D G ad (MQI D G ad below args s res) 2 st [] 18 [] := by
  obtain ⟨hx, hb, hml, hown, hts, hr, hlk, hK, had, hSt⟩ := id C
  intro H locs ls hl hP hS
  unfold fX11_isShop_s18 at hf
  refine lv_iconst (v := 1) hx hb dX11_isShop_18 (by decide) ?_
  refine lv_goto (tgt := 23) hx hb dX11_isShop_19 (by decide) ?_
  exact wX11_isShop_s23 C n 1 st res hf H locs ls (lv_sub hl [] rfl) hP hS
def fX11_isShop_s8 (n : Nat)   (v1 : Int32) (st : St) : Option (Int32 × St) := if inb v1 8 = true then (if (st.1 131 v1.toNatClampNeg) = 3 then fX11_isShop_s18 n st else fX11_isShop_s22 n st) else none
set_option maxHeartbeats 4000000 in
set_option maxRecDepth 100000 in
theorem wX11_isShop_s8 (C : Cx p s m args meth c cX11_isShop 2 wsL_law RX11 (some .boolean) D G ad) (n : Nat)   (v1 : Int32)   (st : St) (res : (Int32 × St))  (hf : fX11_isShop_s8 n   v1 st = some res) : At p l e (rmK 2) s m args below meth c D G ad (MQI D G ad below args s res) 2 st [(0, .ref (ad 130)), (1, .int v1)] 8 [] := by
  obtain ⟨hx, hb, hml, hown, hts, hr, hlk, hK, had, hSt⟩ := id C
  intro H locs ls hl hP hS
  unfold fX11_isShop_s8 at hf
  refine lv_aload_n hx hb dX11_isShop_8 rfl (lv_at hl 0 rfl) ?_
  refine g_getR hx hb hts inlX11 hown hK hP 130 ct_130 rfl 1 (by decide) (hts _ wm_7_2) rfl dX11_isShop_9 ?_
  refine lv_iload_n hx hb dX11_isShop_12 rfl (lv_at hl 1 rfl) ?_
  obtain ⟨g1, hf⟩ := gd hf
  refine g_iald hx hb hK hP 131 ct_131 g1 dX11_isShop_13 ?_
  refine lv_iconst (v := 3) hx hb dX11_isShop_14 (by decide) ?_
  refine lv_icmp_ne (tgt := 22) hx hb dX11_isShop_15 (by decide) (fun q => ?_) (fun q => ?_)
  · exact wX11_isShop_s22 C n st res (ie hf q) H locs ls (lv_sub hl [] rfl) hP hS
  · exact wX11_isShop_s18 C n st res (it hf q) H locs ls (lv_sub hl [] rfl) hP hS
def fX11_isShop_s5 (n : Nat)   (v1 : Int32) (k0 : Int32) (st : St) : Option (Int32 × St) := if k0 = 0 then fX11_isShop_s22 n st else fX11_isShop_s8 n v1 st
set_option maxHeartbeats 4000000 in
set_option maxRecDepth 100000 in
theorem wX11_isShop_s5 (C : Cx p s m args meth c cX11_isShop 2 wsL_law RX11 (some .boolean) D G ad) (n : Nat)   (v1 : Int32) (k0 : Int32)   (st : St) (res : (Int32 × St))  (hf : fX11_isShop_s5 n   v1 k0 st = some res) : At p l e (rmK 2) s m args below meth c D G ad (MQI D G ad below args s res) 2 st [(0, .ref (ad 130)), (1, .int v1)] 5 [.int k0] := by
  obtain ⟨hx, hb, hml, hown, hts, hr, hlk, hK, had, hSt⟩ := id C
  intro H locs ls hl hP hS
  unfold fX11_isShop_s5 at hf
  refine lv_if_eq (tgt := 22) hx hb dX11_isShop_5 (by decide) (fun q => ?_) (fun q => ?_)
  · exact wX11_isShop_s22 C n st res (it hf q) H locs ls (lv_sub hl [] rfl) hP hS
  · exact wX11_isShop_s8 C n v1 st res (ie hf q) H locs ls (lv_sub hl [0, 1] rfl) hP hS
def fX11_isShop_s0 (n : Nat)   (v1 : Int32) (st : St) : Option (Int32 × St) := (fX11_isStage n v1 st).bind (fun q => fX11_isShop_s5 n v1 q.1 q.2)
set_option maxHeartbeats 4000000 in
set_option maxRecDepth 100000 in
theorem wX11_isShop_s0 (C : Cx p s m args meth c cX11_isShop 2 wsL_law RX11 (some .boolean) D G ad) (n : Nat)   (v1 : Int32)   (st : St) (res : (Int32 × St))  (hf : fX11_isShop_s0 n   v1 st = some res) : At p l e (rmK 2) s m args below meth c D G ad (MQI D G ad below args s res) 2 st [(0, .ref (ad 130)), (1, .int v1)] 0 [] := by
  obtain ⟨hx, hb, hml, hown, hts, hr, hlk, hK, had, hSt⟩ := id C
  intro H locs ls hl hP hS
  unfold fX11_isShop_s0 at hf
  refine lv_aload_n hx hb dX11_isShop_0 rfl (lv_at hl 0 rfl) ?_
  refine lv_iload_n hx hb dX11_isShop_1 rfl (lv_at hl 1 rfl) ?_
  obtain ⟨q, hq, hf⟩ := bd hf
  refine gcV_i (k := 1) (o := 130) (As := [.int v1]) (rest := []) hx hb hml hown hts hK hSt hP hS hl.1 (goodV wm_10_17 wm_10_18 wm_10_19 wm_1_5 wm_10_20) okX11_isStage ct_130 rfl rfl (Nat.le_of_ble_eq_true rfl) (Nat.le_of_ble_eq_true rfl) rfl rfl (Nat.le_of_ble_eq_true rfl) dX11_isShop_2 (kX11_isStage l D G ad had n  v1 st q hq) (fun H locs hP hS => ?_)
  exact wX11_isShop_s5 C n v1 q.1 q.2 res hf H locs ls (lv_sub hl [0, 1] rfl) hP hS
def fX11_isShop (n : Nat)  (a1 : Int32) (st : St) : Option (Int32 × St) := fX11_isShop_s0 n a1 st
theorem okX11_isShop : okY yX11_isShop RX11 1 := by unfold okY; decide +kernel
end
set_option maxRecDepth 100000 in
theorem kX11_isShop (l : Launch) (D : va_G) (G : G3) (ad : Nat → Nat) (had : Adr ad) (n : Nat)   (a1 : Int32) (st : St) (res : (Int32 × St)) (hf : fX11_isShop n  a1 st = some res) {sz : Nat} : CtI l yX11_isShop (wsU yX11_isShop cX11_isShop 2 (some .boolean)) (rmK 2) D G ad sz [.ref (ad 130), .int a1] st res := by
  refine Met.ofW (cc := cX11_isShop) (maxL := 2) (ret := (some .boolean)) (by decide) rfl ?_
  intro p e s m args below meth c s₁ B hml hv
  obtain ⟨rfl, hsz, hP, hK, hSt⟩ := hv
  have hts := atoms_spec (ws := wsU yX11_isShop cX11_isShop 2 (some .boolean)) B.pre
  have C : Cx p s m _ meth c cX11_isShop 2 wsL_law RX11 (some .boolean) D G ad := ⟨B.exec, B.bytes, hml, findClass_of_methodNamed B.named, fun w h => hts w (List.mem_cons_of_mem _ h), B.returns, B.notSynchronized, hK, had, hSt⟩
  subst hsz
  have hl := lv_entry ([.ref (ad 130), .int a1]) (n := 2) (Nat.le_of_ble_eq_true rfl)
  rw [lg_entry_eq]
  generalize (lg_sl ([.ref (ad 130), .int a1]) ++ List.replicate (2 - (lg_sl ([.ref (ad 130), .int a1])).length) Slot.unset).toArray = ls at hl ⊢
  exact wX11_isShop_s0 C n  a1   st res hf s.heap [] ls (lv_sub hl [0, 1] rfl) hP va_S.rf
section
variable {p : Program} {l : Launch} {e : Env} {s : State} {m : MethodId} {args : Array Value} {below : List Frame} {meth : Method} {c : Code} {D : va_G} {G : G3} {ad : Nat → Nat}
def fX11_stage_s117 (n : Nat)    (st : St) : Option (Int32 × St) := some ((-2), st)
set_option maxHeartbeats 4000000 in
set_option maxRecDepth 100000 in
theorem wX11_stage_s117 (C : Cx p s m args meth c cX11_stage 8 wsL_law RX11 (some .int) D G ad) (n : Nat)      (st : St) (res : (Int32 × St))  (hf : fX11_stage_s117 n    st = some res) : At p l e (rmK 2) s m args below meth c D G ad (MQI D G ad below args s res) 8 st [] 117 [] := by
  obtain ⟨hx, hb, hml, hown, hts, hr, hlk, hK, had, hSt⟩ := id C
  intro H locs ls hl hP hS
  unfold fX11_stage_s117 at hf
  refine lv_bipush (v := (-2)) hx hb dX11_stage_117 (by decide) ?_
  exact g_iret hx hb hr hlk hP hS dX11_stage_119 hf
def fX11_stage_s266 (n : Nat)   (v7 : Int32) (st : St) : Option (Int32 × St) := some (v7, st)
set_option maxHeartbeats 4000000 in
set_option maxRecDepth 100000 in
theorem wX11_stage_s266 (C : Cx p s m args meth c cX11_stage 8 wsL_law RX11 (some .int) D G ad) (n : Nat)   (v7 : Int32)   (st : St) (res : (Int32 × St))  (hf : fX11_stage_s266 n   v7 st = some res) : At p l e (rmK 2) s m args below meth c D G ad (MQI D G ad below args s res) 8 st [(7, .int v7)] 266 [] := by
  obtain ⟨hx, hb, hml, hown, hts, hr, hlk, hK, had, hSt⟩ := id C
  intro H locs ls hl hP hS
  unfold fX11_stage_s266 at hf
  refine lv_iload hx hb dX11_stage_266 (lv_at hl 0 rfl) ?_
  exact g_iret hx hb hr hlk hP hS dX11_stage_268 hf
def fX11_stage_s256 (n : Nat)   (v7 : Int32) (st : St) : Option (Int32 × St) := fX11_stage_s266 n v7 (setI st 130 0 ((st.1 130 0) + 1))
set_option maxHeartbeats 4000000 in
set_option maxRecDepth 100000 in
theorem wX11_stage_s256 (C : Cx p s m args meth c cX11_stage 8 wsL_law RX11 (some .int) D G ad) (n : Nat)   (v7 : Int32)   (st : St) (res : (Int32 × St))  (hf : fX11_stage_s256 n   v7 st = some res) : At p l e (rmK 2) s m args below meth c D G ad (MQI D G ad below args s res) 8 st [(0, .ref (ad 130)), (7, .int v7)] 256 [] := by
  obtain ⟨hx, hb, hml, hown, hts, hr, hlk, hK, had, hSt⟩ := id C
  intro H locs ls hl hP hS
  unfold fX11_stage_s256 at hf
  refine lv_aload_n hx hb dX11_stage_256 rfl (lv_at hl 0 rfl) ?_
  refine lv_dup hx hb dX11_stage_257 rfl ?_
  refine g_getI hx hb hts inlX11 hown hK hP 130 ct_130 rfl 0 (by decide) (hts _ wm_10_11) rfl dX11_stage_258 ?_
  refine lv_iconst (v := 1) hx hb dX11_stage_261 (by decide) ?_
  refine lv_iadd hx hb dX11_stage_262 ?_
  refine g_putI hx hb hts inlX11 tyX11_ok nmX11 hown hK had hP hS 130 ct_130 rfl 0 (by decide) (hts _ wm_10_11) rfl rfl rfl rfl rfl dX11_stage_263 (fun H locs hP hS => ?_)
  exact wX11_stage_s266 C n v7 (setI st 130 0 ((st.1 130 0) + 1)) res hf H locs ls (lv_sub hl [1] rfl) hP hS
def fX11_stage_s244 (n : Nat)   (v5 : Int32) (v7 : Int32) (st : St) : Option (Int32 × St) := fX11_stage_s256 n v7 (setJ st 130 11 ((st.2 130 11) + v5.toInt64))
set_option maxHeartbeats 4000000 in
set_option maxRecDepth 100000 in
theorem wX11_stage_s244 (C : Cx p s m args meth c cX11_stage 8 wsL_law RX11 (some .int) D G ad) (n : Nat)   (v5 : Int32) (v7 : Int32)   (st : St) (res : (Int32 × St))  (hf : fX11_stage_s244 n   v5 v7 st = some res) : At p l e (rmK 2) s m args below meth c D G ad (MQI D G ad below args s res) 8 st [(0, .ref (ad 130)), (5, .int v5), (7, .int v7)] 244 [] := by
  obtain ⟨hx, hb, hml, hown, hts, hr, hlk, hK, had, hSt⟩ := id C
  intro H locs ls hl hP hS
  unfold fX11_stage_s244 at hf
  refine lv_aload_n hx hb dX11_stage_244 rfl (lv_at hl 0 rfl) ?_
  refine lv_dup hx hb dX11_stage_245 rfl ?_
  refine g_getJ hx hb hts inlX11 hown hK hP 130 ct_130 rfl 11 (by decide) (hts _ wm_10_16) rfl dX11_stage_246 ?_
  refine lv_iload hx hb dX11_stage_249 (lv_at hl 1 rfl) ?_
  refine lv_i2l hx hb dX11_stage_251 rfl ?_
  refine lv_ladd hx hb dX11_stage_252 ?_
  refine g_putJ hx hb hts inlX11 tyX11_ok nmX11 hown hK had hP hS 130 ct_130 rfl 11 (by decide) (hts _ wm_10_16) rfl rfl rfl dX11_stage_253 (fun H locs hP hS => ?_)
  exact wX11_stage_s256 C n v7 (setJ st 130 11 ((st.2 130 11) + v5.toInt64)) res hf H locs ls (lv_sub hl [0, 2] rfl) hP hS
def fX11_stage_s234 (n : Nat)   (v5 : Int32) (v7 : Int32) (st : St) : Option (Int32 × St) := if inb v7 8 = true then (fX11_stage_s244 n v5 v7 (setJ st 141 v7.toNatClampNeg v5.toInt64)) else none
set_option maxHeartbeats 4000000 in
set_option maxRecDepth 100000 in
theorem wX11_stage_s234 (C : Cx p s m args meth c cX11_stage 8 wsL_law RX11 (some .int) D G ad) (n : Nat)   (v5 : Int32) (v7 : Int32)   (st : St) (res : (Int32 × St))  (hf : fX11_stage_s234 n   v5 v7 st = some res) : At p l e (rmK 2) s m args below meth c D G ad (MQI D G ad below args s res) 8 st [(0, .ref (ad 130)), (5, .int v5), (7, .int v7)] 234 [] := by
  obtain ⟨hx, hb, hml, hown, hts, hr, hlk, hK, had, hSt⟩ := id C
  intro H locs ls hl hP hS
  unfold fX11_stage_s234 at hf
  refine lv_aload_n hx hb dX11_stage_234 rfl (lv_at hl 0 rfl) ?_
  refine g_getR hx hb hts inlX11 hown hK hP 130 ct_130 rfl 16 (by decide) (hts _ wm_7_12) rfl dX11_stage_235 ?_
  refine lv_iload hx hb dX11_stage_238 (lv_at hl 2 rfl) ?_
  refine lv_iload hx hb dX11_stage_240 (lv_at hl 1 rfl) ?_
  refine lv_i2l hx hb dX11_stage_242 rfl ?_
  obtain ⟨g1, hf⟩ := gd hf
  refine g_last hx hb hK had hP hS 141 ct_141 g1 dX11_stage_243 (fun H locs hP hS => ?_)
  exact wX11_stage_s244 C n v5 v7 (setJ st 141 v7.toNatClampNeg v5.toInt64) res hf H locs ls (lv_sub hl [0, 1, 2] rfl) hP hS
def fX11_stage_s226 (n : Nat)   (v5 : Int32) (v7 : Int32) (st : St) : Option (Int32 × St) := if inb v7 8 = true then (fX11_stage_s234 n v5 v7 (setI st 139 v7.toNatClampNeg (-1))) else none
set_option maxHeartbeats 4000000 in
set_option maxRecDepth 100000 in
theorem wX11_stage_s226 (C : Cx p s m args meth c cX11_stage 8 wsL_law RX11 (some .int) D G ad) (n : Nat)   (v5 : Int32) (v7 : Int32)   (st : St) (res : (Int32 × St))  (hf : fX11_stage_s226 n   v5 v7 st = some res) : At p l e (rmK 2) s m args below meth c D G ad (MQI D G ad below args s res) 8 st [(0, .ref (ad 130)), (5, .int v5), (7, .int v7)] 226 [] := by
  obtain ⟨hx, hb, hml, hown, hts, hr, hlk, hK, had, hSt⟩ := id C
  intro H locs ls hl hP hS
  unfold fX11_stage_s226 at hf
  refine lv_aload_n hx hb dX11_stage_226 rfl (lv_at hl 0 rfl) ?_
  refine g_getR hx hb hts inlX11 hown hK hP 130 ct_130 rfl 9 (by decide) (hts _ wm_7_10) rfl dX11_stage_227 ?_
  refine lv_iload hx hb dX11_stage_230 (lv_at hl 2 rfl) ?_
  refine lv_iconst (v := (-1)) hx hb dX11_stage_232 (by decide) ?_
  obtain ⟨g1, hf⟩ := gd hf
  refine g_iast hx hb hK had hP hS 139 ct_139 g1 dX11_stage_233 (fun H locs hP hS => ?_)
  exact wX11_stage_s234 C n v5 v7 (setI st 139 v7.toNatClampNeg (-1)) res hf H locs ls (lv_sub hl [0, 1, 2] rfl) hP hS
def fX11_stage_s218 (n : Nat)   (v5 : Int32) (v7 : Int32) (st : St) : Option (Int32 × St) := if inb v7 8 = true then (fX11_stage_s226 n v5 v7 (setI st 138 v7.toNatClampNeg 1)) else none
set_option maxHeartbeats 4000000 in
set_option maxRecDepth 100000 in
theorem wX11_stage_s218 (C : Cx p s m args meth c cX11_stage 8 wsL_law RX11 (some .int) D G ad) (n : Nat)   (v5 : Int32) (v7 : Int32)   (st : St) (res : (Int32 × St))  (hf : fX11_stage_s218 n   v5 v7 st = some res) : At p l e (rmK 2) s m args below meth c D G ad (MQI D G ad below args s res) 8 st [(0, .ref (ad 130)), (5, .int v5), (7, .int v7)] 218 [] := by
  obtain ⟨hx, hb, hml, hown, hts, hr, hlk, hK, had, hSt⟩ := id C
  intro H locs ls hl hP hS
  unfold fX11_stage_s218 at hf
  refine lv_aload_n hx hb dX11_stage_218 rfl (lv_at hl 0 rfl) ?_
  refine g_getR hx hb hts inlX11 hown hK hP 130 ct_130 rfl 8 (by decide) (hts _ wm_7_9) rfl dX11_stage_219 ?_
  refine lv_iload hx hb dX11_stage_222 (lv_at hl 2 rfl) ?_
  refine lv_iconst (v := 1) hx hb dX11_stage_224 (by decide) ?_
  obtain ⟨g1, hf⟩ := gd hf
  refine g_iast hx hb hK had hP hS 138 ct_138 g1 dX11_stage_225 (fun H locs hP hS => ?_)
  exact wX11_stage_s226 C n v5 v7 (setI st 138 v7.toNatClampNeg 1) res hf H locs ls (lv_sub hl [0, 1, 2] rfl) hP hS
def fX11_stage_s210 (n : Nat)   (v5 : Int32) (v7 : Int32) (st : St) : Option (Int32 × St) := if inb v7 8 = true then (fX11_stage_s218 n v5 v7 (setI st 137 v7.toNatClampNeg 1)) else none
set_option maxHeartbeats 4000000 in
set_option maxRecDepth 100000 in
theorem wX11_stage_s210 (C : Cx p s m args meth c cX11_stage 8 wsL_law RX11 (some .int) D G ad) (n : Nat)   (v5 : Int32) (v7 : Int32)   (st : St) (res : (Int32 × St))  (hf : fX11_stage_s210 n   v5 v7 st = some res) : At p l e (rmK 2) s m args below meth c D G ad (MQI D G ad below args s res) 8 st [(0, .ref (ad 130)), (5, .int v5), (7, .int v7)] 210 [] := by
  obtain ⟨hx, hb, hml, hown, hts, hr, hlk, hK, had, hSt⟩ := id C
  intro H locs ls hl hP hS
  unfold fX11_stage_s210 at hf
  refine lv_aload_n hx hb dX11_stage_210 rfl (lv_at hl 0 rfl) ?_
  refine g_getR hx hb hts inlX11 hown hK hP 130 ct_130 rfl 7 (by decide) (hts _ wm_7_8) rfl dX11_stage_211 ?_
  refine lv_iload hx hb dX11_stage_214 (lv_at hl 2 rfl) ?_
  refine lv_iconst (v := 1) hx hb dX11_stage_216 (by decide) ?_
  obtain ⟨g1, hf⟩ := gd hf
  refine g_iast hx hb hK had hP hS 137 ct_137 g1 dX11_stage_217 (fun H locs hP hS => ?_)
  exact wX11_stage_s218 C n v5 v7 (setI st 137 v7.toNatClampNeg 1) res hf H locs ls (lv_sub hl [0, 1, 2] rfl) hP hS
def fX11_stage_s200 (n : Nat)   (v5 : Int32) (v7 : Int32) (st : St) : Option (Int32 × St) := if inb v7 8 = true then (fX11_stage_s210 n v5 v7 (setI st 136 v7.toNatClampNeg 9999)) else none
set_option maxHeartbeats 4000000 in
set_option maxRecDepth 100000 in
theorem wX11_stage_s200 (C : Cx p s m args meth c cX11_stage 8 wsL_law RX11 (some .int) D G ad) (n : Nat)   (v5 : Int32) (v7 : Int32)   (st : St) (res : (Int32 × St))  (hf : fX11_stage_s200 n   v5 v7 st = some res) : At p l e (rmK 2) s m args below meth c D G ad (MQI D G ad below args s res) 8 st [(0, .ref (ad 130)), (5, .int v5), (7, .int v7)] 200 [] := by
  obtain ⟨hx, hb, hml, hown, hts, hr, hlk, hK, had, hSt⟩ := id C
  intro H locs ls hl hP hS
  unfold fX11_stage_s200 at hf
  refine lv_aload_n hx hb dX11_stage_200 rfl (lv_at hl 0 rfl) ?_
  refine g_getR hx hb hts inlX11 hown hK hP 130 ct_130 rfl 6 (by decide) (hts _ wm_7_7) rfl dX11_stage_201 ?_
  refine lv_iload hx hb dX11_stage_204 (lv_at hl 2 rfl) ?_
  refine lv_sipush (v := 9999) hx hb dX11_stage_206 (by decide) ?_
  obtain ⟨g1, hf⟩ := gd hf
  refine g_iast hx hb hK had hP hS 136 ct_136 g1 dX11_stage_209 (fun H locs hP hS => ?_)
  exact wX11_stage_s210 C n v5 v7 (setI st 136 v7.toNatClampNeg 9999) res hf H locs ls (lv_sub hl [0, 1, 2] rfl) hP hS
def fX11_stage_s192 (n : Nat)   (v5 : Int32) (v7 : Int32) (st : St) : Option (Int32 × St) := if inb v7 8 = true then (fX11_stage_s200 n v5 v7 (setI st 135 v7.toNatClampNeg 1)) else none
set_option maxHeartbeats 4000000 in
set_option maxRecDepth 100000 in
theorem wX11_stage_s192 (C : Cx p s m args meth c cX11_stage 8 wsL_law RX11 (some .int) D G ad) (n : Nat)   (v5 : Int32) (v7 : Int32)   (st : St) (res : (Int32 × St))  (hf : fX11_stage_s192 n   v5 v7 st = some res) : At p l e (rmK 2) s m args below meth c D G ad (MQI D G ad below args s res) 8 st [(0, .ref (ad 130)), (5, .int v5), (7, .int v7)] 192 [] := by
  obtain ⟨hx, hb, hml, hown, hts, hr, hlk, hK, had, hSt⟩ := id C
  intro H locs ls hl hP hS
  unfold fX11_stage_s192 at hf
  refine lv_aload_n hx hb dX11_stage_192 rfl (lv_at hl 0 rfl) ?_
  refine g_getR hx hb hts inlX11 hown hK hP 130 ct_130 rfl 5 (by decide) (hts _ wm_7_6) rfl dX11_stage_193 ?_
  refine lv_iload hx hb dX11_stage_196 (lv_at hl 2 rfl) ?_
  refine lv_iconst (v := 1) hx hb dX11_stage_198 (by decide) ?_
  obtain ⟨g1, hf⟩ := gd hf
  refine g_iast hx hb hK had hP hS 135 ct_135 g1 dX11_stage_199 (fun H locs hP hS => ?_)
  exact wX11_stage_s200 C n v5 v7 (setI st 135 v7.toNatClampNeg 1) res hf H locs ls (lv_sub hl [0, 1, 2] rfl) hP hS
def fX11_stage_s183 (n : Nat)   (v4 : Int32) (v5 : Int32) (v7 : Int32) (st : St) : Option (Int32 × St) := if inb v7 8 = true then (fX11_stage_s192 n v5 v7 (setI st 134 v7.toNatClampNeg v4)) else none
set_option maxHeartbeats 4000000 in
set_option maxRecDepth 100000 in
theorem wX11_stage_s183 (C : Cx p s m args meth c cX11_stage 8 wsL_law RX11 (some .int) D G ad) (n : Nat)   (v4 : Int32) (v5 : Int32) (v7 : Int32)   (st : St) (res : (Int32 × St))  (hf : fX11_stage_s183 n   v4 v5 v7 st = some res) : At p l e (rmK 2) s m args below meth c D G ad (MQI D G ad below args s res) 8 st [(0, .ref (ad 130)), (4, .int v4), (5, .int v5), (7, .int v7)] 183 [] := by
  obtain ⟨hx, hb, hml, hown, hts, hr, hlk, hK, had, hSt⟩ := id C
  intro H locs ls hl hP hS
  unfold fX11_stage_s183 at hf
  refine lv_aload_n hx hb dX11_stage_183 rfl (lv_at hl 0 rfl) ?_
  refine g_getR hx hb hts inlX11 hown hK hP 130 ct_130 rfl 4 (by decide) (hts _ wm_7_5) rfl dX11_stage_184 ?_
  refine lv_iload hx hb dX11_stage_187 (lv_at hl 3 rfl) ?_
  refine lv_iload hx hb dX11_stage_189 (lv_at hl 1 rfl) ?_
  obtain ⟨g1, hf⟩ := gd hf
  refine g_iast hx hb hK had hP hS 134 ct_134 g1 dX11_stage_191 (fun H locs hP hS => ?_)
  exact wX11_stage_s192 C n v5 v7 (setI st 134 v7.toNatClampNeg v4) res hf H locs ls (lv_sub hl [0, 2, 3] rfl) hP hS
def fX11_stage_s175 (n : Nat)   (v3 : Int32) (v4 : Int32) (v5 : Int32) (v7 : Int32) (st : St) : Option (Int32 × St) := if inb v7 8 = true then (fX11_stage_s183 n v4 v5 v7 (setI st 133 v7.toNatClampNeg v3)) else none
set_option maxHeartbeats 4000000 in
set_option maxRecDepth 100000 in
theorem wX11_stage_s175 (C : Cx p s m args meth c cX11_stage 8 wsL_law RX11 (some .int) D G ad) (n : Nat)   (v3 : Int32) (v4 : Int32) (v5 : Int32) (v7 : Int32)   (st : St) (res : (Int32 × St))  (hf : fX11_stage_s175 n   v3 v4 v5 v7 st = some res) : At p l e (rmK 2) s m args below meth c D G ad (MQI D G ad below args s res) 8 st [(0, .ref (ad 130)), (3, .int v3), (4, .int v4), (5, .int v5), (7, .int v7)] 175 [] := by
  obtain ⟨hx, hb, hml, hown, hts, hr, hlk, hK, had, hSt⟩ := id C
  intro H locs ls hl hP hS
  unfold fX11_stage_s175 at hf
  refine lv_aload_n hx hb dX11_stage_175 rfl (lv_at hl 0 rfl) ?_
  refine g_getR hx hb hts inlX11 hown hK hP 130 ct_130 rfl 3 (by decide) (hts _ wm_7_4) rfl dX11_stage_176 ?_
  refine lv_iload hx hb dX11_stage_179 (lv_at hl 4 rfl) ?_
  refine lv_iload_n hx hb dX11_stage_181 rfl (lv_at hl 1 rfl) ?_
  obtain ⟨g1, hf⟩ := gd hf
  refine g_iast hx hb hK had hP hS 133 ct_133 g1 dX11_stage_182 (fun H locs hP hS => ?_)
  exact wX11_stage_s183 C n v4 v5 v7 (setI st 133 v7.toNatClampNeg v3) res hf H locs ls (lv_sub hl [0, 2, 3, 4] rfl) hP hS
def fX11_stage_s174 (n : Nat)   (v3 : Int32) (v4 : Int32) (v5 : Int32) (v7 : Int32) (k1 : Int32) (k2 : Int32) (st : St) : Option (Int32 × St) := if inb k1 8 = true then (fX11_stage_s175 n v3 v4 v5 v7 (setI st 132 k1.toNatClampNeg k2)) else none
set_option maxHeartbeats 4000000 in
set_option maxRecDepth 100000 in
theorem wX11_stage_s174 (C : Cx p s m args meth c cX11_stage 8 wsL_law RX11 (some .int) D G ad) (n : Nat)   (v3 : Int32) (v4 : Int32) (v5 : Int32) (v7 : Int32) (k1 : Int32) (k2 : Int32)   (st : St) (res : (Int32 × St))  (hf : fX11_stage_s174 n   v3 v4 v5 v7 k1 k2 st = some res) : At p l e (rmK 2) s m args below meth c D G ad (MQI D G ad below args s res) 8 st [(0, .ref (ad 130)), (3, .int v3), (4, .int v4), (5, .int v5), (7, .int v7)] 174 [.int k2, .int k1, .ref (ad 132)] := by
  obtain ⟨hx, hb, hml, hown, hts, hr, hlk, hK, had, hSt⟩ := id C
  intro H locs ls hl hP hS
  unfold fX11_stage_s174 at hf
  obtain ⟨g1, hf⟩ := gd hf
  refine g_iast hx hb hK had hP hS 132 ct_132 g1 dX11_stage_174 (fun H locs hP hS => ?_)
  exact wX11_stage_s175 C n v3 v4 v5 v7 (setI st 132 k1.toNatClampNeg k2) res hf H locs ls (lv_sub hl [0, 1, 2, 3, 4] rfl) hP hS
def fX11_stage_s173 (n : Nat)   (v2 : Int32) (v3 : Int32) (v4 : Int32) (v5 : Int32) (v7 : Int32) (k1 : Int32) (st : St) : Option (Int32 × St) := fX11_stage_s174 n v3 v4 v5 v7 k1 v2 st
set_option maxHeartbeats 4000000 in
set_option maxRecDepth 100000 in
theorem wX11_stage_s173 (C : Cx p s m args meth c cX11_stage 8 wsL_law RX11 (some .int) D G ad) (n : Nat)   (v2 : Int32) (v3 : Int32) (v4 : Int32) (v5 : Int32) (v7 : Int32) (k1 : Int32)   (st : St) (res : (Int32 × St))  (hf : fX11_stage_s173 n   v2 v3 v4 v5 v7 k1 st = some res) : At p l e (rmK 2) s m args below meth c D G ad (MQI D G ad below args s res) 8 st [(0, .ref (ad 130)), (2, .int v2), (3, .int v3), (4, .int v4), (5, .int v5), (7, .int v7)] 173 [.int k1, .ref (ad 132)] := by
  obtain ⟨hx, hb, hml, hown, hts, hr, hlk, hK, had, hSt⟩ := id C
  intro H locs ls hl hP hS
  unfold fX11_stage_s173 at hf
  refine lv_iload_n hx hb dX11_stage_173 rfl (lv_at hl 1 rfl) ?_
  exact wX11_stage_s174 C n v3 v4 v5 v7 k1 v2 st res hf H locs ls (lv_sub hl [0, 2, 3, 4, 5] rfl) hP hS
def fX11_stage_s169 (n : Nat)   (v3 : Int32) (v4 : Int32) (v5 : Int32) (v7 : Int32) (k1 : Int32) (st : St) : Option (Int32 × St) := fX11_stage_s174 n v3 v4 v5 v7 k1 (-1) st
set_option maxHeartbeats 4000000 in
set_option maxRecDepth 100000 in
theorem wX11_stage_s169 (C : Cx p s m args meth c cX11_stage 8 wsL_law RX11 (some .int) D G ad) (n : Nat)   (v3 : Int32) (v4 : Int32) (v5 : Int32) (v7 : Int32) (k1 : Int32)   (st : St) (res : (Int32 × St))  (hf : fX11_stage_s169 n   v3 v4 v5 v7 k1 st = some res) : At p l e (rmK 2) s m args below meth c D G ad (MQI D G ad below args s res) 8 st [(0, .ref (ad 130)), (3, .int v3), (4, .int v4), (5, .int v5), (7, .int v7)] 169 [.int k1, .ref (ad 132)] := by
  obtain ⟨hx, hb, hml, hown, hts, hr, hlk, hK, had, hSt⟩ := id C
  intro H locs ls hl hP hS
  unfold fX11_stage_s169 at hf
  refine lv_iconst (v := (-1)) hx hb dX11_stage_169 (by decide) ?_
  refine lv_goto (tgt := 174) hx hb dX11_stage_170 (by decide) ?_
  exact wX11_stage_s174 C n v3 v4 v5 v7 k1 (-1) st res hf H locs ls (lv_sub hl [0, 1, 2, 3, 4] rfl) hP hS
def fX11_stage_s156 (n : Nat)   (v2 : Int32) (v3 : Int32) (v4 : Int32) (v5 : Int32) (v7 : Int32) (st : St) : Option (Int32 × St) := if (st.1 130 0) = 0 then fX11_stage_s169 n v3 v4 v5 v7 v7 st else fX11_stage_s173 n v2 v3 v4 v5 v7 v7 st
set_option maxHeartbeats 4000000 in
set_option maxRecDepth 100000 in
theorem wX11_stage_s156 (C : Cx p s m args meth c cX11_stage 8 wsL_law RX11 (some .int) D G ad) (n : Nat)   (v2 : Int32) (v3 : Int32) (v4 : Int32) (v5 : Int32) (v7 : Int32)   (st : St) (res : (Int32 × St))  (hf : fX11_stage_s156 n   v2 v3 v4 v5 v7 st = some res) : At p l e (rmK 2) s m args below meth c D G ad (MQI D G ad below args s res) 8 st [(0, .ref (ad 130)), (2, .int v2), (3, .int v3), (4, .int v4), (5, .int v5), (7, .int v7)] 156 [] := by
  obtain ⟨hx, hb, hml, hown, hts, hr, hlk, hK, had, hSt⟩ := id C
  intro H locs ls hl hP hS
  unfold fX11_stage_s156 at hf
  refine lv_aload_n hx hb dX11_stage_156 rfl (lv_at hl 0 rfl) ?_
  refine g_getR hx hb hts inlX11 hown hK hP 130 ct_130 rfl 2 (by decide) (hts _ wm_7_3) rfl dX11_stage_157 ?_
  refine lv_iload hx hb dX11_stage_160 (lv_at hl 5 rfl) ?_
  refine lv_aload_n hx hb dX11_stage_162 rfl (lv_at hl 0 rfl) ?_
  refine g_getI hx hb hts inlX11 hown hK hP 130 ct_130 rfl 0 (by decide) (hts _ wm_10_11) rfl dX11_stage_163 ?_
  refine lv_if_ne (tgt := 173) hx hb dX11_stage_166 (by decide) (fun q => ?_) (fun q => ?_)
  · exact wX11_stage_s173 C n v2 v3 v4 v5 v7 v7 st res (ie hf q) H locs ls (lv_sub hl [0, 1, 2, 3, 4, 5] rfl) hP hS
  · exact wX11_stage_s169 C n v3 v4 v5 v7 v7 st res (it hf q) H locs ls (lv_sub hl [0, 2, 3, 4, 5] rfl) hP hS
def fX11_stage_s142 (n : Nat)   (v1 : Int32) (v2 : Int32) (v3 : Int32) (v4 : Int32) (v5 : Int32) (st : St) : Option (Int32 × St) := if inb (st.1 130 0) 8 = true then (fX11_stage_s156 n v2 v3 v4 v5 (st.1 130 0) (setI st 131 (st.1 130 0).toNatClampNeg v1)) else none
set_option maxHeartbeats 4000000 in
set_option maxRecDepth 100000 in
theorem wX11_stage_s142 (C : Cx p s m args meth c cX11_stage 8 wsL_law RX11 (some .int) D G ad) (n : Nat)   (v1 : Int32) (v2 : Int32) (v3 : Int32) (v4 : Int32) (v5 : Int32)   (st : St) (res : (Int32 × St))  (hf : fX11_stage_s142 n   v1 v2 v3 v4 v5 st = some res) : At p l e (rmK 2) s m args below meth c D G ad (MQI D G ad below args s res) 8 st [(0, .ref (ad 130)), (1, .int v1), (2, .int v2), (3, .int v3), (4, .int v4), (5, .int v5)] 142 [] := by
  obtain ⟨hx, hb, hml, hown, hts, hr, hlk, hK, had, hSt⟩ := id C
  intro H locs ls hl hP hS
  unfold fX11_stage_s142 at hf
  refine lv_aload_n hx hb dX11_stage_142 rfl (lv_at hl 0 rfl) ?_
  refine g_getI hx hb hts inlX11 hown hK hP 130 ct_130 rfl 0 (by decide) (hts _ wm_10_11) rfl dX11_stage_143 ?_
  refine lv_istore (lv' := [(7, .int (st.1 130 0)), (0, .ref (ad 130)), (1, .int v1), (2, .int v2), (3, .int v3), (4, .int v4), (5, .int v5)]) hx hb dX11_stage_146 hl (by decide) rfl (fun ls hl => ?_)
  refine lv_aload_n hx hb dX11_stage_148 rfl (lv_at hl 1 rfl) ?_
  refine g_getR hx hb hts inlX11 hown hK hP 130 ct_130 rfl 1 (by decide) (hts _ wm_7_2) rfl dX11_stage_149 ?_
  refine lv_iload hx hb dX11_stage_152 (lv_at hl 0 rfl) ?_
  refine lv_iload_n hx hb dX11_stage_154 rfl (lv_at hl 2 rfl) ?_
  obtain ⟨g1, hf⟩ := gd hf
  refine g_iast hx hb hK had hP hS 131 ct_131 g1 dX11_stage_155 (fun H locs hP hS => ?_)
  exact wX11_stage_s156 C n v2 v3 v4 v5 (st.1 130 0) (setI st 131 (st.1 130 0).toNatClampNeg v1) res hf H locs ls (lv_sub hl [1, 3, 4, 5, 6, 0] rfl) hP hS
def fX11_stage_s139 (n : Nat)    (st : St) : Option (Int32 × St) := some ((-4), st)
set_option maxHeartbeats 4000000 in
set_option maxRecDepth 100000 in
theorem wX11_stage_s139 (C : Cx p s m args meth c cX11_stage 8 wsL_law RX11 (some .int) D G ad) (n : Nat)      (st : St) (res : (Int32 × St))  (hf : fX11_stage_s139 n    st = some res) : At p l e (rmK 2) s m args below meth c D G ad (MQI D G ad below args s res) 8 st [] 139 [] := by
  obtain ⟨hx, hb, hml, hown, hts, hr, hlk, hK, had, hSt⟩ := id C
  intro H locs ls hl hP hS
  unfold fX11_stage_s139 at hf
  refine lv_bipush (v := (-4)) hx hb dX11_stage_139 (by decide) ?_
  exact g_iret hx hb hr hlk hP hS dX11_stage_141 hf
def fX11_stage_s130 (n : Nat)   (v1 : Int32) (v2 : Int32) (v3 : Int32) (v4 : Int32) (v5 : Int32) (st : St) : Option (Int32 × St) := if (st.1 130 0) = 8 then fX11_stage_s139 n st else fX11_stage_s142 n v1 v2 v3 v4 v5 st
set_option maxHeartbeats 4000000 in
set_option maxRecDepth 100000 in
theorem wX11_stage_s130 (C : Cx p s m args meth c cX11_stage 8 wsL_law RX11 (some .int) D G ad) (n : Nat)   (v1 : Int32) (v2 : Int32) (v3 : Int32) (v4 : Int32) (v5 : Int32)   (st : St) (res : (Int32 × St))  (hf : fX11_stage_s130 n   v1 v2 v3 v4 v5 st = some res) : At p l e (rmK 2) s m args below meth c D G ad (MQI D G ad below args s res) 8 st [(0, .ref (ad 130)), (1, .int v1), (2, .int v2), (3, .int v3), (4, .int v4), (5, .int v5)] 130 [] := by
  obtain ⟨hx, hb, hml, hown, hts, hr, hlk, hK, had, hSt⟩ := id C
  intro H locs ls hl hP hS
  unfold fX11_stage_s130 at hf
  refine lv_aload_n hx hb dX11_stage_130 rfl (lv_at hl 0 rfl) ?_
  refine g_getI hx hb hts inlX11 hown hK hP 130 ct_130 rfl 0 (by decide) (hts _ wm_10_11) rfl dX11_stage_131 ?_
  refine lv_bipush (v := 8) hx hb dX11_stage_134 (by decide) ?_
  refine lv_icmp_ne (tgt := 142) hx hb dX11_stage_136 (by decide) (fun q => ?_) (fun q => ?_)
  · exact wX11_stage_s142 C n v1 v2 v3 v4 v5 st res (ie hf q) H locs ls (lv_sub hl [0, 1, 2, 3, 4, 5] rfl) hP hS
  · exact wX11_stage_s139 C n st res (it hf q) H locs ls (lv_sub hl [] rfl) hP hS
def fX11_stage_s127 (n : Nat)    (st : St) : Option (Int32 × St) := some ((-3), st)
set_option maxHeartbeats 4000000 in
set_option maxRecDepth 100000 in
theorem wX11_stage_s127 (C : Cx p s m args meth c cX11_stage 8 wsL_law RX11 (some .int) D G ad) (n : Nat)      (st : St) (res : (Int32 × St))  (hf : fX11_stage_s127 n    st = some res) : At p l e (rmK 2) s m args below meth c D G ad (MQI D G ad below args s res) 8 st [] 127 [] := by
  obtain ⟨hx, hb, hml, hown, hts, hr, hlk, hK, had, hSt⟩ := id C
  intro H locs ls hl hP hS
  unfold fX11_stage_s127 at hf
  refine lv_bipush (v := (-3)) hx hb dX11_stage_127 (by decide) ?_
  exact g_iret hx hb hr hlk hP hS dX11_stage_129 hf
def fX11_stage_s120 (n : Nat)   (v1 : Int32) (v2 : Int32) (v3 : Int32) (v4 : Int32) (v5 : Int32) (st : St) : Option (Int32 × St) := if (st.1 130 12) ≤ 0 then fX11_stage_s130 n v1 v2 v3 v4 v5 st else fX11_stage_s127 n st
set_option maxHeartbeats 4000000 in
set_option maxRecDepth 100000 in
theorem wX11_stage_s120 (C : Cx p s m args meth c cX11_stage 8 wsL_law RX11 (some .int) D G ad) (n : Nat)   (v1 : Int32) (v2 : Int32) (v3 : Int32) (v4 : Int32) (v5 : Int32)   (st : St) (res : (Int32 × St))  (hf : fX11_stage_s120 n   v1 v2 v3 v4 v5 st = some res) : At p l e (rmK 2) s m args below meth c D G ad (MQI D G ad below args s res) 8 st [(0, .ref (ad 130)), (1, .int v1), (2, .int v2), (3, .int v3), (4, .int v4), (5, .int v5)] 120 [] := by
  obtain ⟨hx, hb, hml, hown, hts, hr, hlk, hK, had, hSt⟩ := id C
  intro H locs ls hl hP hS
  unfold fX11_stage_s120 at hf
  refine lv_aload_n hx hb dX11_stage_120 rfl (lv_at hl 0 rfl) ?_
  refine g_getI hx hb hts inlX11 hown hK hP 130 ct_130 rfl 12 (by decide) (hts _ wm_10_15) rfl dX11_stage_121 ?_
  refine lv_if_le (tgt := 130) hx hb dX11_stage_124 (by decide) (fun q => ?_) (fun q => ?_)
  · exact wX11_stage_s130 C n v1 v2 v3 v4 v5 st res (it hf q) H locs ls (lv_sub hl [0, 1, 2, 3, 4, 5] rfl) hP hS
  · exact wX11_stage_s127 C n st res (ie hf q) H locs ls (lv_sub hl [] rfl) hP hS
def fX11_stage_s107 (n : Nat)   (v1 : Int32) (v2 : Int32) (v3 : Int32) (v4 : Int32) (v5 : Int32) (st : St) : Option (Int32 × St) := if inb v2 8 = true then (if (st.1 131 v2.toNatClampNeg) = 3 then fX11_stage_s117 n st else fX11_stage_s120 n v1 v2 v3 v4 v5 st) else none
set_option maxHeartbeats 4000000 in
set_option maxRecDepth 100000 in
theorem wX11_stage_s107 (C : Cx p s m args meth c cX11_stage 8 wsL_law RX11 (some .int) D G ad) (n : Nat)   (v1 : Int32) (v2 : Int32) (v3 : Int32) (v4 : Int32) (v5 : Int32)   (st : St) (res : (Int32 × St))  (hf : fX11_stage_s107 n   v1 v2 v3 v4 v5 st = some res) : At p l e (rmK 2) s m args below meth c D G ad (MQI D G ad below args s res) 8 st [(0, .ref (ad 130)), (1, .int v1), (2, .int v2), (3, .int v3), (4, .int v4), (5, .int v5)] 107 [] := by
  obtain ⟨hx, hb, hml, hown, hts, hr, hlk, hK, had, hSt⟩ := id C
  intro H locs ls hl hP hS
  unfold fX11_stage_s107 at hf
  refine lv_aload_n hx hb dX11_stage_107 rfl (lv_at hl 0 rfl) ?_
  refine g_getR hx hb hts inlX11 hown hK hP 130 ct_130 rfl 1 (by decide) (hts _ wm_7_2) rfl dX11_stage_108 ?_
  refine lv_iload_n hx hb dX11_stage_111 rfl (lv_at hl 2 rfl) ?_
  obtain ⟨g1, hf⟩ := gd hf
  refine g_iald hx hb hK hP 131 ct_131 g1 dX11_stage_112 ?_
  refine lv_iconst (v := 3) hx hb dX11_stage_113 (by decide) ?_
  refine lv_icmp_ne (tgt := 120) hx hb dX11_stage_114 (by decide) (fun q => ?_) (fun q => ?_)
  · exact wX11_stage_s120 C n v1 v2 v3 v4 v5 st res (ie hf q) H locs ls (lv_sub hl [0, 1, 2, 3, 4, 5] rfl) hP hS
  · exact wX11_stage_s117 C n st res (it hf q) H locs ls (lv_sub hl [] rfl) hP hS
def fX11_stage_s100 (n : Nat)   (v1 : Int32) (v2 : Int32) (v3 : Int32) (v4 : Int32) (v5 : Int32) (st : St) : Option (Int32 × St) := if (st.1 130 0) ≤ 0 then fX11_stage_s120 n v1 v2 v3 v4 v5 st else fX11_stage_s107 n v1 v2 v3 v4 v5 st
set_option maxHeartbeats 4000000 in
set_option maxRecDepth 100000 in
theorem wX11_stage_s100 (C : Cx p s m args meth c cX11_stage 8 wsL_law RX11 (some .int) D G ad) (n : Nat)   (v1 : Int32) (v2 : Int32) (v3 : Int32) (v4 : Int32) (v5 : Int32)   (st : St) (res : (Int32 × St))  (hf : fX11_stage_s100 n   v1 v2 v3 v4 v5 st = some res) : At p l e (rmK 2) s m args below meth c D G ad (MQI D G ad below args s res) 8 st [(0, .ref (ad 130)), (1, .int v1), (2, .int v2), (3, .int v3), (4, .int v4), (5, .int v5)] 100 [] := by
  obtain ⟨hx, hb, hml, hown, hts, hr, hlk, hK, had, hSt⟩ := id C
  intro H locs ls hl hP hS
  unfold fX11_stage_s100 at hf
  refine lv_aload_n hx hb dX11_stage_100 rfl (lv_at hl 0 rfl) ?_
  refine g_getI hx hb hts inlX11 hown hK hP 130 ct_130 rfl 0 (by decide) (hts _ wm_10_11) rfl dX11_stage_101 ?_
  refine lv_if_le (tgt := 120) hx hb dX11_stage_104 (by decide) (fun q => ?_) (fun q => ?_)
  · exact wX11_stage_s120 C n v1 v2 v3 v4 v5 st res (it hf q) H locs ls (lv_sub hl [0, 1, 2, 3, 4, 5] rfl) hP hS
  · exact wX11_stage_s107 C n v1 v2 v3 v4 v5 st res (ie hf q) H locs ls (lv_sub hl [0, 1, 2, 3, 4, 5] rfl) hP hS
def fX11_stage_s93 (n : Nat)   (v1 : Int32) (v2 : Int32) (v3 : Int32) (v4 : Int32) (v5 : Int32) (k0 : Int32) (st : St) : Option (Int32 × St) := if k0 = 0 then fX11_stage_s117 n st else fX11_stage_s100 n v1 v2 v3 v4 v5 st
set_option maxHeartbeats 4000000 in
set_option maxRecDepth 100000 in
theorem wX11_stage_s93 (C : Cx p s m args meth c cX11_stage 8 wsL_law RX11 (some .int) D G ad) (n : Nat)   (v1 : Int32) (v2 : Int32) (v3 : Int32) (v4 : Int32) (v5 : Int32) (k0 : Int32)   (st : St) (res : (Int32 × St))  (hf : fX11_stage_s93 n   v1 v2 v3 v4 v5 k0 st = some res) : At p l e (rmK 2) s m args below meth c D G ad (MQI D G ad below args s res) 8 st [(0, .ref (ad 130)), (1, .int v1), (2, .int v2), (3, .int v3), (4, .int v4), (5, .int v5)] 93 [.int k0] := by
  obtain ⟨hx, hb, hml, hown, hts, hr, hlk, hK, had, hSt⟩ := id C
  intro H locs ls hl hP hS
  unfold fX11_stage_s93 at hf
  refine lv_istore (lv' := [(6, .int k0), (0, .ref (ad 130)), (1, .int v1), (2, .int v2), (3, .int v3), (4, .int v4), (5, .int v5)]) hx hb dX11_stage_93 hl (by decide) rfl (fun ls hl => ?_)
  refine lv_iload hx hb dX11_stage_95 (lv_at hl 0 rfl) ?_
  refine lv_if_eq (tgt := 117) hx hb dX11_stage_97 (by decide) (fun q => ?_) (fun q => ?_)
  · exact wX11_stage_s117 C n st res (it hf q) H locs ls (lv_sub hl [] rfl) hP hS
  · exact wX11_stage_s100 C n v1 v2 v3 v4 v5 st res (ie hf q) H locs ls (lv_sub hl [1, 2, 3, 4, 5, 6] rfl) hP hS
def fX11_stage_s92 (n : Nat)   (v1 : Int32) (v2 : Int32) (v3 : Int32) (v4 : Int32) (v5 : Int32) (st : St) : Option (Int32 × St) := fX11_stage_s93 n v1 v2 v3 v4 v5 0 st
set_option maxHeartbeats 4000000 in
set_option maxRecDepth 100000 in
theorem wX11_stage_s92 (C : Cx p s m args meth c cX11_stage 8 wsL_law RX11 (some .int) D G ad) (n : Nat)   (v1 : Int32) (v2 : Int32) (v3 : Int32) (v4 : Int32) (v5 : Int32)   (st : St) (res : (Int32 × St))  (hf : fX11_stage_s92 n   v1 v2 v3 v4 v5 st = some res) : At p l e (rmK 2) s m args below meth c D G ad (MQI D G ad below args s res) 8 st [(0, .ref (ad 130)), (1, .int v1), (2, .int v2), (3, .int v3), (4, .int v4), (5, .int v5)] 92 [] := by
  obtain ⟨hx, hb, hml, hown, hts, hr, hlk, hK, had, hSt⟩ := id C
  intro H locs ls hl hP hS
  unfold fX11_stage_s92 at hf
  refine lv_iconst (v := 0) hx hb dX11_stage_92 (by decide) ?_
  exact wX11_stage_s93 C n v1 v2 v3 v4 v5 0 st res hf H locs ls (lv_sub hl [0, 1, 2, 3, 4, 5] rfl) hP hS
def fX11_stage_s88 (n : Nat)   (v1 : Int32) (v2 : Int32) (v3 : Int32) (v4 : Int32) (v5 : Int32) (st : St) : Option (Int32 × St) := fX11_stage_s93 n v1 v2 v3 v4 v5 1 st
set_option maxHeartbeats 4000000 in
set_option maxRecDepth 100000 in
theorem wX11_stage_s88 (C : Cx p s m args meth c cX11_stage 8 wsL_law RX11 (some .int) D G ad) (n : Nat)   (v1 : Int32) (v2 : Int32) (v3 : Int32) (v4 : Int32) (v5 : Int32)   (st : St) (res : (Int32 × St))  (hf : fX11_stage_s88 n   v1 v2 v3 v4 v5 st = some res) : At p l e (rmK 2) s m args below meth c D G ad (MQI D G ad below args s res) 8 st [(0, .ref (ad 130)), (1, .int v1), (2, .int v2), (3, .int v3), (4, .int v4), (5, .int v5)] 88 [] := by
  obtain ⟨hx, hb, hml, hown, hts, hr, hlk, hK, had, hSt⟩ := id C
  intro H locs ls hl hP hS
  unfold fX11_stage_s88 at hf
  refine lv_iconst (v := 1) hx hb dX11_stage_88 (by decide) ?_
  refine lv_goto (tgt := 93) hx hb dX11_stage_89 (by decide) ?_
  exact wX11_stage_s93 C n v1 v2 v3 v4 v5 1 st res hf H locs ls (lv_sub hl [0, 1, 2, 3, 4, 5] rfl) hP hS
def fX11_stage_s85 (n : Nat)   (v1 : Int32) (v2 : Int32) (v3 : Int32) (v4 : Int32) (v5 : Int32) (k0 : Int32) (st : St) : Option (Int32 × St) := if k0 = 0 then fX11_stage_s92 n v1 v2 v3 v4 v5 st else fX11_stage_s88 n v1 v2 v3 v4 v5 st
set_option maxHeartbeats 4000000 in
set_option maxRecDepth 100000 in
theorem wX11_stage_s85 (C : Cx p s m args meth c cX11_stage 8 wsL_law RX11 (some .int) D G ad) (n : Nat)   (v1 : Int32) (v2 : Int32) (v3 : Int32) (v4 : Int32) (v5 : Int32) (k0 : Int32)   (st : St) (res : (Int32 × St))  (hf : fX11_stage_s85 n   v1 v2 v3 v4 v5 k0 st = some res) : At p l e (rmK 2) s m args below meth c D G ad (MQI D G ad below args s res) 8 st [(0, .ref (ad 130)), (1, .int v1), (2, .int v2), (3, .int v3), (4, .int v4), (5, .int v5)] 85 [.int k0] := by
  obtain ⟨hx, hb, hml, hown, hts, hr, hlk, hK, had, hSt⟩ := id C
  intro H locs ls hl hP hS
  unfold fX11_stage_s85 at hf
  refine lv_if_eq (tgt := 92) hx hb dX11_stage_85 (by decide) (fun q => ?_) (fun q => ?_)
  · exact wX11_stage_s92 C n v1 v2 v3 v4 v5 st res (it hf q) H locs ls (lv_sub hl [0, 1, 2, 3, 4, 5] rfl) hP hS
  · exact wX11_stage_s88 C n v1 v2 v3 v4 v5 st res (ie hf q) H locs ls (lv_sub hl [0, 1, 2, 3, 4, 5] rfl) hP hS
def fX11_stage_s75 (n : Nat)   (v1 : Int32) (v2 : Int32) (v3 : Int32) (v4 : Int32) (v5 : Int32) (st : St) : Option (Int32 × St) := (fX11_in n v5.toInt64 0 9999 st).bind (fun q => fX11_stage_s85 n v1 v2 v3 v4 v5 q.1 q.2)
set_option maxHeartbeats 4000000 in
set_option maxRecDepth 100000 in
theorem wX11_stage_s75 (C : Cx p s m args meth c cX11_stage 8 wsL_law RX11 (some .int) D G ad) (n : Nat)   (v1 : Int32) (v2 : Int32) (v3 : Int32) (v4 : Int32) (v5 : Int32)   (st : St) (res : (Int32 × St))  (hf : fX11_stage_s75 n   v1 v2 v3 v4 v5 st = some res) : At p l e (rmK 2) s m args below meth c D G ad (MQI D G ad below args s res) 8 st [(0, .ref (ad 130)), (1, .int v1), (2, .int v2), (3, .int v3), (4, .int v4), (5, .int v5)] 75 [] := by
  obtain ⟨hx, hb, hml, hown, hts, hr, hlk, hK, had, hSt⟩ := id C
  intro H locs ls hl hP hS
  unfold fX11_stage_s75 at hf
  refine lv_iload hx hb dX11_stage_75 (lv_at hl 5 rfl) ?_
  refine lv_i2l hx hb dX11_stage_77 rfl ?_
  refine lv_lconst (v := 0) hx hb dX11_stage_78 (by decide) ?_
  refine lv_ldc2 hx hb hown (hts _ wm_10_14) dX11_stage_79 ?_
  obtain ⟨q, hq, hf⟩ := bd hf
  refine gcS_i (k := 0) (As := [.long v5.toInt64, .long 0, .long 9999]) (rest := []) hx hb hml hown hts hK hSt hP hS hl.1 (goodS wm_10_21 wm_10_22 wm_1_5 wm_10_23) okX11_in (Nat.le_of_ble_eq_true rfl) (Nat.le_of_ble_eq_true rfl) rfl rfl (Nat.le_of_ble_eq_true rfl) dX11_stage_82 (kX11_in l D G ad had n  v5.toInt64 0 9999 st q hq) (fun H locs hP hS => ?_)
  exact wX11_stage_s85 C n v1 v2 v3 v4 v5 q.1 q.2 res hf H locs ls (lv_sub hl [0, 1, 2, 3, 4, 5] rfl) hP hS
def fX11_stage_s72 (n : Nat)   (v1 : Int32) (v2 : Int32) (v3 : Int32) (v4 : Int32) (v5 : Int32) (k0 : Int32) (st : St) : Option (Int32 × St) := if k0 = 0 then fX11_stage_s92 n v1 v2 v3 v4 v5 st else fX11_stage_s75 n v1 v2 v3 v4 v5 st
set_option maxHeartbeats 4000000 in
set_option maxRecDepth 100000 in
theorem wX11_stage_s72 (C : Cx p s m args meth c cX11_stage 8 wsL_law RX11 (some .int) D G ad) (n : Nat)   (v1 : Int32) (v2 : Int32) (v3 : Int32) (v4 : Int32) (v5 : Int32) (k0 : Int32)   (st : St) (res : (Int32 × St))  (hf : fX11_stage_s72 n   v1 v2 v3 v4 v5 k0 st = some res) : At p l e (rmK 2) s m args below meth c D G ad (MQI D G ad below args s res) 8 st [(0, .ref (ad 130)), (1, .int v1), (2, .int v2), (3, .int v3), (4, .int v4), (5, .int v5)] 72 [.int k0] := by
  obtain ⟨hx, hb, hml, hown, hts, hr, hlk, hK, had, hSt⟩ := id C
  intro H locs ls hl hP hS
  unfold fX11_stage_s72 at hf
  refine lv_if_eq (tgt := 92) hx hb dX11_stage_72 (by decide) (fun q => ?_) (fun q => ?_)
  · exact wX11_stage_s92 C n v1 v2 v3 v4 v5 st res (it hf q) H locs ls (lv_sub hl [0, 1, 2, 3, 4, 5] rfl) hP hS
  · exact wX11_stage_s75 C n v1 v2 v3 v4 v5 st res (ie hf q) H locs ls (lv_sub hl [0, 1, 2, 3, 4, 5] rfl) hP hS
def fX11_stage_s62 (n : Nat)   (v1 : Int32) (v2 : Int32) (v3 : Int32) (v4 : Int32) (v5 : Int32) (st : St) : Option (Int32 × St) := (fX11_in n v4.toInt64 0 3 st).bind (fun q => fX11_stage_s72 n v1 v2 v3 v4 v5 q.1 q.2)
set_option maxHeartbeats 4000000 in
set_option maxRecDepth 100000 in
theorem wX11_stage_s62 (C : Cx p s m args meth c cX11_stage 8 wsL_law RX11 (some .int) D G ad) (n : Nat)   (v1 : Int32) (v2 : Int32) (v3 : Int32) (v4 : Int32) (v5 : Int32)   (st : St) (res : (Int32 × St))  (hf : fX11_stage_s62 n   v1 v2 v3 v4 v5 st = some res) : At p l e (rmK 2) s m args below meth c D G ad (MQI D G ad below args s res) 8 st [(0, .ref (ad 130)), (1, .int v1), (2, .int v2), (3, .int v3), (4, .int v4), (5, .int v5)] 62 [] := by
  obtain ⟨hx, hb, hml, hown, hts, hr, hlk, hK, had, hSt⟩ := id C
  intro H locs ls hl hP hS
  unfold fX11_stage_s62 at hf
  refine lv_iload hx hb dX11_stage_62 (lv_at hl 4 rfl) ?_
  refine lv_i2l hx hb dX11_stage_64 rfl ?_
  refine lv_lconst (v := 0) hx hb dX11_stage_65 (by decide) ?_
  refine lv_ldc2 hx hb hown (hts _ wm_10_12) dX11_stage_66 ?_
  obtain ⟨q, hq, hf⟩ := bd hf
  refine gcS_i (k := 0) (As := [.long v4.toInt64, .long 0, .long 3]) (rest := []) hx hb hml hown hts hK hSt hP hS hl.1 (goodS wm_10_21 wm_10_22 wm_1_5 wm_10_23) okX11_in (Nat.le_of_ble_eq_true rfl) (Nat.le_of_ble_eq_true rfl) rfl rfl (Nat.le_of_ble_eq_true rfl) dX11_stage_69 (kX11_in l D G ad had n  v4.toInt64 0 3 st q hq) (fun H locs hP hS => ?_)
  exact wX11_stage_s72 C n v1 v2 v3 v4 v5 q.1 q.2 res hf H locs ls (lv_sub hl [0, 1, 2, 3, 4, 5] rfl) hP hS
def fX11_stage_s59 (n : Nat)   (v1 : Int32) (v2 : Int32) (v3 : Int32) (v4 : Int32) (v5 : Int32) (k0 : Int32) (st : St) : Option (Int32 × St) := if k0 = 0 then fX11_stage_s92 n v1 v2 v3 v4 v5 st else fX11_stage_s62 n v1 v2 v3 v4 v5 st
set_option maxHeartbeats 4000000 in
set_option maxRecDepth 100000 in
theorem wX11_stage_s59 (C : Cx p s m args meth c cX11_stage 8 wsL_law RX11 (some .int) D G ad) (n : Nat)   (v1 : Int32) (v2 : Int32) (v3 : Int32) (v4 : Int32) (v5 : Int32) (k0 : Int32)   (st : St) (res : (Int32 × St))  (hf : fX11_stage_s59 n   v1 v2 v3 v4 v5 k0 st = some res) : At p l e (rmK 2) s m args below meth c D G ad (MQI D G ad below args s res) 8 st [(0, .ref (ad 130)), (1, .int v1), (2, .int v2), (3, .int v3), (4, .int v4), (5, .int v5)] 59 [.int k0] := by
  obtain ⟨hx, hb, hml, hown, hts, hr, hlk, hK, had, hSt⟩ := id C
  intro H locs ls hl hP hS
  unfold fX11_stage_s59 at hf
  refine lv_if_eq (tgt := 92) hx hb dX11_stage_59 (by decide) (fun q => ?_) (fun q => ?_)
  · exact wX11_stage_s92 C n v1 v2 v3 v4 v5 st res (it hf q) H locs ls (lv_sub hl [0, 1, 2, 3, 4, 5] rfl) hP hS
  · exact wX11_stage_s62 C n v1 v2 v3 v4 v5 st res (ie hf q) H locs ls (lv_sub hl [0, 1, 2, 3, 4, 5] rfl) hP hS
def fX11_stage_s50 (n : Nat)   (v1 : Int32) (v2 : Int32) (v3 : Int32) (v4 : Int32) (v5 : Int32) (st : St) : Option (Int32 × St) := (fX11_in n v3.toInt64 1 6 st).bind (fun q => fX11_stage_s59 n v1 v2 v3 v4 v5 q.1 q.2)
set_option maxHeartbeats 4000000 in
set_option maxRecDepth 100000 in
theorem wX11_stage_s50 (C : Cx p s m args meth c cX11_stage 8 wsL_law RX11 (some .int) D G ad) (n : Nat)   (v1 : Int32) (v2 : Int32) (v3 : Int32) (v4 : Int32) (v5 : Int32)   (st : St) (res : (Int32 × St))  (hf : fX11_stage_s50 n   v1 v2 v3 v4 v5 st = some res) : At p l e (rmK 2) s m args below meth c D G ad (MQI D G ad below args s res) 8 st [(0, .ref (ad 130)), (1, .int v1), (2, .int v2), (3, .int v3), (4, .int v4), (5, .int v5)] 50 [] := by
  obtain ⟨hx, hb, hml, hown, hts, hr, hlk, hK, had, hSt⟩ := id C
  intro H locs ls hl hP hS
  unfold fX11_stage_s50 at hf
  refine lv_iload_n hx hb dX11_stage_50 rfl (lv_at hl 3 rfl) ?_
  refine lv_i2l hx hb dX11_stage_51 rfl ?_
  refine lv_lconst (v := 1) hx hb dX11_stage_52 (by decide) ?_
  refine lv_ldc2 hx hb hown (hts _ wm_10_13) dX11_stage_53 ?_
  obtain ⟨q, hq, hf⟩ := bd hf
  refine gcS_i (k := 0) (As := [.long v3.toInt64, .long 1, .long 6]) (rest := []) hx hb hml hown hts hK hSt hP hS hl.1 (goodS wm_10_21 wm_10_22 wm_1_5 wm_10_23) okX11_in (Nat.le_of_ble_eq_true rfl) (Nat.le_of_ble_eq_true rfl) rfl rfl (Nat.le_of_ble_eq_true rfl) dX11_stage_56 (kX11_in l D G ad had n  v3.toInt64 1 6 st q hq) (fun H locs hP hS => ?_)
  exact wX11_stage_s59 C n v1 v2 v3 v4 v5 q.1 q.2 res hf H locs ls (lv_sub hl [0, 1, 2, 3, 4, 5] rfl) hP hS
def fX11_stage_s47 (n : Nat)   (v1 : Int32) (v2 : Int32) (v3 : Int32) (v4 : Int32) (v5 : Int32) (k0 : Int32) (st : St) : Option (Int32 × St) := if k0 = 0 then fX11_stage_s92 n v1 v2 v3 v4 v5 st else fX11_stage_s50 n v1 v2 v3 v4 v5 st
set_option maxHeartbeats 4000000 in
set_option maxRecDepth 100000 in
theorem wX11_stage_s47 (C : Cx p s m args meth c cX11_stage 8 wsL_law RX11 (some .int) D G ad) (n : Nat)   (v1 : Int32) (v2 : Int32) (v3 : Int32) (v4 : Int32) (v5 : Int32) (k0 : Int32)   (st : St) (res : (Int32 × St))  (hf : fX11_stage_s47 n   v1 v2 v3 v4 v5 k0 st = some res) : At p l e (rmK 2) s m args below meth c D G ad (MQI D G ad below args s res) 8 st [(0, .ref (ad 130)), (1, .int v1), (2, .int v2), (3, .int v3), (4, .int v4), (5, .int v5)] 47 [.int k0] := by
  obtain ⟨hx, hb, hml, hown, hts, hr, hlk, hK, had, hSt⟩ := id C
  intro H locs ls hl hP hS
  unfold fX11_stage_s47 at hf
  refine lv_if_eq (tgt := 92) hx hb dX11_stage_47 (by decide) (fun q => ?_) (fun q => ?_)
  · exact wX11_stage_s92 C n v1 v2 v3 v4 v5 st res (it hf q) H locs ls (lv_sub hl [0, 1, 2, 3, 4, 5] rfl) hP hS
  · exact wX11_stage_s50 C n v1 v2 v3 v4 v5 st res (ie hf q) H locs ls (lv_sub hl [0, 1, 2, 3, 4, 5] rfl) hP hS
def fX11_stage_s38 (n : Nat)   (v1 : Int32) (v2 : Int32) (v3 : Int32) (v4 : Int32) (v5 : Int32) (st : St) : Option (Int32 × St) := (fX11_in n v1.toInt64 1 3 st).bind (fun q => fX11_stage_s47 n v1 v2 v3 v4 v5 q.1 q.2)
set_option maxHeartbeats 4000000 in
set_option maxRecDepth 100000 in
theorem wX11_stage_s38 (C : Cx p s m args meth c cX11_stage 8 wsL_law RX11 (some .int) D G ad) (n : Nat)   (v1 : Int32) (v2 : Int32) (v3 : Int32) (v4 : Int32) (v5 : Int32)   (st : St) (res : (Int32 × St))  (hf : fX11_stage_s38 n   v1 v2 v3 v4 v5 st = some res) : At p l e (rmK 2) s m args below meth c D G ad (MQI D G ad below args s res) 8 st [(0, .ref (ad 130)), (1, .int v1), (2, .int v2), (3, .int v3), (4, .int v4), (5, .int v5)] 38 [] := by
  obtain ⟨hx, hb, hml, hown, hts, hr, hlk, hK, had, hSt⟩ := id C
  intro H locs ls hl hP hS
  unfold fX11_stage_s38 at hf
  refine lv_iload_n hx hb dX11_stage_38 rfl (lv_at hl 1 rfl) ?_
  refine lv_i2l hx hb dX11_stage_39 rfl ?_
  refine lv_lconst (v := 1) hx hb dX11_stage_40 (by decide) ?_
  refine lv_ldc2 hx hb hown (hts _ wm_10_12) dX11_stage_41 ?_
  obtain ⟨q, hq, hf⟩ := bd hf
  refine gcS_i (k := 0) (As := [.long v1.toInt64, .long 1, .long 3]) (rest := []) hx hb hml hown hts hK hSt hP hS hl.1 (goodS wm_10_21 wm_10_22 wm_1_5 wm_10_23) okX11_in (Nat.le_of_ble_eq_true rfl) (Nat.le_of_ble_eq_true rfl) rfl rfl (Nat.le_of_ble_eq_true rfl) dX11_stage_44 (kX11_in l D G ad had n  v1.toInt64 1 3 st q hq) (fun H locs hP hS => ?_)
  exact wX11_stage_s47 C n v1 v2 v3 v4 v5 q.1 q.2 res hf H locs ls (lv_sub hl [0, 1, 2, 3, 4, 5] rfl) hP hS
def fX11_stage_s35 (n : Nat)   (v1 : Int32) (v2 : Int32) (v3 : Int32) (v4 : Int32) (v5 : Int32) (st : St) : Option (Int32 × St) := fX11_stage_s50 n v1 v2 v3 v4 v5 st
set_option maxHeartbeats 4000000 in
set_option maxRecDepth 100000 in
theorem wX11_stage_s35 (C : Cx p s m args meth c cX11_stage 8 wsL_law RX11 (some .int) D G ad) (n : Nat)   (v1 : Int32) (v2 : Int32) (v3 : Int32) (v4 : Int32) (v5 : Int32)   (st : St) (res : (Int32 × St))  (hf : fX11_stage_s35 n   v1 v2 v3 v4 v5 st = some res) : At p l e (rmK 2) s m args below meth c D G ad (MQI D G ad below args s res) 8 st [(0, .ref (ad 130)), (1, .int v1), (2, .int v2), (3, .int v3), (4, .int v4), (5, .int v5)] 35 [] := by
  obtain ⟨hx, hb, hml, hown, hts, hr, hlk, hK, had, hSt⟩ := id C
  intro H locs ls hl hP hS
  unfold fX11_stage_s35 at hf
  refine lv_goto (tgt := 50) hx hb dX11_stage_35 (by decide) ?_
  exact wX11_stage_s50 C n v1 v2 v3 v4 v5 st res hf H locs ls (lv_sub hl [0, 1, 2, 3, 4, 5] rfl) hP hS
def fX11_stage_s31 (n : Nat)   (v1 : Int32) (v2 : Int32) (v3 : Int32) (v4 : Int32) (v5 : Int32) (st : St) : Option (Int32 × St) := if v1 = 0 then fX11_stage_s35 n v1 v2 v3 v4 v5 st else fX11_stage_s92 n v1 v2 v3 v4 v5 st
set_option maxHeartbeats 4000000 in
set_option maxRecDepth 100000 in
theorem wX11_stage_s31 (C : Cx p s m args meth c cX11_stage 8 wsL_law RX11 (some .int) D G ad) (n : Nat)   (v1 : Int32) (v2 : Int32) (v3 : Int32) (v4 : Int32) (v5 : Int32)   (st : St) (res : (Int32 × St))  (hf : fX11_stage_s31 n   v1 v2 v3 v4 v5 st = some res) : At p l e (rmK 2) s m args below meth c D G ad (MQI D G ad below args s res) 8 st [(0, .ref (ad 130)), (1, .int v1), (2, .int v2), (3, .int v3), (4, .int v4), (5, .int v5)] 31 [] := by
  obtain ⟨hx, hb, hml, hown, hts, hr, hlk, hK, had, hSt⟩ := id C
  intro H locs ls hl hP hS
  unfold fX11_stage_s31 at hf
  refine lv_iload_n hx hb dX11_stage_31 rfl (lv_at hl 1 rfl) ?_
  refine lv_if_ne (tgt := 92) hx hb dX11_stage_32 (by decide) (fun q => ?_) (fun q => ?_)
  · exact wX11_stage_s92 C n v1 v2 v3 v4 v5 st res (ie hf q) H locs ls (lv_sub hl [0, 1, 2, 3, 4, 5] rfl) hP hS
  · exact wX11_stage_s35 C n v1 v2 v3 v4 v5 st res (it hf q) H locs ls (lv_sub hl [0, 1, 2, 3, 4, 5] rfl) hP hS
def fX11_stage_s24 (n : Nat)   (v1 : Int32) (v2 : Int32) (v3 : Int32) (v4 : Int32) (v5 : Int32) (st : St) : Option (Int32 × St) := if (st.1 130 0) = 0 then fX11_stage_s31 n v1 v2 v3 v4 v5 st else fX11_stage_s38 n v1 v2 v3 v4 v5 st
set_option maxHeartbeats 4000000 in
set_option maxRecDepth 100000 in
theorem wX11_stage_s24 (C : Cx p s m args meth c cX11_stage 8 wsL_law RX11 (some .int) D G ad) (n : Nat)   (v1 : Int32) (v2 : Int32) (v3 : Int32) (v4 : Int32) (v5 : Int32)   (st : St) (res : (Int32 × St))  (hf : fX11_stage_s24 n   v1 v2 v3 v4 v5 st = some res) : At p l e (rmK 2) s m args below meth c D G ad (MQI D G ad below args s res) 8 st [(0, .ref (ad 130)), (1, .int v1), (2, .int v2), (3, .int v3), (4, .int v4), (5, .int v5)] 24 [] := by
  obtain ⟨hx, hb, hml, hown, hts, hr, hlk, hK, had, hSt⟩ := id C
  intro H locs ls hl hP hS
  unfold fX11_stage_s24 at hf
  refine lv_aload_n hx hb dX11_stage_24 rfl (lv_at hl 0 rfl) ?_
  refine g_getI hx hb hts inlX11 hown hK hP 130 ct_130 rfl 0 (by decide) (hts _ wm_10_11) rfl dX11_stage_25 ?_
  refine lv_if_ne (tgt := 38) hx hb dX11_stage_28 (by decide) (fun q => ?_) (fun q => ?_)
  · exact wX11_stage_s38 C n v1 v2 v3 v4 v5 st res (ie hf q) H locs ls (lv_sub hl [0, 1, 2, 3, 4, 5] rfl) hP hS
  · exact wX11_stage_s31 C n v1 v2 v3 v4 v5 st res (it hf q) H locs ls (lv_sub hl [0, 1, 2, 3, 4, 5] rfl) hP hS
def fX11_stage_s22 (n : Nat)    (st : St) : Option (Int32 × St) := some ((-1), st)
set_option maxHeartbeats 4000000 in
set_option maxRecDepth 100000 in
theorem wX11_stage_s22 (C : Cx p s m args meth c cX11_stage 8 wsL_law RX11 (some .int) D G ad) (n : Nat)      (st : St) (res : (Int32 × St))  (hf : fX11_stage_s22 n    st = some res) : At p l e (rmK 2) s m args below meth c D G ad (MQI D G ad below args s res) 8 st [] 22 [] := by
  obtain ⟨hx, hb, hml, hown, hts, hr, hlk, hK, had, hSt⟩ := id C
  intro H locs ls hl hP hS
  unfold fX11_stage_s22 at hf
  refine lv_iconst (v := (-1)) hx hb dX11_stage_22 (by decide) ?_
  exact g_iret hx hb hr hlk hP hS dX11_stage_23 hf
def fX11_stage_s19 (n : Nat)   (v1 : Int32) (v2 : Int32) (v3 : Int32) (v4 : Int32) (v5 : Int32) (k0 : Int32) (st : St) : Option (Int32 × St) := if k0 = 0 then fX11_stage_s22 n st else fX11_stage_s24 n v1 v2 v3 v4 v5 st
set_option maxHeartbeats 4000000 in
set_option maxRecDepth 100000 in
theorem wX11_stage_s19 (C : Cx p s m args meth c cX11_stage 8 wsL_law RX11 (some .int) D G ad) (n : Nat)   (v1 : Int32) (v2 : Int32) (v3 : Int32) (v4 : Int32) (v5 : Int32) (k0 : Int32)   (st : St) (res : (Int32 × St))  (hf : fX11_stage_s19 n   v1 v2 v3 v4 v5 k0 st = some res) : At p l e (rmK 2) s m args below meth c D G ad (MQI D G ad below args s res) 8 st [(0, .ref (ad 130)), (1, .int v1), (2, .int v2), (3, .int v3), (4, .int v4), (5, .int v5)] 19 [.int k0] := by
  obtain ⟨hx, hb, hml, hown, hts, hr, hlk, hK, had, hSt⟩ := id C
  intro H locs ls hl hP hS
  unfold fX11_stage_s19 at hf
  refine lv_if_ne (tgt := 24) hx hb dX11_stage_19 (by decide) (fun q => ?_) (fun q => ?_)
  · exact wX11_stage_s24 C n v1 v2 v3 v4 v5 st res (ie hf q) H locs ls (lv_sub hl [0, 1, 2, 3, 4, 5] rfl) hP hS
  · exact wX11_stage_s22 C n st res (it hf q) H locs ls (lv_sub hl [] rfl) hP hS
def fX11_stage_s14 (n : Nat)   (v1 : Int32) (v2 : Int32) (v3 : Int32) (v4 : Int32) (v5 : Int32) (st : St) : Option (Int32 × St) := (fX11_isStage n v2 st).bind (fun q => fX11_stage_s19 n v1 v2 v3 v4 v5 q.1 q.2)
set_option maxHeartbeats 4000000 in
set_option maxRecDepth 100000 in
theorem wX11_stage_s14 (C : Cx p s m args meth c cX11_stage 8 wsL_law RX11 (some .int) D G ad) (n : Nat)   (v1 : Int32) (v2 : Int32) (v3 : Int32) (v4 : Int32) (v5 : Int32)   (st : St) (res : (Int32 × St))  (hf : fX11_stage_s14 n   v1 v2 v3 v4 v5 st = some res) : At p l e (rmK 2) s m args below meth c D G ad (MQI D G ad below args s res) 8 st [(0, .ref (ad 130)), (1, .int v1), (2, .int v2), (3, .int v3), (4, .int v4), (5, .int v5)] 14 [] := by
  obtain ⟨hx, hb, hml, hown, hts, hr, hlk, hK, had, hSt⟩ := id C
  intro H locs ls hl hP hS
  unfold fX11_stage_s14 at hf
  refine lv_aload_n hx hb dX11_stage_14 rfl (lv_at hl 0 rfl) ?_
  refine lv_iload_n hx hb dX11_stage_15 rfl (lv_at hl 2 rfl) ?_
  obtain ⟨q, hq, hf⟩ := bd hf
  refine gcV_i (k := 1) (o := 130) (As := [.int v2]) (rest := []) hx hb hml hown hts hK hSt hP hS hl.1 (goodV wm_10_17 wm_10_18 wm_10_19 wm_1_5 wm_10_20) okX11_isStage ct_130 rfl rfl (Nat.le_of_ble_eq_true rfl) (Nat.le_of_ble_eq_true rfl) rfl rfl (Nat.le_of_ble_eq_true rfl) dX11_stage_16 (kX11_isStage l D G ad had n  v2 st q hq) (fun H locs hP hS => ?_)
  exact wX11_stage_s19 C n v1 v2 v3 v4 v5 q.1 q.2 res hf H locs ls (lv_sub hl [0, 1, 2, 3, 4, 5] rfl) hP hS
def fX11_stage_s11 (n : Nat)    (st : St) : Option (Int32 × St) := fX11_stage_s22 n st
set_option maxHeartbeats 4000000 in
set_option maxRecDepth 100000 in
theorem wX11_stage_s11 (C : Cx p s m args meth c cX11_stage 8 wsL_law RX11 (some .int) D G ad) (n : Nat)      (st : St) (res : (Int32 × St))  (hf : fX11_stage_s11 n    st = some res) : At p l e (rmK 2) s m args below meth c D G ad (MQI D G ad below args s res) 8 st [] 11 [] := by
  obtain ⟨hx, hb, hml, hown, hts, hr, hlk, hK, had, hSt⟩ := id C
  intro H locs ls hl hP hS
  unfold fX11_stage_s11 at hf
  refine lv_goto (tgt := 22) hx hb dX11_stage_11 (by decide) ?_
  exact wX11_stage_s22 C n st res hf H locs ls (lv_sub hl [] rfl) hP hS
def fX11_stage_s7 (n : Nat)   (v1 : Int32) (v2 : Int32) (v3 : Int32) (v4 : Int32) (v5 : Int32) (st : St) : Option (Int32 × St) := if v2 = 0 then fX11_stage_s24 n v1 v2 v3 v4 v5 st else fX11_stage_s11 n st
set_option maxHeartbeats 4000000 in
set_option maxRecDepth 100000 in
theorem wX11_stage_s7 (C : Cx p s m args meth c cX11_stage 8 wsL_law RX11 (some .int) D G ad) (n : Nat)   (v1 : Int32) (v2 : Int32) (v3 : Int32) (v4 : Int32) (v5 : Int32)   (st : St) (res : (Int32 × St))  (hf : fX11_stage_s7 n   v1 v2 v3 v4 v5 st = some res) : At p l e (rmK 2) s m args below meth c D G ad (MQI D G ad below args s res) 8 st [(0, .ref (ad 130)), (1, .int v1), (2, .int v2), (3, .int v3), (4, .int v4), (5, .int v5)] 7 [] := by
  obtain ⟨hx, hb, hml, hown, hts, hr, hlk, hK, had, hSt⟩ := id C
  intro H locs ls hl hP hS
  unfold fX11_stage_s7 at hf
  refine lv_iload_n hx hb dX11_stage_7 rfl (lv_at hl 2 rfl) ?_
  refine lv_if_eq (tgt := 24) hx hb dX11_stage_8 (by decide) (fun q => ?_) (fun q => ?_)
  · exact wX11_stage_s24 C n v1 v2 v3 v4 v5 st res (it hf q) H locs ls (lv_sub hl [0, 1, 2, 3, 4, 5] rfl) hP hS
  · exact wX11_stage_s11 C n st res (ie hf q) H locs ls (lv_sub hl [] rfl) hP hS
def fX11_stage_s0 (n : Nat)   (v1 : Int32) (v2 : Int32) (v3 : Int32) (v4 : Int32) (v5 : Int32) (st : St) : Option (Int32 × St) := if (st.1 130 0) = 0 then fX11_stage_s7 n v1 v2 v3 v4 v5 st else fX11_stage_s14 n v1 v2 v3 v4 v5 st
set_option maxHeartbeats 4000000 in
set_option maxRecDepth 100000 in
theorem wX11_stage_s0 (C : Cx p s m args meth c cX11_stage 8 wsL_law RX11 (some .int) D G ad) (n : Nat)   (v1 : Int32) (v2 : Int32) (v3 : Int32) (v4 : Int32) (v5 : Int32)   (st : St) (res : (Int32 × St))  (hf : fX11_stage_s0 n   v1 v2 v3 v4 v5 st = some res) : At p l e (rmK 2) s m args below meth c D G ad (MQI D G ad below args s res) 8 st [(0, .ref (ad 130)), (1, .int v1), (2, .int v2), (3, .int v3), (4, .int v4), (5, .int v5)] 0 [] := by
  obtain ⟨hx, hb, hml, hown, hts, hr, hlk, hK, had, hSt⟩ := id C
  intro H locs ls hl hP hS
  unfold fX11_stage_s0 at hf
  refine lv_aload_n hx hb dX11_stage_0 rfl (lv_at hl 0 rfl) ?_
  refine g_getI hx hb hts inlX11 hown hK hP 130 ct_130 rfl 0 (by decide) (hts _ wm_10_11) rfl dX11_stage_1 ?_
  refine lv_if_ne (tgt := 14) hx hb dX11_stage_4 (by decide) (fun q => ?_) (fun q => ?_)
  · exact wX11_stage_s14 C n v1 v2 v3 v4 v5 st res (ie hf q) H locs ls (lv_sub hl [0, 1, 2, 3, 4, 5] rfl) hP hS
  · exact wX11_stage_s7 C n v1 v2 v3 v4 v5 st res (it hf q) H locs ls (lv_sub hl [0, 1, 2, 3, 4, 5] rfl) hP hS
def fX11_stage (n : Nat)  (a1 : Int32) (a2 : Int32) (a3 : Int32) (a4 : Int32) (a5 : Int32) (st : St) : Option (Int32 × St) := fX11_stage_s0 n a1 a2 a3 a4 a5 st
theorem okX11_stage : okY yX11_stage RX11 5 := by unfold okY; decide +kernel
end
set_option maxRecDepth 100000 in
theorem kX11_stage (l : Launch) (D : va_G) (G : G3) (ad : Nat → Nat) (had : Adr ad) (n : Nat)   (a1 : Int32) (a2 : Int32) (a3 : Int32) (a4 : Int32) (a5 : Int32) (st : St) (res : (Int32 × St)) (hf : fX11_stage n  a1 a2 a3 a4 a5 st = some res) {sz : Nat} : CtI l yX11_stage (wsU yX11_stage cX11_stage 8 (some .int)) (rmK 2) D G ad sz [.ref (ad 130), .int a1, .int a2, .int a3, .int a4, .int a5] st res := by
  refine Met.ofW (cc := cX11_stage) (maxL := 8) (ret := (some .int)) (by decide) rfl ?_
  intro p e s m args below meth c s₁ B hml hv
  obtain ⟨rfl, hsz, hP, hK, hSt⟩ := hv
  have hts := atoms_spec (ws := wsU yX11_stage cX11_stage 8 (some .int)) B.pre
  have C : Cx p s m _ meth c cX11_stage 8 wsL_law RX11 (some .int) D G ad := ⟨B.exec, B.bytes, hml, findClass_of_methodNamed B.named, fun w h => hts w (List.mem_cons_of_mem _ h), B.returns, B.notSynchronized, hK, had, hSt⟩
  subst hsz
  have hl := lv_entry ([.ref (ad 130), .int a1, .int a2, .int a3, .int a4, .int a5]) (n := 8) (Nat.le_of_ble_eq_true rfl)
  rw [lg_entry_eq]
  generalize (lg_sl ([.ref (ad 130), .int a1, .int a2, .int a3, .int a4, .int a5]) ++ List.replicate (8 - (lg_sl ([.ref (ad 130), .int a1, .int a2, .int a3, .int a4, .int a5])).length) Slot.unset).toArray = ls at hl ⊢
  exact wX11_stage_s0 C n  a1 a2 a3 a4 a5   st res hf s.heap [] ls (lv_sub hl [0, 1, 2, 3, 4, 5] rfl) hP va_S.rf
section
variable {p : Program} {l : Launch} {e : Env} {s : State} {m : MethodId} {args : Array Value} {below : List Frame} {meth : Method} {c : Code} {D : va_G} {G : G3} {ad : Nat → Nat}
def fX11_set_s20 (n : Nat)    (st : St) : Option (Int32 × St) := some ((-1), st)
set_option maxHeartbeats 4000000 in
set_option maxRecDepth 100000 in
theorem wX11_set_s20 (C : Cx p s m args meth c cX11_set 5 wsL_law RX11 (some .int) D G ad) (n : Nat)      (st : St) (res : (Int32 × St))  (hf : fX11_set_s20 n    st = some res) : At p l e (rmK 2) s m args below meth c D G ad (MQI D G ad below args s res) 5 st [] 20 [] := by
  obtain ⟨hx, hb, hml, hown, hts, hr, hlk, hK, had, hSt⟩ := id C
  intro H locs ls hl hP hS
  unfold fX11_set_s20 at hf
  refine lv_iconst (v := (-1)) hx hb dX11_set_20 (by decide) ?_
  exact g_iret hx hb hr hlk hP hS dX11_set_21 hf
def fX11_set_s176 (n : Nat)   (v4 : Int32) (st : St) : Option (Int32 × St) := some (v4, st)
set_option maxHeartbeats 4000000 in
set_option maxRecDepth 100000 in
theorem wX11_set_s176 (C : Cx p s m args meth c cX11_set 5 wsL_law RX11 (some .int) D G ad) (n : Nat)   (v4 : Int32)   (st : St) (res : (Int32 × St))  (hf : fX11_set_s176 n   v4 st = some res) : At p l e (rmK 2) s m args below meth c D G ad (MQI D G ad below args s res) 5 st [(4, .int v4)] 176 [] := by
  obtain ⟨hx, hb, hml, hown, hts, hr, hlk, hK, had, hSt⟩ := id C
  intro H locs ls hl hP hS
  unfold fX11_set_s176 at hf
  refine lv_iload hx hb dX11_set_176 (lv_at hl 0 rfl) ?_
  exact g_iret hx hb hr hlk hP hS dX11_set_178 hf
def fX11_set_s169 (n : Nat)   (v1 : Int32) (v3 : Int32) (v4 : Int32) (st : St) : Option (Int32 × St) := if inb v1 8 = true then (fX11_set_s176 n v4 (setI st 138 v1.toNatClampNeg v3)) else none
set_option maxHeartbeats 4000000 in
set_option maxRecDepth 100000 in
theorem wX11_set_s169 (C : Cx p s m args meth c cX11_set 5 wsL_law RX11 (some .int) D G ad) (n : Nat)   (v1 : Int32) (v3 : Int32) (v4 : Int32)   (st : St) (res : (Int32 × St))  (hf : fX11_set_s169 n   v1 v3 v4 st = some res) : At p l e (rmK 2) s m args below meth c D G ad (MQI D G ad below args s res) 5 st [(0, .ref (ad 130)), (1, .int v1), (3, .int v3), (4, .int v4)] 169 [] := by
  obtain ⟨hx, hb, hml, hown, hts, hr, hlk, hK, had, hSt⟩ := id C
  intro H locs ls hl hP hS
  unfold fX11_set_s169 at hf
  refine lv_aload_n hx hb dX11_set_169 rfl (lv_at hl 0 rfl) ?_
  refine g_getR hx hb hts inlX11 hown hK hP 130 ct_130 rfl 8 (by decide) (hts _ wm_7_9) rfl dX11_set_170 ?_
  refine lv_iload_n hx hb dX11_set_173 rfl (lv_at hl 1 rfl) ?_
  refine lv_iload_n hx hb dX11_set_174 rfl (lv_at hl 2 rfl) ?_
  obtain ⟨g1, hf⟩ := gd hf
  refine g_iast hx hb hK had hP hS 138 ct_138 g1 dX11_set_175 (fun H locs hP hS => ?_)
  exact wX11_set_s176 C n v4 (setI st 138 v1.toNatClampNeg v3) res hf H locs ls (lv_sub hl [3] rfl) hP hS
def fX11_set_s166 (n : Nat)   (v4 : Int32) (st : St) : Option (Int32 × St) := fX11_set_s176 n v4 st
set_option maxHeartbeats 4000000 in
set_option maxRecDepth 100000 in
theorem wX11_set_s166 (C : Cx p s m args meth c cX11_set 5 wsL_law RX11 (some .int) D G ad) (n : Nat)   (v4 : Int32)   (st : St) (res : (Int32 × St))  (hf : fX11_set_s166 n   v4 st = some res) : At p l e (rmK 2) s m args below meth c D G ad (MQI D G ad below args s res) 5 st [(4, .int v4)] 166 [] := by
  obtain ⟨hx, hb, hml, hown, hts, hr, hlk, hK, had, hSt⟩ := id C
  intro H locs ls hl hP hS
  unfold fX11_set_s166 at hf
  refine lv_goto (tgt := 176) hx hb dX11_set_166 (by decide) ?_
  exact wX11_set_s176 C n v4 st res hf H locs ls (lv_sub hl [0] rfl) hP hS
def fX11_set_s159 (n : Nat)   (v1 : Int32) (v3 : Int32) (v4 : Int32) (st : St) : Option (Int32 × St) := if inb v1 8 = true then (fX11_set_s166 n v4 (setI st 137 v1.toNatClampNeg v3)) else none
set_option maxHeartbeats 4000000 in
set_option maxRecDepth 100000 in
theorem wX11_set_s159 (C : Cx p s m args meth c cX11_set 5 wsL_law RX11 (some .int) D G ad) (n : Nat)   (v1 : Int32) (v3 : Int32) (v4 : Int32)   (st : St) (res : (Int32 × St))  (hf : fX11_set_s159 n   v1 v3 v4 st = some res) : At p l e (rmK 2) s m args below meth c D G ad (MQI D G ad below args s res) 5 st [(0, .ref (ad 130)), (1, .int v1), (3, .int v3), (4, .int v4)] 159 [] := by
  obtain ⟨hx, hb, hml, hown, hts, hr, hlk, hK, had, hSt⟩ := id C
  intro H locs ls hl hP hS
  unfold fX11_set_s159 at hf
  refine lv_aload_n hx hb dX11_set_159 rfl (lv_at hl 0 rfl) ?_
  refine g_getR hx hb hts inlX11 hown hK hP 130 ct_130 rfl 7 (by decide) (hts _ wm_7_8) rfl dX11_set_160 ?_
  refine lv_iload_n hx hb dX11_set_163 rfl (lv_at hl 1 rfl) ?_
  refine lv_iload_n hx hb dX11_set_164 rfl (lv_at hl 2 rfl) ?_
  obtain ⟨g1, hf⟩ := gd hf
  refine g_iast hx hb hK had hP hS 137 ct_137 g1 dX11_set_165 (fun H locs hP hS => ?_)
  exact wX11_set_s166 C n v4 (setI st 137 v1.toNatClampNeg v3) res hf H locs ls (lv_sub hl [3] rfl) hP hS
def fX11_set_s154 (n : Nat)   (v1 : Int32) (v2 : Int32) (v3 : Int32) (v4 : Int32) (st : St) : Option (Int32 × St) := if v2 = 2 then fX11_set_s159 n v1 v3 v4 st else fX11_set_s169 n v1 v3 v4 st
set_option maxHeartbeats 4000000 in
set_option maxRecDepth 100000 in
theorem wX11_set_s154 (C : Cx p s m args meth c cX11_set 5 wsL_law RX11 (some .int) D G ad) (n : Nat)   (v1 : Int32) (v2 : Int32) (v3 : Int32) (v4 : Int32)   (st : St) (res : (Int32 × St))  (hf : fX11_set_s154 n   v1 v2 v3 v4 st = some res) : At p l e (rmK 2) s m args below meth c D G ad (MQI D G ad below args s res) 5 st [(0, .ref (ad 130)), (1, .int v1), (2, .int v2), (3, .int v3), (4, .int v4)] 154 [] := by
  obtain ⟨hx, hb, hml, hown, hts, hr, hlk, hK, had, hSt⟩ := id C
  intro H locs ls hl hP hS
  unfold fX11_set_s154 at hf
  refine lv_iload_n hx hb dX11_set_154 rfl (lv_at hl 2 rfl) ?_
  refine lv_iconst (v := 2) hx hb dX11_set_155 (by decide) ?_
  refine lv_icmp_ne (tgt := 169) hx hb dX11_set_156 (by decide) (fun q => ?_) (fun q => ?_)
  · exact wX11_set_s169 C n v1 v3 v4 st res (ie hf q) H locs ls (lv_sub hl [0, 1, 3, 4] rfl) hP hS
  · exact wX11_set_s159 C n v1 v3 v4 st res (it hf q) H locs ls (lv_sub hl [0, 1, 3, 4] rfl) hP hS
def fX11_set_s151 (n : Nat)   (v4 : Int32) (st : St) : Option (Int32 × St) := fX11_set_s176 n v4 st
set_option maxHeartbeats 4000000 in
set_option maxRecDepth 100000 in
theorem wX11_set_s151 (C : Cx p s m args meth c cX11_set 5 wsL_law RX11 (some .int) D G ad) (n : Nat)   (v4 : Int32)   (st : St) (res : (Int32 × St))  (hf : fX11_set_s151 n   v4 st = some res) : At p l e (rmK 2) s m args below meth c D G ad (MQI D G ad below args s res) 5 st [(4, .int v4)] 151 [] := by
  obtain ⟨hx, hb, hml, hown, hts, hr, hlk, hK, had, hSt⟩ := id C
  intro H locs ls hl hP hS
  unfold fX11_set_s151 at hf
  refine lv_goto (tgt := 176) hx hb dX11_set_151 (by decide) ?_
  exact wX11_set_s176 C n v4 st res hf H locs ls (lv_sub hl [0] rfl) hP hS
def fX11_set_s144 (n : Nat)   (v1 : Int32) (v3 : Int32) (v4 : Int32) (st : St) : Option (Int32 × St) := if inb v1 8 = true then (fX11_set_s151 n v4 (setI st 136 v1.toNatClampNeg v3)) else none
set_option maxHeartbeats 4000000 in
set_option maxRecDepth 100000 in
theorem wX11_set_s144 (C : Cx p s m args meth c cX11_set 5 wsL_law RX11 (some .int) D G ad) (n : Nat)   (v1 : Int32) (v3 : Int32) (v4 : Int32)   (st : St) (res : (Int32 × St))  (hf : fX11_set_s144 n   v1 v3 v4 st = some res) : At p l e (rmK 2) s m args below meth c D G ad (MQI D G ad below args s res) 5 st [(0, .ref (ad 130)), (1, .int v1), (3, .int v3), (4, .int v4)] 144 [] := by
  obtain ⟨hx, hb, hml, hown, hts, hr, hlk, hK, had, hSt⟩ := id C
  intro H locs ls hl hP hS
  unfold fX11_set_s144 at hf
  refine lv_aload_n hx hb dX11_set_144 rfl (lv_at hl 0 rfl) ?_
  refine g_getR hx hb hts inlX11 hown hK hP 130 ct_130 rfl 6 (by decide) (hts _ wm_7_7) rfl dX11_set_145 ?_
  refine lv_iload_n hx hb dX11_set_148 rfl (lv_at hl 1 rfl) ?_
  refine lv_iload_n hx hb dX11_set_149 rfl (lv_at hl 2 rfl) ?_
  obtain ⟨g1, hf⟩ := gd hf
  refine g_iast hx hb hK had hP hS 136 ct_136 g1 dX11_set_150 (fun H locs hP hS => ?_)
  exact wX11_set_s151 C n v4 (setI st 136 v1.toNatClampNeg v3) res hf H locs ls (lv_sub hl [3] rfl) hP hS
def fX11_set_s139 (n : Nat)   (v1 : Int32) (v2 : Int32) (v3 : Int32) (v4 : Int32) (st : St) : Option (Int32 × St) := if v2 = 1 then fX11_set_s144 n v1 v3 v4 st else fX11_set_s154 n v1 v2 v3 v4 st
set_option maxHeartbeats 4000000 in
set_option maxRecDepth 100000 in
theorem wX11_set_s139 (C : Cx p s m args meth c cX11_set 5 wsL_law RX11 (some .int) D G ad) (n : Nat)   (v1 : Int32) (v2 : Int32) (v3 : Int32) (v4 : Int32)   (st : St) (res : (Int32 × St))  (hf : fX11_set_s139 n   v1 v2 v3 v4 st = some res) : At p l e (rmK 2) s m args below meth c D G ad (MQI D G ad below args s res) 5 st [(0, .ref (ad 130)), (1, .int v1), (2, .int v2), (3, .int v3), (4, .int v4)] 139 [] := by
  obtain ⟨hx, hb, hml, hown, hts, hr, hlk, hK, had, hSt⟩ := id C
  intro H locs ls hl hP hS
  unfold fX11_set_s139 at hf
  refine lv_iload_n hx hb dX11_set_139 rfl (lv_at hl 2 rfl) ?_
  refine lv_iconst (v := 1) hx hb dX11_set_140 (by decide) ?_
  refine lv_icmp_ne (tgt := 154) hx hb dX11_set_141 (by decide) (fun q => ?_) (fun q => ?_)
  · exact wX11_set_s154 C n v1 v2 v3 v4 st res (ie hf q) H locs ls (lv_sub hl [0, 1, 2, 3, 4] rfl) hP hS
  · exact wX11_set_s144 C n v1 v3 v4 st res (it hf q) H locs ls (lv_sub hl [0, 1, 3, 4] rfl) hP hS
def fX11_set_s136 (n : Nat)   (v4 : Int32) (st : St) : Option (Int32 × St) := fX11_set_s176 n v4 st
set_option maxHeartbeats 4000000 in
set_option maxRecDepth 100000 in
theorem wX11_set_s136 (C : Cx p s m args meth c cX11_set 5 wsL_law RX11 (some .int) D G ad) (n : Nat)   (v4 : Int32)   (st : St) (res : (Int32 × St))  (hf : fX11_set_s136 n   v4 st = some res) : At p l e (rmK 2) s m args below meth c D G ad (MQI D G ad below args s res) 5 st [(4, .int v4)] 136 [] := by
  obtain ⟨hx, hb, hml, hown, hts, hr, hlk, hK, had, hSt⟩ := id C
  intro H locs ls hl hP hS
  unfold fX11_set_s136 at hf
  refine lv_goto (tgt := 176) hx hb dX11_set_136 (by decide) ?_
  exact wX11_set_s176 C n v4 st res hf H locs ls (lv_sub hl [0] rfl) hP hS
def fX11_set_s129 (n : Nat)   (v1 : Int32) (v3 : Int32) (v4 : Int32) (st : St) : Option (Int32 × St) := if inb v1 8 = true then (fX11_set_s136 n v4 (setI st 135 v1.toNatClampNeg v3)) else none
set_option maxHeartbeats 4000000 in
set_option maxRecDepth 100000 in
theorem wX11_set_s129 (C : Cx p s m args meth c cX11_set 5 wsL_law RX11 (some .int) D G ad) (n : Nat)   (v1 : Int32) (v3 : Int32) (v4 : Int32)   (st : St) (res : (Int32 × St))  (hf : fX11_set_s129 n   v1 v3 v4 st = some res) : At p l e (rmK 2) s m args below meth c D G ad (MQI D G ad below args s res) 5 st [(0, .ref (ad 130)), (1, .int v1), (3, .int v3), (4, .int v4)] 129 [] := by
  obtain ⟨hx, hb, hml, hown, hts, hr, hlk, hK, had, hSt⟩ := id C
  intro H locs ls hl hP hS
  unfold fX11_set_s129 at hf
  refine lv_aload_n hx hb dX11_set_129 rfl (lv_at hl 0 rfl) ?_
  refine g_getR hx hb hts inlX11 hown hK hP 130 ct_130 rfl 5 (by decide) (hts _ wm_7_6) rfl dX11_set_130 ?_
  refine lv_iload_n hx hb dX11_set_133 rfl (lv_at hl 1 rfl) ?_
  refine lv_iload_n hx hb dX11_set_134 rfl (lv_at hl 2 rfl) ?_
  obtain ⟨g1, hf⟩ := gd hf
  refine g_iast hx hb hK had hP hS 135 ct_135 g1 dX11_set_135 (fun H locs hP hS => ?_)
  exact wX11_set_s136 C n v4 (setI st 135 v1.toNatClampNeg v3) res hf H locs ls (lv_sub hl [3] rfl) hP hS
def fX11_set_s123 (n : Nat)   (v1 : Int32) (v2 : Int32) (v3 : Int32) (k0 : Int32) (st : St) : Option (Int32 × St) := if v2 = 0 then fX11_set_s129 n v1 v3 k0 st else fX11_set_s139 n v1 v2 v3 k0 st
set_option maxHeartbeats 4000000 in
set_option maxRecDepth 100000 in
theorem wX11_set_s123 (C : Cx p s m args meth c cX11_set 5 wsL_law RX11 (some .int) D G ad) (n : Nat)   (v1 : Int32) (v2 : Int32) (v3 : Int32) (k0 : Int32)   (st : St) (res : (Int32 × St))  (hf : fX11_set_s123 n   v1 v2 v3 k0 st = some res) : At p l e (rmK 2) s m args below meth c D G ad (MQI D G ad below args s res) 5 st [(0, .ref (ad 130)), (1, .int v1), (2, .int v2), (3, .int v3)] 123 [.int k0] := by
  obtain ⟨hx, hb, hml, hown, hts, hr, hlk, hK, had, hSt⟩ := id C
  intro H locs ls hl hP hS
  unfold fX11_set_s123 at hf
  refine lv_istore (lv' := [(4, .int k0), (0, .ref (ad 130)), (1, .int v1), (2, .int v2), (3, .int v3)]) hx hb dX11_set_123 hl (by decide) rfl (fun ls hl => ?_)
  refine lv_iload_n hx hb dX11_set_125 rfl (lv_at hl 3 rfl) ?_
  refine lv_if_ne (tgt := 139) hx hb dX11_set_126 (by decide) (fun q => ?_) (fun q => ?_)
  · exact wX11_set_s139 C n v1 v2 v3 k0 st res (ie hf q) H locs ls (lv_sub hl [1, 2, 3, 4, 0] rfl) hP hS
  · exact wX11_set_s129 C n v1 v3 k0 st res (it hf q) H locs ls (lv_sub hl [1, 2, 4, 0] rfl) hP hS
def fX11_set_s117 (n : Nat)   (v1 : Int32) (v2 : Int32) (v3 : Int32) (st : St) : Option (Int32 × St) := if inb v1 8 = true then (fX11_set_s123 n v1 v2 v3 (st.1 138 v1.toNatClampNeg) st) else none
set_option maxHeartbeats 4000000 in
set_option maxRecDepth 100000 in
theorem wX11_set_s117 (C : Cx p s m args meth c cX11_set 5 wsL_law RX11 (some .int) D G ad) (n : Nat)   (v1 : Int32) (v2 : Int32) (v3 : Int32)   (st : St) (res : (Int32 × St))  (hf : fX11_set_s117 n   v1 v2 v3 st = some res) : At p l e (rmK 2) s m args below meth c D G ad (MQI D G ad below args s res) 5 st [(0, .ref (ad 130)), (1, .int v1), (2, .int v2), (3, .int v3)] 117 [] := by
  obtain ⟨hx, hb, hml, hown, hts, hr, hlk, hK, had, hSt⟩ := id C
  intro H locs ls hl hP hS
  unfold fX11_set_s117 at hf
  refine lv_aload_n hx hb dX11_set_117 rfl (lv_at hl 0 rfl) ?_
  refine g_getR hx hb hts inlX11 hown hK hP 130 ct_130 rfl 8 (by decide) (hts _ wm_7_9) rfl dX11_set_118 ?_
  refine lv_iload_n hx hb dX11_set_121 rfl (lv_at hl 1 rfl) ?_
  obtain ⟨g1, hf⟩ := gd hf
  refine g_iald hx hb hK hP 138 ct_138 g1 dX11_set_122 ?_
  exact wX11_set_s123 C n v1 v2 v3 (st.1 138 v1.toNatClampNeg) st res hf H locs ls (lv_sub hl [0, 1, 2, 3] rfl) hP hS
def fX11_set_s108 (n : Nat)   (v1 : Int32) (v2 : Int32) (v3 : Int32) (st : St) : Option (Int32 × St) := if inb v1 8 = true then (fX11_set_s123 n v1 v2 v3 (st.1 137 v1.toNatClampNeg) st) else none
set_option maxHeartbeats 4000000 in
set_option maxRecDepth 100000 in
theorem wX11_set_s108 (C : Cx p s m args meth c cX11_set 5 wsL_law RX11 (some .int) D G ad) (n : Nat)   (v1 : Int32) (v2 : Int32) (v3 : Int32)   (st : St) (res : (Int32 × St))  (hf : fX11_set_s108 n   v1 v2 v3 st = some res) : At p l e (rmK 2) s m args below meth c D G ad (MQI D G ad below args s res) 5 st [(0, .ref (ad 130)), (1, .int v1), (2, .int v2), (3, .int v3)] 108 [] := by
  obtain ⟨hx, hb, hml, hown, hts, hr, hlk, hK, had, hSt⟩ := id C
  intro H locs ls hl hP hS
  unfold fX11_set_s108 at hf
  refine lv_aload_n hx hb dX11_set_108 rfl (lv_at hl 0 rfl) ?_
  refine g_getR hx hb hts inlX11 hown hK hP 130 ct_130 rfl 7 (by decide) (hts _ wm_7_8) rfl dX11_set_109 ?_
  refine lv_iload_n hx hb dX11_set_112 rfl (lv_at hl 1 rfl) ?_
  obtain ⟨g1, hf⟩ := gd hf
  refine g_iald hx hb hK hP 137 ct_137 g1 dX11_set_113 ?_
  refine lv_goto (tgt := 123) hx hb dX11_set_114 (by decide) ?_
  exact wX11_set_s123 C n v1 v2 v3 (st.1 137 v1.toNatClampNeg) st res hf H locs ls (lv_sub hl [0, 1, 2, 3] rfl) hP hS
def fX11_set_s103 (n : Nat)   (v1 : Int32) (v2 : Int32) (v3 : Int32) (st : St) : Option (Int32 × St) := if v2 = 2 then fX11_set_s108 n v1 v2 v3 st else fX11_set_s117 n v1 v2 v3 st
set_option maxHeartbeats 4000000 in
set_option maxRecDepth 100000 in
theorem wX11_set_s103 (C : Cx p s m args meth c cX11_set 5 wsL_law RX11 (some .int) D G ad) (n : Nat)   (v1 : Int32) (v2 : Int32) (v3 : Int32)   (st : St) (res : (Int32 × St))  (hf : fX11_set_s103 n   v1 v2 v3 st = some res) : At p l e (rmK 2) s m args below meth c D G ad (MQI D G ad below args s res) 5 st [(0, .ref (ad 130)), (1, .int v1), (2, .int v2), (3, .int v3)] 103 [] := by
  obtain ⟨hx, hb, hml, hown, hts, hr, hlk, hK, had, hSt⟩ := id C
  intro H locs ls hl hP hS
  unfold fX11_set_s103 at hf
  refine lv_iload_n hx hb dX11_set_103 rfl (lv_at hl 2 rfl) ?_
  refine lv_iconst (v := 2) hx hb dX11_set_104 (by decide) ?_
  refine lv_icmp_ne (tgt := 117) hx hb dX11_set_105 (by decide) (fun q => ?_) (fun q => ?_)
  · exact wX11_set_s117 C n v1 v2 v3 st res (ie hf q) H locs ls (lv_sub hl [0, 1, 2, 3] rfl) hP hS
  · exact wX11_set_s108 C n v1 v2 v3 st res (it hf q) H locs ls (lv_sub hl [0, 1, 2, 3] rfl) hP hS
def fX11_set_s94 (n : Nat)   (v1 : Int32) (v2 : Int32) (v3 : Int32) (st : St) : Option (Int32 × St) := if inb v1 8 = true then (fX11_set_s123 n v1 v2 v3 (st.1 136 v1.toNatClampNeg) st) else none
set_option maxHeartbeats 4000000 in
set_option maxRecDepth 100000 in
theorem wX11_set_s94 (C : Cx p s m args meth c cX11_set 5 wsL_law RX11 (some .int) D G ad) (n : Nat)   (v1 : Int32) (v2 : Int32) (v3 : Int32)   (st : St) (res : (Int32 × St))  (hf : fX11_set_s94 n   v1 v2 v3 st = some res) : At p l e (rmK 2) s m args below meth c D G ad (MQI D G ad below args s res) 5 st [(0, .ref (ad 130)), (1, .int v1), (2, .int v2), (3, .int v3)] 94 [] := by
  obtain ⟨hx, hb, hml, hown, hts, hr, hlk, hK, had, hSt⟩ := id C
  intro H locs ls hl hP hS
  unfold fX11_set_s94 at hf
  refine lv_aload_n hx hb dX11_set_94 rfl (lv_at hl 0 rfl) ?_
  refine g_getR hx hb hts inlX11 hown hK hP 130 ct_130 rfl 6 (by decide) (hts _ wm_7_7) rfl dX11_set_95 ?_
  refine lv_iload_n hx hb dX11_set_98 rfl (lv_at hl 1 rfl) ?_
  obtain ⟨g1, hf⟩ := gd hf
  refine g_iald hx hb hK hP 136 ct_136 g1 dX11_set_99 ?_
  refine lv_goto (tgt := 123) hx hb dX11_set_100 (by decide) ?_
  exact wX11_set_s123 C n v1 v2 v3 (st.1 136 v1.toNatClampNeg) st res hf H locs ls (lv_sub hl [0, 1, 2, 3] rfl) hP hS
def fX11_set_s89 (n : Nat)   (v1 : Int32) (v2 : Int32) (v3 : Int32) (st : St) : Option (Int32 × St) := if v2 = 1 then fX11_set_s94 n v1 v2 v3 st else fX11_set_s103 n v1 v2 v3 st
set_option maxHeartbeats 4000000 in
set_option maxRecDepth 100000 in
theorem wX11_set_s89 (C : Cx p s m args meth c cX11_set 5 wsL_law RX11 (some .int) D G ad) (n : Nat)   (v1 : Int32) (v2 : Int32) (v3 : Int32)   (st : St) (res : (Int32 × St))  (hf : fX11_set_s89 n   v1 v2 v3 st = some res) : At p l e (rmK 2) s m args below meth c D G ad (MQI D G ad below args s res) 5 st [(0, .ref (ad 130)), (1, .int v1), (2, .int v2), (3, .int v3)] 89 [] := by
  obtain ⟨hx, hb, hml, hown, hts, hr, hlk, hK, had, hSt⟩ := id C
  intro H locs ls hl hP hS
  unfold fX11_set_s89 at hf
  refine lv_iload_n hx hb dX11_set_89 rfl (lv_at hl 2 rfl) ?_
  refine lv_iconst (v := 1) hx hb dX11_set_90 (by decide) ?_
  refine lv_icmp_ne (tgt := 103) hx hb dX11_set_91 (by decide) (fun q => ?_) (fun q => ?_)
  · exact wX11_set_s103 C n v1 v2 v3 st res (ie hf q) H locs ls (lv_sub hl [0, 1, 2, 3] rfl) hP hS
  · exact wX11_set_s94 C n v1 v2 v3 st res (it hf q) H locs ls (lv_sub hl [0, 1, 2, 3] rfl) hP hS
def fX11_set_s80 (n : Nat)   (v1 : Int32) (v2 : Int32) (v3 : Int32) (st : St) : Option (Int32 × St) := if inb v1 8 = true then (fX11_set_s123 n v1 v2 v3 (st.1 135 v1.toNatClampNeg) st) else none
set_option maxHeartbeats 4000000 in
set_option maxRecDepth 100000 in
theorem wX11_set_s80 (C : Cx p s m args meth c cX11_set 5 wsL_law RX11 (some .int) D G ad) (n : Nat)   (v1 : Int32) (v2 : Int32) (v3 : Int32)   (st : St) (res : (Int32 × St))  (hf : fX11_set_s80 n   v1 v2 v3 st = some res) : At p l e (rmK 2) s m args below meth c D G ad (MQI D G ad below args s res) 5 st [(0, .ref (ad 130)), (1, .int v1), (2, .int v2), (3, .int v3)] 80 [] := by
  obtain ⟨hx, hb, hml, hown, hts, hr, hlk, hK, had, hSt⟩ := id C
  intro H locs ls hl hP hS
  unfold fX11_set_s80 at hf
  refine lv_aload_n hx hb dX11_set_80 rfl (lv_at hl 0 rfl) ?_
  refine g_getR hx hb hts inlX11 hown hK hP 130 ct_130 rfl 5 (by decide) (hts _ wm_7_6) rfl dX11_set_81 ?_
  refine lv_iload_n hx hb dX11_set_84 rfl (lv_at hl 1 rfl) ?_
  obtain ⟨g1, hf⟩ := gd hf
  refine g_iald hx hb hK hP 135 ct_135 g1 dX11_set_85 ?_
  refine lv_goto (tgt := 123) hx hb dX11_set_86 (by decide) ?_
  exact wX11_set_s123 C n v1 v2 v3 (st.1 135 v1.toNatClampNeg) st res hf H locs ls (lv_sub hl [0, 1, 2, 3] rfl) hP hS
def fX11_set_s76 (n : Nat)   (v1 : Int32) (v2 : Int32) (v3 : Int32) (st : St) : Option (Int32 × St) := if v2 = 0 then fX11_set_s80 n v1 v2 v3 st else fX11_set_s89 n v1 v2 v3 st
set_option maxHeartbeats 4000000 in
set_option maxRecDepth 100000 in
theorem wX11_set_s76 (C : Cx p s m args meth c cX11_set 5 wsL_law RX11 (some .int) D G ad) (n : Nat)   (v1 : Int32) (v2 : Int32) (v3 : Int32)   (st : St) (res : (Int32 × St))  (hf : fX11_set_s76 n   v1 v2 v3 st = some res) : At p l e (rmK 2) s m args below meth c D G ad (MQI D G ad below args s res) 5 st [(0, .ref (ad 130)), (1, .int v1), (2, .int v2), (3, .int v3)] 76 [] := by
  obtain ⟨hx, hb, hml, hown, hts, hr, hlk, hK, had, hSt⟩ := id C
  intro H locs ls hl hP hS
  unfold fX11_set_s76 at hf
  refine lv_iload_n hx hb dX11_set_76 rfl (lv_at hl 2 rfl) ?_
  refine lv_if_ne (tgt := 89) hx hb dX11_set_77 (by decide) (fun q => ?_) (fun q => ?_)
  · exact wX11_set_s89 C n v1 v2 v3 st res (ie hf q) H locs ls (lv_sub hl [0, 1, 2, 3] rfl) hP hS
  · exact wX11_set_s80 C n v1 v2 v3 st res (it hf q) H locs ls (lv_sub hl [0, 1, 2, 3] rfl) hP hS
def fX11_set_s73 (n : Nat)    (st : St) : Option (Int32 × St) := some ((-2), st)
set_option maxHeartbeats 4000000 in
set_option maxRecDepth 100000 in
theorem wX11_set_s73 (C : Cx p s m args meth c cX11_set 5 wsL_law RX11 (some .int) D G ad) (n : Nat)      (st : St) (res : (Int32 × St))  (hf : fX11_set_s73 n    st = some res) : At p l e (rmK 2) s m args below meth c D G ad (MQI D G ad below args s res) 5 st [] 73 [] := by
  obtain ⟨hx, hb, hml, hown, hts, hr, hlk, hK, had, hSt⟩ := id C
  intro H locs ls hl hP hS
  unfold fX11_set_s73 at hf
  refine lv_bipush (v := (-2)) hx hb dX11_set_73 (by decide) ?_
  exact g_iret hx hb hr hlk hP hS dX11_set_75 hf
def fX11_set_s70 (n : Nat)   (v1 : Int32) (v2 : Int32) (v3 : Int32) (k0 : Int32) (st : St) : Option (Int32 × St) := if k0 = 0 then fX11_set_s73 n st else fX11_set_s76 n v1 v2 v3 st
set_option maxHeartbeats 4000000 in
set_option maxRecDepth 100000 in
theorem wX11_set_s70 (C : Cx p s m args meth c cX11_set 5 wsL_law RX11 (some .int) D G ad) (n : Nat)   (v1 : Int32) (v2 : Int32) (v3 : Int32) (k0 : Int32)   (st : St) (res : (Int32 × St))  (hf : fX11_set_s70 n   v1 v2 v3 k0 st = some res) : At p l e (rmK 2) s m args below meth c D G ad (MQI D G ad below args s res) 5 st [(0, .ref (ad 130)), (1, .int v1), (2, .int v2), (3, .int v3)] 70 [.int k0] := by
  obtain ⟨hx, hb, hml, hown, hts, hr, hlk, hK, had, hSt⟩ := id C
  intro H locs ls hl hP hS
  unfold fX11_set_s70 at hf
  refine lv_if_ne (tgt := 76) hx hb dX11_set_70 (by decide) (fun q => ?_) (fun q => ?_)
  · exact wX11_set_s76 C n v1 v2 v3 st res (ie hf q) H locs ls (lv_sub hl [0, 1, 2, 3] rfl) hP hS
  · exact wX11_set_s73 C n st res (it hf q) H locs ls (lv_sub hl [] rfl) hP hS
def fX11_set_s61 (n : Nat)   (v1 : Int32) (v2 : Int32) (v3 : Int32) (st : St) : Option (Int32 × St) := (fX11_in n v3.toInt64 0 99 st).bind (fun q => fX11_set_s70 n v1 v2 v3 q.1 q.2)
set_option maxHeartbeats 4000000 in
set_option maxRecDepth 100000 in
theorem wX11_set_s61 (C : Cx p s m args meth c cX11_set 5 wsL_law RX11 (some .int) D G ad) (n : Nat)   (v1 : Int32) (v2 : Int32) (v3 : Int32)   (st : St) (res : (Int32 × St))  (hf : fX11_set_s61 n   v1 v2 v3 st = some res) : At p l e (rmK 2) s m args below meth c D G ad (MQI D G ad below args s res) 5 st [(0, .ref (ad 130)), (1, .int v1), (2, .int v2), (3, .int v3)] 61 [] := by
  obtain ⟨hx, hb, hml, hown, hts, hr, hlk, hK, had, hSt⟩ := id C
  intro H locs ls hl hP hS
  unfold fX11_set_s61 at hf
  refine lv_iload_n hx hb dX11_set_61 rfl (lv_at hl 3 rfl) ?_
  refine lv_i2l hx hb dX11_set_62 rfl ?_
  refine lv_lconst (v := 0) hx hb dX11_set_63 (by decide) ?_
  refine lv_ldc2 hx hb hown (hts _ wm_11_13) dX11_set_64 ?_
  obtain ⟨q, hq, hf⟩ := bd hf
  refine gcS_i (k := 0) (As := [.long v3.toInt64, .long 0, .long 99]) (rest := []) hx hb hml hown hts hK hSt hP hS hl.1 (goodS wm_10_21 wm_10_22 wm_1_5 wm_10_23) okX11_in (Nat.le_of_ble_eq_true rfl) (Nat.le_of_ble_eq_true rfl) rfl rfl (Nat.le_of_ble_eq_true rfl) dX11_set_67 (kX11_in l D G ad had n  v3.toInt64 0 99 st q hq) (fun H locs hP hS => ?_)
  exact wX11_set_s70 C n v1 v2 v3 q.1 q.2 res hf H locs ls (lv_sub hl [0, 1, 2, 3] rfl) hP hS
def fX11_set_s58 (n : Nat)    (st : St) : Option (Int32 × St) := fX11_set_s73 n st
set_option maxHeartbeats 4000000 in
set_option maxRecDepth 100000 in
theorem wX11_set_s58 (C : Cx p s m args meth c cX11_set 5 wsL_law RX11 (some .int) D G ad) (n : Nat)      (st : St) (res : (Int32 × St))  (hf : fX11_set_s58 n    st = some res) : At p l e (rmK 2) s m args below meth c D G ad (MQI D G ad below args s res) 5 st [] 58 [] := by
  obtain ⟨hx, hb, hml, hown, hts, hr, hlk, hK, had, hSt⟩ := id C
  intro H locs ls hl hP hS
  unfold fX11_set_s58 at hf
  refine lv_goto (tgt := 73) hx hb dX11_set_58 (by decide) ?_
  exact wX11_set_s73 C n st res hf H locs ls (lv_sub hl [] rfl) hP hS
def fX11_set_s55 (n : Nat)   (v1 : Int32) (v2 : Int32) (v3 : Int32) (k0 : Int32) (st : St) : Option (Int32 × St) := if k0 = 0 then fX11_set_s58 n st else fX11_set_s76 n v1 v2 v3 st
set_option maxHeartbeats 4000000 in
set_option maxRecDepth 100000 in
theorem wX11_set_s55 (C : Cx p s m args meth c cX11_set 5 wsL_law RX11 (some .int) D G ad) (n : Nat)   (v1 : Int32) (v2 : Int32) (v3 : Int32) (k0 : Int32)   (st : St) (res : (Int32 × St))  (hf : fX11_set_s55 n   v1 v2 v3 k0 st = some res) : At p l e (rmK 2) s m args below meth c D G ad (MQI D G ad below args s res) 5 st [(0, .ref (ad 130)), (1, .int v1), (2, .int v2), (3, .int v3)] 55 [.int k0] := by
  obtain ⟨hx, hb, hml, hown, hts, hr, hlk, hK, had, hSt⟩ := id C
  intro H locs ls hl hP hS
  unfold fX11_set_s55 at hf
  refine lv_if_ne (tgt := 76) hx hb dX11_set_55 (by decide) (fun q => ?_) (fun q => ?_)
  · exact wX11_set_s76 C n v1 v2 v3 st res (ie hf q) H locs ls (lv_sub hl [0, 1, 2, 3] rfl) hP hS
  · exact wX11_set_s58 C n st res (it hf q) H locs ls (lv_sub hl [] rfl) hP hS
def fX11_set_s46 (n : Nat)   (v1 : Int32) (v2 : Int32) (v3 : Int32) (st : St) : Option (Int32 × St) := (fX11_in n v3.toInt64 1 9999 st).bind (fun q => fX11_set_s55 n v1 v2 v3 q.1 q.2)
set_option maxHeartbeats 4000000 in
set_option maxRecDepth 100000 in
theorem wX11_set_s46 (C : Cx p s m args meth c cX11_set 5 wsL_law RX11 (some .int) D G ad) (n : Nat)   (v1 : Int32) (v2 : Int32) (v3 : Int32)   (st : St) (res : (Int32 × St))  (hf : fX11_set_s46 n   v1 v2 v3 st = some res) : At p l e (rmK 2) s m args below meth c D G ad (MQI D G ad below args s res) 5 st [(0, .ref (ad 130)), (1, .int v1), (2, .int v2), (3, .int v3)] 46 [] := by
  obtain ⟨hx, hb, hml, hown, hts, hr, hlk, hK, had, hSt⟩ := id C
  intro H locs ls hl hP hS
  unfold fX11_set_s46 at hf
  refine lv_iload_n hx hb dX11_set_46 rfl (lv_at hl 3 rfl) ?_
  refine lv_i2l hx hb dX11_set_47 rfl ?_
  refine lv_lconst (v := 1) hx hb dX11_set_48 (by decide) ?_
  refine lv_ldc2 hx hb hown (hts _ wm_10_14) dX11_set_49 ?_
  obtain ⟨q, hq, hf⟩ := bd hf
  refine gcS_i (k := 0) (As := [.long v3.toInt64, .long 1, .long 9999]) (rest := []) hx hb hml hown hts hK hSt hP hS hl.1 (goodS wm_10_21 wm_10_22 wm_1_5 wm_10_23) okX11_in (Nat.le_of_ble_eq_true rfl) (Nat.le_of_ble_eq_true rfl) rfl rfl (Nat.le_of_ble_eq_true rfl) dX11_set_52 (kX11_in l D G ad had n  v3.toInt64 1 9999 st q hq) (fun H locs hP hS => ?_)
  exact wX11_set_s55 C n v1 v2 v3 q.1 q.2 res hf H locs ls (lv_sub hl [0, 1, 2, 3] rfl) hP hS
def fX11_set_s41 (n : Nat)   (v1 : Int32) (v2 : Int32) (v3 : Int32) (st : St) : Option (Int32 × St) := if v2 = 1 then fX11_set_s46 n v1 v2 v3 st else fX11_set_s61 n v1 v2 v3 st
set_option maxHeartbeats 4000000 in
set_option maxRecDepth 100000 in
theorem wX11_set_s41 (C : Cx p s m args meth c cX11_set 5 wsL_law RX11 (some .int) D G ad) (n : Nat)   (v1 : Int32) (v2 : Int32) (v3 : Int32)   (st : St) (res : (Int32 × St))  (hf : fX11_set_s41 n   v1 v2 v3 st = some res) : At p l e (rmK 2) s m args below meth c D G ad (MQI D G ad below args s res) 5 st [(0, .ref (ad 130)), (1, .int v1), (2, .int v2), (3, .int v3)] 41 [] := by
  obtain ⟨hx, hb, hml, hown, hts, hr, hlk, hK, had, hSt⟩ := id C
  intro H locs ls hl hP hS
  unfold fX11_set_s41 at hf
  refine lv_iload_n hx hb dX11_set_41 rfl (lv_at hl 2 rfl) ?_
  refine lv_iconst (v := 1) hx hb dX11_set_42 (by decide) ?_
  refine lv_icmp_ne (tgt := 61) hx hb dX11_set_43 (by decide) (fun q => ?_) (fun q => ?_)
  · exact wX11_set_s61 C n v1 v2 v3 st res (ie hf q) H locs ls (lv_sub hl [0, 1, 2, 3] rfl) hP hS
  · exact wX11_set_s46 C n v1 v2 v3 st res (it hf q) H locs ls (lv_sub hl [0, 1, 2, 3] rfl) hP hS
def fX11_set_s38 (n : Nat)    (st : St) : Option (Int32 × St) := fX11_set_s73 n st
set_option maxHeartbeats 4000000 in
set_option maxRecDepth 100000 in
theorem wX11_set_s38 (C : Cx p s m args meth c cX11_set 5 wsL_law RX11 (some .int) D G ad) (n : Nat)      (st : St) (res : (Int32 × St))  (hf : fX11_set_s38 n    st = some res) : At p l e (rmK 2) s m args below meth c D G ad (MQI D G ad below args s res) 5 st [] 38 [] := by
  obtain ⟨hx, hb, hml, hown, hts, hr, hlk, hK, had, hSt⟩ := id C
  intro H locs ls hl hP hS
  unfold fX11_set_s38 at hf
  refine lv_goto (tgt := 73) hx hb dX11_set_38 (by decide) ?_
  exact wX11_set_s73 C n st res hf H locs ls (lv_sub hl [] rfl) hP hS
def fX11_set_s35 (n : Nat)   (v1 : Int32) (v2 : Int32) (v3 : Int32) (k0 : Int32) (st : St) : Option (Int32 × St) := if k0 = 0 then fX11_set_s38 n st else fX11_set_s76 n v1 v2 v3 st
set_option maxHeartbeats 4000000 in
set_option maxRecDepth 100000 in
theorem wX11_set_s35 (C : Cx p s m args meth c cX11_set 5 wsL_law RX11 (some .int) D G ad) (n : Nat)   (v1 : Int32) (v2 : Int32) (v3 : Int32) (k0 : Int32)   (st : St) (res : (Int32 × St))  (hf : fX11_set_s35 n   v1 v2 v3 k0 st = some res) : At p l e (rmK 2) s m args below meth c D G ad (MQI D G ad below args s res) 5 st [(0, .ref (ad 130)), (1, .int v1), (2, .int v2), (3, .int v3)] 35 [.int k0] := by
  obtain ⟨hx, hb, hml, hown, hts, hr, hlk, hK, had, hSt⟩ := id C
  intro H locs ls hl hP hS
  unfold fX11_set_s35 at hf
  refine lv_if_ne (tgt := 76) hx hb dX11_set_35 (by decide) (fun q => ?_) (fun q => ?_)
  · exact wX11_set_s76 C n v1 v2 v3 st res (ie hf q) H locs ls (lv_sub hl [0, 1, 2, 3] rfl) hP hS
  · exact wX11_set_s38 C n st res (it hf q) H locs ls (lv_sub hl [] rfl) hP hS
def fX11_set_s26 (n : Nat)   (v1 : Int32) (v2 : Int32) (v3 : Int32) (st : St) : Option (Int32 × St) := (fX11_in n v3.toInt64 1 50 st).bind (fun q => fX11_set_s35 n v1 v2 v3 q.1 q.2)
set_option maxHeartbeats 4000000 in
set_option maxRecDepth 100000 in
theorem wX11_set_s26 (C : Cx p s m args meth c cX11_set 5 wsL_law RX11 (some .int) D G ad) (n : Nat)   (v1 : Int32) (v2 : Int32) (v3 : Int32)   (st : St) (res : (Int32 × St))  (hf : fX11_set_s26 n   v1 v2 v3 st = some res) : At p l e (rmK 2) s m args below meth c D G ad (MQI D G ad below args s res) 5 st [(0, .ref (ad 130)), (1, .int v1), (2, .int v2), (3, .int v3)] 26 [] := by
  obtain ⟨hx, hb, hml, hown, hts, hr, hlk, hK, had, hSt⟩ := id C
  intro H locs ls hl hP hS
  unfold fX11_set_s26 at hf
  refine lv_iload_n hx hb dX11_set_26 rfl (lv_at hl 3 rfl) ?_
  refine lv_i2l hx hb dX11_set_27 rfl ?_
  refine lv_lconst (v := 1) hx hb dX11_set_28 (by decide) ?_
  refine lv_ldc2 hx hb hown (hts _ wm_11_12) dX11_set_29 ?_
  obtain ⟨q, hq, hf⟩ := bd hf
  refine gcS_i (k := 0) (As := [.long v3.toInt64, .long 1, .long 50]) (rest := []) hx hb hml hown hts hK hSt hP hS hl.1 (goodS wm_10_21 wm_10_22 wm_1_5 wm_10_23) okX11_in (Nat.le_of_ble_eq_true rfl) (Nat.le_of_ble_eq_true rfl) rfl rfl (Nat.le_of_ble_eq_true rfl) dX11_set_32 (kX11_in l D G ad had n  v3.toInt64 1 50 st q hq) (fun H locs hP hS => ?_)
  exact wX11_set_s35 C n v1 v2 v3 q.1 q.2 res hf H locs ls (lv_sub hl [0, 1, 2, 3] rfl) hP hS
def fX11_set_s22 (n : Nat)   (v1 : Int32) (v2 : Int32) (v3 : Int32) (st : St) : Option (Int32 × St) := if v2 = 0 then fX11_set_s26 n v1 v2 v3 st else fX11_set_s41 n v1 v2 v3 st
set_option maxHeartbeats 4000000 in
set_option maxRecDepth 100000 in
theorem wX11_set_s22 (C : Cx p s m args meth c cX11_set 5 wsL_law RX11 (some .int) D G ad) (n : Nat)   (v1 : Int32) (v2 : Int32) (v3 : Int32)   (st : St) (res : (Int32 × St))  (hf : fX11_set_s22 n   v1 v2 v3 st = some res) : At p l e (rmK 2) s m args below meth c D G ad (MQI D G ad below args s res) 5 st [(0, .ref (ad 130)), (1, .int v1), (2, .int v2), (3, .int v3)] 22 [] := by
  obtain ⟨hx, hb, hml, hown, hts, hr, hlk, hK, had, hSt⟩ := id C
  intro H locs ls hl hP hS
  unfold fX11_set_s22 at hf
  refine lv_iload_n hx hb dX11_set_22 rfl (lv_at hl 2 rfl) ?_
  refine lv_if_ne (tgt := 41) hx hb dX11_set_23 (by decide) (fun q => ?_) (fun q => ?_)
  · exact wX11_set_s41 C n v1 v2 v3 st res (ie hf q) H locs ls (lv_sub hl [0, 1, 2, 3] rfl) hP hS
  · exact wX11_set_s26 C n v1 v2 v3 st res (it hf q) H locs ls (lv_sub hl [0, 1, 2, 3] rfl) hP hS
def fX11_set_s17 (n : Nat)   (v1 : Int32) (v2 : Int32) (v3 : Int32) (k0 : Int32) (st : St) : Option (Int32 × St) := if k0 = 0 then fX11_set_s20 n st else fX11_set_s22 n v1 v2 v3 st
set_option maxHeartbeats 4000000 in
set_option maxRecDepth 100000 in
theorem wX11_set_s17 (C : Cx p s m args meth c cX11_set 5 wsL_law RX11 (some .int) D G ad) (n : Nat)   (v1 : Int32) (v2 : Int32) (v3 : Int32) (k0 : Int32)   (st : St) (res : (Int32 × St))  (hf : fX11_set_s17 n   v1 v2 v3 k0 st = some res) : At p l e (rmK 2) s m args below meth c D G ad (MQI D G ad below args s res) 5 st [(0, .ref (ad 130)), (1, .int v1), (2, .int v2), (3, .int v3)] 17 [.int k0] := by
  obtain ⟨hx, hb, hml, hown, hts, hr, hlk, hK, had, hSt⟩ := id C
  intro H locs ls hl hP hS
  unfold fX11_set_s17 at hf
  refine lv_if_ne (tgt := 22) hx hb dX11_set_17 (by decide) (fun q => ?_) (fun q => ?_)
  · exact wX11_set_s22 C n v1 v2 v3 st res (ie hf q) H locs ls (lv_sub hl [0, 1, 2, 3] rfl) hP hS
  · exact wX11_set_s20 C n st res (it hf q) H locs ls (lv_sub hl [] rfl) hP hS
def fX11_set_s8 (n : Nat)   (v1 : Int32) (v2 : Int32) (v3 : Int32) (st : St) : Option (Int32 × St) := (fX11_in n v2.toInt64 0 3 st).bind (fun q => fX11_set_s17 n v1 v2 v3 q.1 q.2)
set_option maxHeartbeats 4000000 in
set_option maxRecDepth 100000 in
theorem wX11_set_s8 (C : Cx p s m args meth c cX11_set 5 wsL_law RX11 (some .int) D G ad) (n : Nat)   (v1 : Int32) (v2 : Int32) (v3 : Int32)   (st : St) (res : (Int32 × St))  (hf : fX11_set_s8 n   v1 v2 v3 st = some res) : At p l e (rmK 2) s m args below meth c D G ad (MQI D G ad below args s res) 5 st [(0, .ref (ad 130)), (1, .int v1), (2, .int v2), (3, .int v3)] 8 [] := by
  obtain ⟨hx, hb, hml, hown, hts, hr, hlk, hK, had, hSt⟩ := id C
  intro H locs ls hl hP hS
  unfold fX11_set_s8 at hf
  refine lv_iload_n hx hb dX11_set_8 rfl (lv_at hl 2 rfl) ?_
  refine lv_i2l hx hb dX11_set_9 rfl ?_
  refine lv_lconst (v := 0) hx hb dX11_set_10 (by decide) ?_
  refine lv_ldc2 hx hb hown (hts _ wm_10_12) dX11_set_11 ?_
  obtain ⟨q, hq, hf⟩ := bd hf
  refine gcS_i (k := 0) (As := [.long v2.toInt64, .long 0, .long 3]) (rest := []) hx hb hml hown hts hK hSt hP hS hl.1 (goodS wm_10_21 wm_10_22 wm_1_5 wm_10_23) okX11_in (Nat.le_of_ble_eq_true rfl) (Nat.le_of_ble_eq_true rfl) rfl rfl (Nat.le_of_ble_eq_true rfl) dX11_set_14 (kX11_in l D G ad had n  v2.toInt64 0 3 st q hq) (fun H locs hP hS => ?_)
  exact wX11_set_s17 C n v1 v2 v3 q.1 q.2 res hf H locs ls (lv_sub hl [0, 1, 2, 3] rfl) hP hS
def fX11_set_s5 (n : Nat)   (v1 : Int32) (v2 : Int32) (v3 : Int32) (k0 : Int32) (st : St) : Option (Int32 × St) := if k0 = 0 then fX11_set_s20 n st else fX11_set_s8 n v1 v2 v3 st
set_option maxHeartbeats 4000000 in
set_option maxRecDepth 100000 in
theorem wX11_set_s5 (C : Cx p s m args meth c cX11_set 5 wsL_law RX11 (some .int) D G ad) (n : Nat)   (v1 : Int32) (v2 : Int32) (v3 : Int32) (k0 : Int32)   (st : St) (res : (Int32 × St))  (hf : fX11_set_s5 n   v1 v2 v3 k0 st = some res) : At p l e (rmK 2) s m args below meth c D G ad (MQI D G ad below args s res) 5 st [(0, .ref (ad 130)), (1, .int v1), (2, .int v2), (3, .int v3)] 5 [.int k0] := by
  obtain ⟨hx, hb, hml, hown, hts, hr, hlk, hK, had, hSt⟩ := id C
  intro H locs ls hl hP hS
  unfold fX11_set_s5 at hf
  refine lv_if_eq (tgt := 20) hx hb dX11_set_5 (by decide) (fun q => ?_) (fun q => ?_)
  · exact wX11_set_s20 C n st res (it hf q) H locs ls (lv_sub hl [] rfl) hP hS
  · exact wX11_set_s8 C n v1 v2 v3 st res (ie hf q) H locs ls (lv_sub hl [0, 1, 2, 3] rfl) hP hS
def fX11_set_s0 (n : Nat)   (v1 : Int32) (v2 : Int32) (v3 : Int32) (st : St) : Option (Int32 × St) := (fX11_isStage n v1 st).bind (fun q => fX11_set_s5 n v1 v2 v3 q.1 q.2)
set_option maxHeartbeats 4000000 in
set_option maxRecDepth 100000 in
theorem wX11_set_s0 (C : Cx p s m args meth c cX11_set 5 wsL_law RX11 (some .int) D G ad) (n : Nat)   (v1 : Int32) (v2 : Int32) (v3 : Int32)   (st : St) (res : (Int32 × St))  (hf : fX11_set_s0 n   v1 v2 v3 st = some res) : At p l e (rmK 2) s m args below meth c D G ad (MQI D G ad below args s res) 5 st [(0, .ref (ad 130)), (1, .int v1), (2, .int v2), (3, .int v3)] 0 [] := by
  obtain ⟨hx, hb, hml, hown, hts, hr, hlk, hK, had, hSt⟩ := id C
  intro H locs ls hl hP hS
  unfold fX11_set_s0 at hf
  refine lv_aload_n hx hb dX11_set_0 rfl (lv_at hl 0 rfl) ?_
  refine lv_iload_n hx hb dX11_set_1 rfl (lv_at hl 1 rfl) ?_
  obtain ⟨q, hq, hf⟩ := bd hf
  refine gcV_i (k := 1) (o := 130) (As := [.int v1]) (rest := []) hx hb hml hown hts hK hSt hP hS hl.1 (goodV wm_10_17 wm_10_18 wm_10_19 wm_1_5 wm_10_20) okX11_isStage ct_130 rfl rfl (Nat.le_of_ble_eq_true rfl) (Nat.le_of_ble_eq_true rfl) rfl rfl (Nat.le_of_ble_eq_true rfl) dX11_set_2 (kX11_isStage l D G ad had n  v1 st q hq) (fun H locs hP hS => ?_)
  exact wX11_set_s5 C n v1 v2 v3 q.1 q.2 res hf H locs ls (lv_sub hl [0, 1, 2, 3] rfl) hP hS
def fX11_set (n : Nat)  (a1 : Int32) (a2 : Int32) (a3 : Int32) (st : St) : Option (Int32 × St) := fX11_set_s0 n a1 a2 a3 st
theorem okX11_set : okY yX11_set RX11 3 := by unfold okY; decide +kernel
end
set_option maxRecDepth 100000 in
theorem kX11_set (l : Launch) (D : va_G) (G : G3) (ad : Nat → Nat) (had : Adr ad) (n : Nat)   (a1 : Int32) (a2 : Int32) (a3 : Int32) (st : St) (res : (Int32 × St)) (hf : fX11_set n  a1 a2 a3 st = some res) {sz : Nat} : CtI l yX11_set (wsU yX11_set cX11_set 5 (some .int)) (rmK 2) D G ad sz [.ref (ad 130), .int a1, .int a2, .int a3] st res := by
  refine Met.ofW (cc := cX11_set) (maxL := 5) (ret := (some .int)) (by decide) rfl ?_
  intro p e s m args below meth c s₁ B hml hv
  obtain ⟨rfl, hsz, hP, hK, hSt⟩ := hv
  have hts := atoms_spec (ws := wsU yX11_set cX11_set 5 (some .int)) B.pre
  have C : Cx p s m _ meth c cX11_set 5 wsL_law RX11 (some .int) D G ad := ⟨B.exec, B.bytes, hml, findClass_of_methodNamed B.named, fun w h => hts w (List.mem_cons_of_mem _ h), B.returns, B.notSynchronized, hK, had, hSt⟩
  subst hsz
  have hl := lv_entry ([.ref (ad 130), .int a1, .int a2, .int a3]) (n := 5) (Nat.le_of_ble_eq_true rfl)
  rw [lg_entry_eq]
  generalize (lg_sl ([.ref (ad 130), .int a1, .int a2, .int a3]) ++ List.replicate (5 - (lg_sl ([.ref (ad 130), .int a1, .int a2, .int a3])).length) Slot.unset).toArray = ls at hl ⊢
  exact wX11_set_s0 C n  a1 a2 a3   st res hf s.heap [] ls (lv_sub hl [0, 1, 2, 3] rfl) hP va_S.rf
section
variable {p : Program} {l : Launch} {e : Env} {s : State} {m : MethodId} {args : Array Value} {below : List Frame} {meth : Method} {c : Code} {D : va_G} {G : G3} {ad : Nat → Nat}
def fX11_use_s26 (n : Nat)    (st : St) : Option (Int32 × St) := some ((-5), st)
set_option maxHeartbeats 4000000 in
set_option maxRecDepth 100000 in
theorem wX11_use_s26 (C : Cx p s m args meth c cX11_use 4 wsL_law RX11 (some .int) D G ad) (n : Nat)      (st : St) (res : (Int32 × St))  (hf : fX11_use_s26 n    st = some res) : At p l e (rmK 2) s m args below meth c D G ad (MQI D G ad below args s res) 4 st [] 26 [] := by
  obtain ⟨hx, hb, hml, hown, hts, hr, hlk, hK, had, hSt⟩ := id C
  intro H locs ls hl hP hS
  unfold fX11_use_s26 at hf
  refine lv_bipush (v := (-5)) hx hb dX11_use_26 (by decide) ?_
  exact g_iret hx hb hr hlk hP hS dX11_use_28 hf
def fX11_use_s43 (n : Nat)   (v3 : Int32) (st : St) : Option (Int32 × St) := some (v3, st)
set_option maxHeartbeats 4000000 in
set_option maxRecDepth 100000 in
theorem wX11_use_s43 (C : Cx p s m args meth c cX11_use 4 wsL_law RX11 (some .int) D G ad) (n : Nat)   (v3 : Int32)   (st : St) (res : (Int32 × St))  (hf : fX11_use_s43 n   v3 st = some res) : At p l e (rmK 2) s m args below meth c D G ad (MQI D G ad below args s res) 4 st [(3, .int v3)] 43 [] := by
  obtain ⟨hx, hb, hml, hown, hts, hr, hlk, hK, had, hSt⟩ := id C
  intro H locs ls hl hP hS
  unfold fX11_use_s43 at hf
  refine lv_iload_n hx hb dX11_use_43 rfl (lv_at hl 0 rfl) ?_
  exact g_iret hx hb hr hlk hP hS dX11_use_44 hf
def fX11_use_s29 (n : Nat)   (v1 : Int32) (v2 : Int32) (st : St) : Option (Int32 × St) := if inb v1 8 = true then (if inb v1 8 = true then (fX11_use_s43 n (st.1 139 v1.toNatClampNeg) (setI st 139 v1.toNatClampNeg v2)) else none) else none
set_option maxHeartbeats 4000000 in
set_option maxRecDepth 100000 in
theorem wX11_use_s29 (C : Cx p s m args meth c cX11_use 4 wsL_law RX11 (some .int) D G ad) (n : Nat)   (v1 : Int32) (v2 : Int32)   (st : St) (res : (Int32 × St))  (hf : fX11_use_s29 n   v1 v2 st = some res) : At p l e (rmK 2) s m args below meth c D G ad (MQI D G ad below args s res) 4 st [(0, .ref (ad 130)), (1, .int v1), (2, .int v2)] 29 [] := by
  obtain ⟨hx, hb, hml, hown, hts, hr, hlk, hK, had, hSt⟩ := id C
  intro H locs ls hl hP hS
  unfold fX11_use_s29 at hf
  refine lv_aload_n hx hb dX11_use_29 rfl (lv_at hl 0 rfl) ?_
  refine g_getR hx hb hts inlX11 hown hK hP 130 ct_130 rfl 9 (by decide) (hts _ wm_7_10) rfl dX11_use_30 ?_
  refine lv_iload_n hx hb dX11_use_33 rfl (lv_at hl 1 rfl) ?_
  obtain ⟨g1, hf⟩ := gd hf
  refine g_iald hx hb hK hP 139 ct_139 g1 dX11_use_34 ?_
  refine lv_istore_n (lv' := [(3, .int (st.1 139 v1.toNatClampNeg)), (0, .ref (ad 130)), (1, .int v1), (2, .int v2)]) hx hb dX11_use_35 rfl hl (by decide) rfl (fun ls hl => ?_)
  refine lv_aload_n hx hb dX11_use_36 rfl (lv_at hl 1 rfl) ?_
  refine g_getR hx hb hts inlX11 hown hK hP 130 ct_130 rfl 9 (by decide) (hts _ wm_7_10) rfl dX11_use_37 ?_
  refine lv_iload_n hx hb dX11_use_40 rfl (lv_at hl 2 rfl) ?_
  refine lv_iload_n hx hb dX11_use_41 rfl (lv_at hl 3 rfl) ?_
  obtain ⟨g2, hf⟩ := gd hf
  refine g_iast hx hb hK had hP hS 139 ct_139 g2 dX11_use_42 (fun H locs hP hS => ?_)
  exact wX11_use_s43 C n (st.1 139 v1.toNatClampNeg) (setI st 139 v1.toNatClampNeg v2) res hf H locs ls (lv_sub hl [0] rfl) hP hS
def fX11_use_s23 (n : Nat)   (v1 : Int32) (v2 : Int32) (k0 : Int32) (st : St) : Option (Int32 × St) := if k0 = 0 then fX11_use_s26 n st else fX11_use_s29 n v1 v2 st
set_option maxHeartbeats 4000000 in
set_option maxRecDepth 100000 in
theorem wX11_use_s23 (C : Cx p s m args meth c cX11_use 4 wsL_law RX11 (some .int) D G ad) (n : Nat)   (v1 : Int32) (v2 : Int32) (k0 : Int32)   (st : St) (res : (Int32 × St))  (hf : fX11_use_s23 n   v1 v2 k0 st = some res) : At p l e (rmK 2) s m args below meth c D G ad (MQI D G ad below args s res) 4 st [(0, .ref (ad 130)), (1, .int v1), (2, .int v2)] 23 [.int k0] := by
  obtain ⟨hx, hb, hml, hown, hts, hr, hlk, hK, had, hSt⟩ := id C
  intro H locs ls hl hP hS
  unfold fX11_use_s23 at hf
  refine lv_if_ne (tgt := 29) hx hb dX11_use_23 (by decide) (fun q => ?_) (fun q => ?_)
  · exact wX11_use_s29 C n v1 v2 st res (ie hf q) H locs ls (lv_sub hl [0, 1, 2] rfl) hP hS
  · exact wX11_use_s26 C n st res (it hf q) H locs ls (lv_sub hl [] rfl) hP hS
def fX11_use_s8 (n : Nat)   (v1 : Int32) (v2 : Int32) (st : St) : Option (Int32 × St) := (fX11_in n v2.toInt64 (-1) (((st.1 130 28) - 1).toInt64) st).bind (fun q => fX11_use_s23 n v1 v2 q.1 q.2)
set_option maxHeartbeats 4000000 in
set_option maxRecDepth 100000 in
theorem wX11_use_s8 (C : Cx p s m args meth c cX11_use 4 wsL_law RX11 (some .int) D G ad) (n : Nat)   (v1 : Int32) (v2 : Int32)   (st : St) (res : (Int32 × St))  (hf : fX11_use_s8 n   v1 v2 st = some res) : At p l e (rmK 2) s m args below meth c D G ad (MQI D G ad below args s res) 4 st [(0, .ref (ad 130)), (1, .int v1), (2, .int v2)] 8 [] := by
  obtain ⟨hx, hb, hml, hown, hts, hr, hlk, hK, had, hSt⟩ := id C
  intro H locs ls hl hP hS
  unfold fX11_use_s8 at hf
  refine lv_iload_n hx hb dX11_use_8 rfl (lv_at hl 2 rfl) ?_
  refine lv_i2l hx hb dX11_use_9 rfl ?_
  refine lv_ldc2 hx hb hown (hts _ wm_12_4) dX11_use_10 ?_
  refine lv_aload_n hx hb dX11_use_13 rfl (lv_at hl 0 rfl) ?_
  refine g_getI hx hb hts inlX11 hown hK hP 130 ct_130 rfl 28 (by decide) (hts _ wm_12_5) rfl dX11_use_14 ?_
  refine lv_iconst (v := 1) hx hb dX11_use_17 (by decide) ?_
  refine lv_isub hx hb dX11_use_18 ?_
  refine lv_i2l hx hb dX11_use_19 rfl ?_
  obtain ⟨q, hq, hf⟩ := bd hf
  refine gcS_i (k := 0) (As := [.long v2.toInt64, .long (-1), .long (((st.1 130 28) - 1).toInt64)]) (rest := []) hx hb hml hown hts hK hSt hP hS hl.1 (goodS wm_10_21 wm_10_22 wm_1_5 wm_10_23) okX11_in (Nat.le_of_ble_eq_true rfl) (Nat.le_of_ble_eq_true rfl) rfl rfl (Nat.le_of_ble_eq_true rfl) dX11_use_20 (kX11_in l D G ad had n  v2.toInt64 (-1) (((st.1 130 28) - 1).toInt64) st q hq) (fun H locs hP hS => ?_)
  exact wX11_use_s23 C n v1 v2 q.1 q.2 res hf H locs ls (lv_sub hl [0, 1, 2] rfl) hP hS
def fX11_use_s5 (n : Nat)   (v1 : Int32) (v2 : Int32) (k0 : Int32) (st : St) : Option (Int32 × St) := if k0 = 0 then fX11_use_s26 n st else fX11_use_s8 n v1 v2 st
set_option maxHeartbeats 4000000 in
set_option maxRecDepth 100000 in
theorem wX11_use_s5 (C : Cx p s m args meth c cX11_use 4 wsL_law RX11 (some .int) D G ad) (n : Nat)   (v1 : Int32) (v2 : Int32) (k0 : Int32)   (st : St) (res : (Int32 × St))  (hf : fX11_use_s5 n   v1 v2 k0 st = some res) : At p l e (rmK 2) s m args below meth c D G ad (MQI D G ad below args s res) 4 st [(0, .ref (ad 130)), (1, .int v1), (2, .int v2)] 5 [.int k0] := by
  obtain ⟨hx, hb, hml, hown, hts, hr, hlk, hK, had, hSt⟩ := id C
  intro H locs ls hl hP hS
  unfold fX11_use_s5 at hf
  refine lv_if_eq (tgt := 26) hx hb dX11_use_5 (by decide) (fun q => ?_) (fun q => ?_)
  · exact wX11_use_s26 C n st res (it hf q) H locs ls (lv_sub hl [] rfl) hP hS
  · exact wX11_use_s8 C n v1 v2 st res (ie hf q) H locs ls (lv_sub hl [0, 1, 2] rfl) hP hS
def fX11_use_s0 (n : Nat)   (v1 : Int32) (v2 : Int32) (st : St) : Option (Int32 × St) := (fX11_isStage n v1 st).bind (fun q => fX11_use_s5 n v1 v2 q.1 q.2)
set_option maxHeartbeats 4000000 in
set_option maxRecDepth 100000 in
theorem wX11_use_s0 (C : Cx p s m args meth c cX11_use 4 wsL_law RX11 (some .int) D G ad) (n : Nat)   (v1 : Int32) (v2 : Int32)   (st : St) (res : (Int32 × St))  (hf : fX11_use_s0 n   v1 v2 st = some res) : At p l e (rmK 2) s m args below meth c D G ad (MQI D G ad below args s res) 4 st [(0, .ref (ad 130)), (1, .int v1), (2, .int v2)] 0 [] := by
  obtain ⟨hx, hb, hml, hown, hts, hr, hlk, hK, had, hSt⟩ := id C
  intro H locs ls hl hP hS
  unfold fX11_use_s0 at hf
  refine lv_aload_n hx hb dX11_use_0 rfl (lv_at hl 0 rfl) ?_
  refine lv_iload_n hx hb dX11_use_1 rfl (lv_at hl 1 rfl) ?_
  obtain ⟨q, hq, hf⟩ := bd hf
  refine gcV_i (k := 1) (o := 130) (As := [.int v1]) (rest := []) hx hb hml hown hts hK hSt hP hS hl.1 (goodV wm_10_17 wm_10_18 wm_10_19 wm_1_5 wm_10_20) okX11_isStage ct_130 rfl rfl (Nat.le_of_ble_eq_true rfl) (Nat.le_of_ble_eq_true rfl) rfl rfl (Nat.le_of_ble_eq_true rfl) dX11_use_2 (kX11_isStage l D G ad had n  v1 st q hq) (fun H locs hP hS => ?_)
  exact wX11_use_s5 C n v1 v2 q.1 q.2 res hf H locs ls (lv_sub hl [0, 1, 2] rfl) hP hS
def fX11_use (n : Nat)  (a1 : Int32) (a2 : Int32) (st : St) : Option (Int32 × St) := fX11_use_s0 n a1 a2 st
theorem okX11_use : okY yX11_use RX11 2 := by unfold okY; decide +kernel
end
set_option maxRecDepth 100000 in
theorem kX11_use (l : Launch) (D : va_G) (G : G3) (ad : Nat → Nat) (had : Adr ad) (n : Nat)   (a1 : Int32) (a2 : Int32) (st : St) (res : (Int32 × St)) (hf : fX11_use n  a1 a2 st = some res) {sz : Nat} : CtI l yX11_use (wsU yX11_use cX11_use 4 (some .int)) (rmK 2) D G ad sz [.ref (ad 130), .int a1, .int a2] st res := by
  refine Met.ofW (cc := cX11_use) (maxL := 4) (ret := (some .int)) (by decide) rfl ?_
  intro p e s m args below meth c s₁ B hml hv
  obtain ⟨rfl, hsz, hP, hK, hSt⟩ := hv
  have hts := atoms_spec (ws := wsU yX11_use cX11_use 4 (some .int)) B.pre
  have C : Cx p s m _ meth c cX11_use 4 wsL_law RX11 (some .int) D G ad := ⟨B.exec, B.bytes, hml, findClass_of_methodNamed B.named, fun w h => hts w (List.mem_cons_of_mem _ h), B.returns, B.notSynchronized, hK, had, hSt⟩
  subst hsz
  have hl := lv_entry ([.ref (ad 130), .int a1, .int a2]) (n := 4) (Nat.le_of_ble_eq_true rfl)
  rw [lg_entry_eq]
  generalize (lg_sl ([.ref (ad 130), .int a1, .int a2]) ++ List.replicate (4 - (lg_sl ([.ref (ad 130), .int a1, .int a2])).length) Slot.unset).toArray = ls at hl ⊢
  exact wX11_use_s0 C n  a1 a2   st res hf s.heap [] ls (lv_sub hl [0, 1, 2] rfl) hP va_S.rf
section
variable {p : Program} {l : Launch} {e : Env} {s : State} {m : MethodId} {args : Array Value} {below : List Frame} {meth : Method} {c : Code} {D : va_G} {G : G3} {ad : Nat → Nat}
def fX11_allot_s25 (n : Nat)   (v2 : Int32) (st : St) : Option (Int32 × St) := some (v2, st)
set_option maxHeartbeats 4000000 in
set_option maxRecDepth 100000 in
theorem wX11_allot_s25 (C : Cx p s m args meth c cX11_allot 3 wsL_law RX11 (some .int) D G ad) (n : Nat)   (v2 : Int32)   (st : St) (res : (Int32 × St))  (hf : fX11_allot_s25 n   v2 st = some res) : At p l e (rmK 1) s m args below meth c D G ad (MQI D G ad below args s res) 3 st [(2, .int v2)] 25 [] := by
  obtain ⟨hx, hb, hml, hown, hts, hr, hlk, hK, had, hSt⟩ := id C
  intro H locs ls hl hP hS
  unfold fX11_allot_s25 at hf
  refine lv_iload_n hx hb dX11_allot_25 rfl (lv_at hl 0 rfl) ?_
  exact g_iret hx hb hr hlk hP hS dX11_allot_26 hf
def fX11_allot_s15 (n : Nat)   (v1 : Int32) (st : St) : Option (Int32 × St) := fX11_allot_s25 n (st.1 130 10) (setI st 130 10 v1)
set_option maxHeartbeats 4000000 in
set_option maxRecDepth 100000 in
theorem wX11_allot_s15 (C : Cx p s m args meth c cX11_allot 3 wsL_law RX11 (some .int) D G ad) (n : Nat)   (v1 : Int32)   (st : St) (res : (Int32 × St))  (hf : fX11_allot_s15 n   v1 st = some res) : At p l e (rmK 1) s m args below meth c D G ad (MQI D G ad below args s res) 3 st [(0, .ref (ad 130)), (1, .int v1)] 15 [] := by
  obtain ⟨hx, hb, hml, hown, hts, hr, hlk, hK, had, hSt⟩ := id C
  intro H locs ls hl hP hS
  unfold fX11_allot_s15 at hf
  refine lv_aload_n hx hb dX11_allot_15 rfl (lv_at hl 0 rfl) ?_
  refine g_getI hx hb hts inlX11 hown hK hP 130 ct_130 rfl 10 (by decide) (hts _ wm_12_16) rfl dX11_allot_16 ?_
  refine lv_istore_n (lv' := [(2, .int (st.1 130 10)), (0, .ref (ad 130)), (1, .int v1)]) hx hb dX11_allot_19 rfl hl (by decide) rfl (fun ls hl => ?_)
  refine lv_aload_n hx hb dX11_allot_20 rfl (lv_at hl 1 rfl) ?_
  refine lv_iload_n hx hb dX11_allot_21 rfl (lv_at hl 2 rfl) ?_
  refine g_putI hx hb hts inlX11 tyX11_ok nmX11 hown hK had hP hS 130 ct_130 rfl 10 (by decide) (hts _ wm_12_16) rfl rfl rfl rfl rfl dX11_allot_22 (fun H locs hP hS => ?_)
  exact wX11_allot_s25 C n (st.1 130 10) (setI st 130 10 v1) res hf H locs ls (lv_sub hl [0] rfl) hP hS
def fX11_allot_s12 (n : Nat)    (st : St) : Option (Int32 × St) := some ((-2), st)
set_option maxHeartbeats 4000000 in
set_option maxRecDepth 100000 in
theorem wX11_allot_s12 (C : Cx p s m args meth c cX11_allot 3 wsL_law RX11 (some .int) D G ad) (n : Nat)      (st : St) (res : (Int32 × St))  (hf : fX11_allot_s12 n    st = some res) : At p l e (rmK 1) s m args below meth c D G ad (MQI D G ad below args s res) 3 st [] 12 [] := by
  obtain ⟨hx, hb, hml, hown, hts, hr, hlk, hK, had, hSt⟩ := id C
  intro H locs ls hl hP hS
  unfold fX11_allot_s12 at hf
  refine lv_bipush (v := (-2)) hx hb dX11_allot_12 (by decide) ?_
  exact g_iret hx hb hr hlk hP hS dX11_allot_14 hf
def fX11_allot_s9 (n : Nat)   (v1 : Int32) (k0 : Int32) (st : St) : Option (Int32 × St) := if k0 = 0 then fX11_allot_s12 n st else fX11_allot_s15 n v1 st
set_option maxHeartbeats 4000000 in
set_option maxRecDepth 100000 in
theorem wX11_allot_s9 (C : Cx p s m args meth c cX11_allot 3 wsL_law RX11 (some .int) D G ad) (n : Nat)   (v1 : Int32) (k0 : Int32)   (st : St) (res : (Int32 × St))  (hf : fX11_allot_s9 n   v1 k0 st = some res) : At p l e (rmK 1) s m args below meth c D G ad (MQI D G ad below args s res) 3 st [(0, .ref (ad 130)), (1, .int v1)] 9 [.int k0] := by
  obtain ⟨hx, hb, hml, hown, hts, hr, hlk, hK, had, hSt⟩ := id C
  intro H locs ls hl hP hS
  unfold fX11_allot_s9 at hf
  refine lv_if_ne (tgt := 15) hx hb dX11_allot_9 (by decide) (fun q => ?_) (fun q => ?_)
  · exact wX11_allot_s15 C n v1 st res (ie hf q) H locs ls (lv_sub hl [0, 1] rfl) hP hS
  · exact wX11_allot_s12 C n st res (it hf q) H locs ls (lv_sub hl [] rfl) hP hS
def fX11_allot_s0 (n : Nat)   (v1 : Int32) (st : St) : Option (Int32 × St) := (fX11_in n v1.toInt64 0 2 st).bind (fun q => fX11_allot_s9 n v1 q.1 q.2)
set_option maxHeartbeats 4000000 in
set_option maxRecDepth 100000 in
theorem wX11_allot_s0 (C : Cx p s m args meth c cX11_allot 3 wsL_law RX11 (some .int) D G ad) (n : Nat)   (v1 : Int32)   (st : St) (res : (Int32 × St))  (hf : fX11_allot_s0 n   v1 st = some res) : At p l e (rmK 1) s m args below meth c D G ad (MQI D G ad below args s res) 3 st [(0, .ref (ad 130)), (1, .int v1)] 0 [] := by
  obtain ⟨hx, hb, hml, hown, hts, hr, hlk, hK, had, hSt⟩ := id C
  intro H locs ls hl hP hS
  unfold fX11_allot_s0 at hf
  refine lv_iload_n hx hb dX11_allot_0 rfl (lv_at hl 1 rfl) ?_
  refine lv_i2l hx hb dX11_allot_1 rfl ?_
  refine lv_lconst (v := 0) hx hb dX11_allot_2 (by decide) ?_
  refine lv_ldc2 hx hb hown (hts _ wm_12_15) dX11_allot_3 ?_
  obtain ⟨q, hq, hf⟩ := bd hf
  refine gcS_i (k := 0) (As := [.long v1.toInt64, .long 0, .long 2]) (rest := []) hx hb hml hown hts hK hSt hP hS hl.1 (goodS wm_10_21 wm_10_22 wm_1_5 wm_10_23) okX11_in (Nat.le_of_ble_eq_true rfl) (Nat.le_of_ble_eq_true rfl) rfl rfl (Nat.le_of_ble_eq_true rfl) dX11_allot_6 (kX11_in l D G ad had n  v1.toInt64 0 2 st q hq) (fun H locs hP hS => ?_)
  exact wX11_allot_s9 C n v1 q.1 q.2 res hf H locs ls (lv_sub hl [0, 1] rfl) hP hS
def fX11_allot (n : Nat)  (a1 : Int32) (st : St) : Option (Int32 × St) := fX11_allot_s0 n a1 st
theorem okX11_allot : okY yX11_allot RX11 1 := by unfold okY; decide +kernel
end
set_option maxRecDepth 100000 in
theorem kX11_allot (l : Launch) (D : va_G) (G : G3) (ad : Nat → Nat) (had : Adr ad) (n : Nat)   (a1 : Int32) (st : St) (res : (Int32 × St)) (hf : fX11_allot n  a1 st = some res) {sz : Nat} : CtI l yX11_allot (wsU yX11_allot cX11_allot 3 (some .int)) (rmK 1) D G ad sz [.ref (ad 130), .int a1] st res := by
  refine Met.ofW (cc := cX11_allot) (maxL := 3) (ret := (some .int)) (by decide) rfl ?_
  intro p e s m args below meth c s₁ B hml hv
  obtain ⟨rfl, hsz, hP, hK, hSt⟩ := hv
  have hts := atoms_spec (ws := wsU yX11_allot cX11_allot 3 (some .int)) B.pre
  have C : Cx p s m _ meth c cX11_allot 3 wsL_law RX11 (some .int) D G ad := ⟨B.exec, B.bytes, hml, findClass_of_methodNamed B.named, fun w h => hts w (List.mem_cons_of_mem _ h), B.returns, B.notSynchronized, hK, had, hSt⟩
  subst hsz
  have hl := lv_entry ([.ref (ad 130), .int a1]) (n := 3) (Nat.le_of_ble_eq_true rfl)
  rw [lg_entry_eq]
  generalize (lg_sl ([.ref (ad 130), .int a1]) ++ List.replicate (3 - (lg_sl ([.ref (ad 130), .int a1])).length) Slot.unset).toArray = ls at hl ⊢
  exact wX11_allot_s0 C n  a1   st res hf s.heap [] ls (lv_sub hl [0, 1] rfl) hP va_S.rf
section
variable {p : Program} {l : Launch} {e : Env} {s : State} {m : MethodId} {args : Array Value} {below : List Frame} {meth : Method} {c : Code} {D : va_G} {G : G3} {ad : Nat → Nat}
def fX11_owes_s33 (n : Nat)   (v2 : Int64) (st : St) : Option (Int64 × St) := some (v2, st)
set_option maxHeartbeats 4000000 in
set_option maxRecDepth 100000 in
theorem wX11_owes_s33 (C : Cx p s m args meth c cX11_owes 5 wsL_law RX11 (some .long) D G ad) (n : Nat)   (v2 : Int64)   (st : St) (res : (Int64 × St))  (hf : fX11_owes_s33 n   v2 st = some res) : At p l e (rmK 0) s m args below meth c D G ad (MQJ D G ad below args s res) 5 st [(2, .long v2)] 33 [] := by
  obtain ⟨hx, hb, hml, hown, hts, hr, hlk, hK, had, hSt⟩ := id C
  intro H locs ls hl hP hS
  unfold fX11_owes_s33 at hf
  refine lv_lload_n hx hb dX11_owes_33 rfl (lv_at hl 0 rfl) ?_
  exact g_lret hx hb hr hlk hP hS dX11_owes_34 hf
def fX11_owes_s12 (n : Nat) (K5 : Int32 → Int64 → Int32 → St → Option (Int64 × St))  (v1 : Int32) (v2 : Int64) (v4 : Int32) (st : St) : Option (Int64 × St) := if inb ((8 * v1) + v4) 64 = true then (K5 v1 (v2 + (st.2 142 ((8 * v1) + v4).toNatClampNeg)) (v4 + 1) st) else none
set_option maxHeartbeats 4000000 in
set_option maxRecDepth 100000 in
theorem wX11_owes_s12 (C : Cx p s m args meth c cX11_owes 5 wsL_law RX11 (some .long) D G ad) (n : Nat) (K5 : Int32 → Int64 → Int32 → St → Option (Int64 × St))  (v1 : Int32) (v2 : Int64) (v4 : Int32)   (st : St) (res : (Int64 × St)) (hK5 : ∀ (v1 : Int32) (v2 : Int64) (v4 : Int32) (st : St), K5 v1 v2 v4 st = some res → At p l e (rmK 0) s m args below meth c D G ad (MQJ D G ad below args s res) 5 st [(0, .ref (ad 130)), (1, .int v1), (2, .long v2), (4, .int v4)] 5 []) (hf : fX11_owes_s12 n K5  v1 v2 v4 st = some res) : At p l e (rmK 0) s m args below meth c D G ad (MQJ D G ad below args s res) 5 st [(0, .ref (ad 130)), (1, .int v1), (2, .long v2), (4, .int v4)] 12 [] := by
  obtain ⟨hx, hb, hml, hown, hts, hr, hlk, hK, had, hSt⟩ := id C
  intro H locs ls hl hP hS
  unfold fX11_owes_s12 at hf
  refine lv_lload_n hx hb dX11_owes_12 rfl (lv_at hl 2 rfl) ?_
  refine lv_aload_n hx hb dX11_owes_13 rfl (lv_at hl 0 rfl) ?_
  refine g_getR hx hb hts inlX11 hown hK hP 130 ct_130 rfl 17 (by decide) (hts _ wm_7_13) rfl dX11_owes_14 ?_
  refine lv_bipush (v := 8) hx hb dX11_owes_17 (by decide) ?_
  refine lv_iload_n hx hb dX11_owes_19 rfl (lv_at hl 1 rfl) ?_
  refine lv_imul hx hb dX11_owes_20 ?_
  refine lv_iload hx hb dX11_owes_21 (lv_at hl 3 rfl) ?_
  refine lv_iadd hx hb dX11_owes_23 ?_
  obtain ⟨g1, hf⟩ := gd hf
  refine g_lald hx hb hK hP 142 ct_142 g1 dX11_owes_24 ?_
  refine lv_ladd hx hb dX11_owes_25 ?_
  refine lv_lstore_n (lv' := [(2, .long (v2 + (st.2 142 ((8 * v1) + v4).toNatClampNeg))), (0, .ref (ad 130)), (1, .int v1), (4, .int v4)]) hx hb dX11_owes_26 rfl hl (by decide) rfl (fun ls hl => ?_)
  refine lv_iinc (v := v4 + 1) (lv' := [(4, .int (v4 + 1)), (2, .long (v2 + (st.2 142 ((8 * v1) + v4).toNatClampNeg))), (0, .ref (ad 130)), (1, .int v1)]) hx hb dX11_owes_27 hl (k := 3) rfl rfl (by decide) rfl (fun ls hl => ?_)
  refine lv_goto (tgt := 5) hx hb dX11_owes_30 (by decide) ?_
  exact hK5 v1 (v2 + (st.2 142 ((8 * v1) + v4).toNatClampNeg)) (v4 + 1)  st hf H locs ls (lv_sub hl [2, 3, 1, 0] rfl) hP hS
def fX11_owes_s5 (n : Nat) (K5 : Int32 → Int64 → Int32 → St → Option (Int64 × St))  (v1 : Int32) (v2 : Int64) (v4 : Int32) (st : St) : Option (Int64 × St) := if 8 ≤ v4 then fX11_owes_s33 n v2 st else fX11_owes_s12 n K5 v1 v2 v4 st
set_option maxHeartbeats 4000000 in
set_option maxRecDepth 100000 in
theorem wX11_owes_s5 (C : Cx p s m args meth c cX11_owes 5 wsL_law RX11 (some .long) D G ad) (n : Nat) (K5 : Int32 → Int64 → Int32 → St → Option (Int64 × St))  (v1 : Int32) (v2 : Int64) (v4 : Int32)   (st : St) (res : (Int64 × St)) (hK5 : ∀ (v1 : Int32) (v2 : Int64) (v4 : Int32) (st : St), K5 v1 v2 v4 st = some res → At p l e (rmK 0) s m args below meth c D G ad (MQJ D G ad below args s res) 5 st [(0, .ref (ad 130)), (1, .int v1), (2, .long v2), (4, .int v4)] 5 []) (hf : fX11_owes_s5 n K5  v1 v2 v4 st = some res) : At p l e (rmK 0) s m args below meth c D G ad (MQJ D G ad below args s res) 5 st [(0, .ref (ad 130)), (1, .int v1), (2, .long v2), (4, .int v4)] 5 [] := by
  obtain ⟨hx, hb, hml, hown, hts, hr, hlk, hK, had, hSt⟩ := id C
  intro H locs ls hl hP hS
  unfold fX11_owes_s5 at hf
  refine lv_iload hx hb dX11_owes_5 (lv_at hl 3 rfl) ?_
  refine lv_bipush (v := 8) hx hb dX11_owes_7 (by decide) ?_
  refine lv_icmp_ge (tgt := 33) hx hb dX11_owes_9 (by decide) (fun q => ?_) (fun q => ?_)
  · exact wX11_owes_s33 C n v2 st res (it hf q) H locs ls (lv_sub hl [2] rfl) hP hS
  · exact wX11_owes_s12 C n K5 v1 v2 v4 st res hK5 (ie hf q) H locs ls (lv_sub hl [0, 1, 2, 3] rfl) hP hS
def fX11_owes_L5 (n : Nat)   : Nat → Int32 → Int64 → Int32 → St → Option (Int64 × St)
  | 0, _, _, _, _ => none
  | k + 1, v1, v2, v4, st => fX11_owes_s5 n (fX11_owes_L5 n k)  v1 v2 v4 st
theorem wX11_owes_L5 (C : Cx p s m args meth c cX11_owes 5 wsL_law RX11 (some .long) D G ad) (n : Nat)    (res : (Int64 × St))  : ∀ (k : Nat) (v1 : Int32) (v2 : Int64) (v4 : Int32)  (st : St), fX11_owes_L5 n k v1 v2 v4 st = some res → At p l e (rmK 0) s m args below meth c D G ad (MQJ D G ad below args s res) 5 st [(0, .ref (ad 130)), (1, .int v1), (2, .long v2), (4, .int v4)] 5 [] := by
  intro k
  induction k with
  | zero => intro v1 v2 v4  st h; exact absurd h (by intro q; cases q)
  | succ k ih => intro v1 v2 v4  st h; exact wX11_owes_s5 C n (fX11_owes_L5 n k)  v1 v2 v4   st res ih h
def fX11_owes_s0 (n : Nat)   (v1 : Int32) (st : St) : Option (Int64 × St) := fX11_owes_L5 n n v1 0 0 st
set_option maxHeartbeats 4000000 in
set_option maxRecDepth 100000 in
theorem wX11_owes_s0 (C : Cx p s m args meth c cX11_owes 5 wsL_law RX11 (some .long) D G ad) (n : Nat)   (v1 : Int32)   (st : St) (res : (Int64 × St))  (hf : fX11_owes_s0 n   v1 st = some res) : At p l e (rmK 0) s m args below meth c D G ad (MQJ D G ad below args s res) 5 st [(0, .ref (ad 130)), (1, .int v1)] 0 [] := by
  obtain ⟨hx, hb, hml, hown, hts, hr, hlk, hK, had, hSt⟩ := id C
  intro H locs ls hl hP hS
  unfold fX11_owes_s0 at hf
  refine lv_lconst (v := 0) hx hb dX11_owes_0 (by decide) ?_
  refine lv_lstore_n (lv' := [(2, .long 0), (0, .ref (ad 130)), (1, .int v1)]) hx hb dX11_owes_1 rfl hl (by decide) rfl (fun ls hl => ?_)
  refine lv_iconst (v := 0) hx hb dX11_owes_2 (by decide) ?_
  refine lv_istore (lv' := [(4, .int 0), (2, .long 0), (0, .ref (ad 130)), (1, .int v1)]) hx hb dX11_owes_3 hl (by decide) rfl (fun ls hl => ?_)
  exact wX11_owes_L5 C n res n v1 0 0 st hf H locs ls (lv_sub hl [2, 3, 1, 0] rfl) hP hS
def fX11_owes (n : Nat)  (a1 : Int32) (st : St) : Option (Int64 × St) := fX11_owes_s0 n a1 st
theorem okX11_owes : okY yX11_owes RX11 1 := by unfold okY; decide +kernel
end
set_option maxRecDepth 100000 in
theorem kX11_owes (l : Launch) (D : va_G) (G : G3) (ad : Nat → Nat) (had : Adr ad) (n : Nat)   (a1 : Int32) (st : St) (res : (Int64 × St)) (hf : fX11_owes n  a1 st = some res) {sz : Nat} : CtJ l yX11_owes (wsU yX11_owes cX11_owes 5 (some .long)) (rmK 0) D G ad sz [.ref (ad 130), .int a1] st res := by
  refine Met.ofW (cc := cX11_owes) (maxL := 5) (ret := (some .long)) (by decide) rfl ?_
  intro p e s m args below meth c s₁ B hml hv
  obtain ⟨rfl, hsz, hP, hK, hSt⟩ := hv
  have hts := atoms_spec (ws := wsU yX11_owes cX11_owes 5 (some .long)) B.pre
  have C : Cx p s m _ meth c cX11_owes 5 wsL_law RX11 (some .long) D G ad := ⟨B.exec, B.bytes, hml, findClass_of_methodNamed B.named, fun w h => hts w (List.mem_cons_of_mem _ h), B.returns, B.notSynchronized, hK, had, hSt⟩
  subst hsz
  have hl := lv_entry ([.ref (ad 130), .int a1]) (n := 5) (Nat.le_of_ble_eq_true rfl)
  rw [lg_entry_eq]
  generalize (lg_sl ([.ref (ad 130), .int a1]) ++ List.replicate (5 - (lg_sl ([.ref (ad 130), .int a1])).length) Slot.unset).toArray = ls at hl ⊢
  exact wX11_owes_s0 C n  a1   st res hf s.heap [] ls (lv_sub hl [0, 1] rfl) hP va_S.rf
section
variable {p : Program} {l : Launch} {e : Env} {s : State} {m : MethodId} {args : Array Value} {below : List Frame} {meth : Method} {c : Code} {D : va_G} {G : G3} {ad : Nat → Nat}
def fX11_onWay_s33 (n : Nat)   (v2 : Int64) (st : St) : Option (Int64 × St) := some (v2, st)
set_option maxHeartbeats 4000000 in
set_option maxRecDepth 100000 in
theorem wX11_onWay_s33 (C : Cx p s m args meth c cX11_onWay 5 wsL_law RX11 (some .long) D G ad) (n : Nat)   (v2 : Int64)   (st : St) (res : (Int64 × St))  (hf : fX11_onWay_s33 n   v2 st = some res) : At p l e (rmK 0) s m args below meth c D G ad (MQJ D G ad below args s res) 5 st [(2, .long v2)] 33 [] := by
  obtain ⟨hx, hb, hml, hown, hts, hr, hlk, hK, had, hSt⟩ := id C
  intro H locs ls hl hP hS
  unfold fX11_onWay_s33 at hf
  refine lv_lload_n hx hb dX11_onWay_33 rfl (lv_at hl 0 rfl) ?_
  exact g_lret hx hb hr hlk hP hS dX11_onWay_34 hf
def fX11_onWay_s12 (n : Nat) (K5 : Int32 → Int64 → Int32 → St → Option (Int64 × St))  (v1 : Int32) (v2 : Int64) (v4 : Int32) (st : St) : Option (Int64 × St) := if inb ((7 * v1) + v4) 56 = true then (K5 v1 (v2 + (st.2 143 ((7 * v1) + v4).toNatClampNeg)) (v4 + 1) st) else none
set_option maxHeartbeats 4000000 in
set_option maxRecDepth 100000 in
theorem wX11_onWay_s12 (C : Cx p s m args meth c cX11_onWay 5 wsL_law RX11 (some .long) D G ad) (n : Nat) (K5 : Int32 → Int64 → Int32 → St → Option (Int64 × St))  (v1 : Int32) (v2 : Int64) (v4 : Int32)   (st : St) (res : (Int64 × St)) (hK5 : ∀ (v1 : Int32) (v2 : Int64) (v4 : Int32) (st : St), K5 v1 v2 v4 st = some res → At p l e (rmK 0) s m args below meth c D G ad (MQJ D G ad below args s res) 5 st [(0, .ref (ad 130)), (1, .int v1), (2, .long v2), (4, .int v4)] 5 []) (hf : fX11_onWay_s12 n K5  v1 v2 v4 st = some res) : At p l e (rmK 0) s m args below meth c D G ad (MQJ D G ad below args s res) 5 st [(0, .ref (ad 130)), (1, .int v1), (2, .long v2), (4, .int v4)] 12 [] := by
  obtain ⟨hx, hb, hml, hown, hts, hr, hlk, hK, had, hSt⟩ := id C
  intro H locs ls hl hP hS
  unfold fX11_onWay_s12 at hf
  refine lv_lload_n hx hb dX11_onWay_12 rfl (lv_at hl 2 rfl) ?_
  refine lv_aload_n hx hb dX11_onWay_13 rfl (lv_at hl 0 rfl) ?_
  refine g_getR hx hb hts inlX11 hown hK hP 130 ct_130 rfl 18 (by decide) (hts _ wm_7_14) rfl dX11_onWay_14 ?_
  refine lv_bipush (v := 7) hx hb dX11_onWay_17 (by decide) ?_
  refine lv_iload_n hx hb dX11_onWay_19 rfl (lv_at hl 1 rfl) ?_
  refine lv_imul hx hb dX11_onWay_20 ?_
  refine lv_iload hx hb dX11_onWay_21 (lv_at hl 3 rfl) ?_
  refine lv_iadd hx hb dX11_onWay_23 ?_
  obtain ⟨g1, hf⟩ := gd hf
  refine g_lald hx hb hK hP 143 ct_143 g1 dX11_onWay_24 ?_
  refine lv_ladd hx hb dX11_onWay_25 ?_
  refine lv_lstore_n (lv' := [(2, .long (v2 + (st.2 143 ((7 * v1) + v4).toNatClampNeg))), (0, .ref (ad 130)), (1, .int v1), (4, .int v4)]) hx hb dX11_onWay_26 rfl hl (by decide) rfl (fun ls hl => ?_)
  refine lv_iinc (v := v4 + 1) (lv' := [(4, .int (v4 + 1)), (2, .long (v2 + (st.2 143 ((7 * v1) + v4).toNatClampNeg))), (0, .ref (ad 130)), (1, .int v1)]) hx hb dX11_onWay_27 hl (k := 3) rfl rfl (by decide) rfl (fun ls hl => ?_)
  refine lv_goto (tgt := 5) hx hb dX11_onWay_30 (by decide) ?_
  exact hK5 v1 (v2 + (st.2 143 ((7 * v1) + v4).toNatClampNeg)) (v4 + 1)  st hf H locs ls (lv_sub hl [2, 3, 1, 0] rfl) hP hS
def fX11_onWay_s5 (n : Nat) (K5 : Int32 → Int64 → Int32 → St → Option (Int64 × St))  (v1 : Int32) (v2 : Int64) (v4 : Int32) (st : St) : Option (Int64 × St) := if 6 < v4 then fX11_onWay_s33 n v2 st else fX11_onWay_s12 n K5 v1 v2 v4 st
set_option maxHeartbeats 4000000 in
set_option maxRecDepth 100000 in
theorem wX11_onWay_s5 (C : Cx p s m args meth c cX11_onWay 5 wsL_law RX11 (some .long) D G ad) (n : Nat) (K5 : Int32 → Int64 → Int32 → St → Option (Int64 × St))  (v1 : Int32) (v2 : Int64) (v4 : Int32)   (st : St) (res : (Int64 × St)) (hK5 : ∀ (v1 : Int32) (v2 : Int64) (v4 : Int32) (st : St), K5 v1 v2 v4 st = some res → At p l e (rmK 0) s m args below meth c D G ad (MQJ D G ad below args s res) 5 st [(0, .ref (ad 130)), (1, .int v1), (2, .long v2), (4, .int v4)] 5 []) (hf : fX11_onWay_s5 n K5  v1 v2 v4 st = some res) : At p l e (rmK 0) s m args below meth c D G ad (MQJ D G ad below args s res) 5 st [(0, .ref (ad 130)), (1, .int v1), (2, .long v2), (4, .int v4)] 5 [] := by
  obtain ⟨hx, hb, hml, hown, hts, hr, hlk, hK, had, hSt⟩ := id C
  intro H locs ls hl hP hS
  unfold fX11_onWay_s5 at hf
  refine lv_iload hx hb dX11_onWay_5 (lv_at hl 3 rfl) ?_
  refine lv_bipush (v := 6) hx hb dX11_onWay_7 (by decide) ?_
  refine lv_icmp_gt (tgt := 33) hx hb dX11_onWay_9 (by decide) (fun q => ?_) (fun q => ?_)
  · exact wX11_onWay_s33 C n v2 st res (it hf q) H locs ls (lv_sub hl [2] rfl) hP hS
  · exact wX11_onWay_s12 C n K5 v1 v2 v4 st res hK5 (ie hf q) H locs ls (lv_sub hl [0, 1, 2, 3] rfl) hP hS
def fX11_onWay_L5 (n : Nat)   : Nat → Int32 → Int64 → Int32 → St → Option (Int64 × St)
  | 0, _, _, _, _ => none
  | k + 1, v1, v2, v4, st => fX11_onWay_s5 n (fX11_onWay_L5 n k)  v1 v2 v4 st
theorem wX11_onWay_L5 (C : Cx p s m args meth c cX11_onWay 5 wsL_law RX11 (some .long) D G ad) (n : Nat)    (res : (Int64 × St))  : ∀ (k : Nat) (v1 : Int32) (v2 : Int64) (v4 : Int32)  (st : St), fX11_onWay_L5 n k v1 v2 v4 st = some res → At p l e (rmK 0) s m args below meth c D G ad (MQJ D G ad below args s res) 5 st [(0, .ref (ad 130)), (1, .int v1), (2, .long v2), (4, .int v4)] 5 [] := by
  intro k
  induction k with
  | zero => intro v1 v2 v4  st h; exact absurd h (by intro q; cases q)
  | succ k ih => intro v1 v2 v4  st h; exact wX11_onWay_s5 C n (fX11_onWay_L5 n k)  v1 v2 v4   st res ih h
def fX11_onWay_s0 (n : Nat)   (v1 : Int32) (st : St) : Option (Int64 × St) := fX11_onWay_L5 n n v1 0 1 st
set_option maxHeartbeats 4000000 in
set_option maxRecDepth 100000 in
theorem wX11_onWay_s0 (C : Cx p s m args meth c cX11_onWay 5 wsL_law RX11 (some .long) D G ad) (n : Nat)   (v1 : Int32)   (st : St) (res : (Int64 × St))  (hf : fX11_onWay_s0 n   v1 st = some res) : At p l e (rmK 0) s m args below meth c D G ad (MQJ D G ad below args s res) 5 st [(0, .ref (ad 130)), (1, .int v1)] 0 [] := by
  obtain ⟨hx, hb, hml, hown, hts, hr, hlk, hK, had, hSt⟩ := id C
  intro H locs ls hl hP hS
  unfold fX11_onWay_s0 at hf
  refine lv_lconst (v := 0) hx hb dX11_onWay_0 (by decide) ?_
  refine lv_lstore_n (lv' := [(2, .long 0), (0, .ref (ad 130)), (1, .int v1)]) hx hb dX11_onWay_1 rfl hl (by decide) rfl (fun ls hl => ?_)
  refine lv_iconst (v := 1) hx hb dX11_onWay_2 (by decide) ?_
  refine lv_istore (lv' := [(4, .int 1), (2, .long 0), (0, .ref (ad 130)), (1, .int v1)]) hx hb dX11_onWay_3 hl (by decide) rfl (fun ls hl => ?_)
  exact wX11_onWay_L5 C n res n v1 0 1 st hf H locs ls (lv_sub hl [2, 3, 1, 0] rfl) hP hS
def fX11_onWay (n : Nat)  (a1 : Int32) (st : St) : Option (Int64 × St) := fX11_onWay_s0 n a1 st
theorem okX11_onWay : okY yX11_onWay RX11 1 := by unfold okY; decide +kernel
end
set_option maxRecDepth 100000 in
theorem kX11_onWay (l : Launch) (D : va_G) (G : G3) (ad : Nat → Nat) (had : Adr ad) (n : Nat)   (a1 : Int32) (st : St) (res : (Int64 × St)) (hf : fX11_onWay n  a1 st = some res) {sz : Nat} : CtJ l yX11_onWay (wsU yX11_onWay cX11_onWay 5 (some .long)) (rmK 0) D G ad sz [.ref (ad 130), .int a1] st res := by
  refine Met.ofW (cc := cX11_onWay) (maxL := 5) (ret := (some .long)) (by decide) rfl ?_
  intro p e s m args below meth c s₁ B hml hv
  obtain ⟨rfl, hsz, hP, hK, hSt⟩ := hv
  have hts := atoms_spec (ws := wsU yX11_onWay cX11_onWay 5 (some .long)) B.pre
  have C : Cx p s m _ meth c cX11_onWay 5 wsL_law RX11 (some .long) D G ad := ⟨B.exec, B.bytes, hml, findClass_of_methodNamed B.named, fun w h => hts w (List.mem_cons_of_mem _ h), B.returns, B.notSynchronized, hK, had, hSt⟩
  subst hsz
  have hl := lv_entry ([.ref (ad 130), .int a1]) (n := 5) (Nat.le_of_ble_eq_true rfl)
  rw [lg_entry_eq]
  generalize (lg_sl ([.ref (ad 130), .int a1]) ++ List.replicate (5 - (lg_sl ([.ref (ad 130), .int a1])).length) Slot.unset).toArray = ls at hl ⊢
  exact wX11_onWay_s0 C n  a1   st res hf s.heap [] ls (lv_sub hl [0, 1] rfl) hP va_S.rf
section
variable {p : Program} {l : Launch} {e : Env} {s : State} {m : MethodId} {args : Array Value} {below : List Frame} {meth : Method} {c : Code} {D : va_G} {G : G3} {ad : Nat → Nat}
def fX11_position_s76 (n : Nat)   (v2 : Int64) (st : St) : Option (Int64 × St) := some (v2, st)
set_option maxHeartbeats 4000000 in
set_option maxRecDepth 100000 in
theorem wX11_position_s76 (C : Cx p s m args meth c cX11_position 5 wsL_law RX11 (some .long) D G ad) (n : Nat)   (v2 : Int64)   (st : St) (res : (Int64 × St))  (hf : fX11_position_s76 n   v2 st = some res) : At p l e (rmK 1) s m args below meth c D G ad (MQJ D G ad below args s res) 5 st [(2, .long v2)] 76 [] := by
  obtain ⟨hx, hb, hml, hown, hts, hr, hlk, hK, had, hSt⟩ := id C
  intro H locs ls hl hP hS
  unfold fX11_position_s76 at hf
  refine lv_lload_n hx hb dX11_position_76 rfl (lv_at hl 0 rfl) ?_
  exact g_lret hx hb hr hlk hP hS dX11_position_77 hf
def fX11_position_s56 (n : Nat) (K50 : Int32 → Int64 → Int32 → St → Option (Int64 × St))  (v1 : Int32) (v2 : Int64) (v4 : Int32) (st : St) : Option (Int64 × St) := if inb ((4 * v1) + v4) 32 = true then (K50 v1 (v2 + (st.2 144 ((4 * v1) + v4).toNatClampNeg)) (v4 + 1) st) else none
set_option maxHeartbeats 4000000 in
set_option maxRecDepth 100000 in
theorem wX11_position_s56 (C : Cx p s m args meth c cX11_position 5 wsL_law RX11 (some .long) D G ad) (n : Nat) (K50 : Int32 → Int64 → Int32 → St → Option (Int64 × St))  (v1 : Int32) (v2 : Int64) (v4 : Int32)   (st : St) (res : (Int64 × St)) (hK50 : ∀ (v1 : Int32) (v2 : Int64) (v4 : Int32) (st : St), K50 v1 v2 v4 st = some res → At p l e (rmK 1) s m args below meth c D G ad (MQJ D G ad below args s res) 5 st [(0, .ref (ad 130)), (1, .int v1), (2, .long v2), (4, .int v4)] 50 []) (hf : fX11_position_s56 n K50  v1 v2 v4 st = some res) : At p l e (rmK 1) s m args below meth c D G ad (MQJ D G ad below args s res) 5 st [(0, .ref (ad 130)), (1, .int v1), (2, .long v2), (4, .int v4)] 56 [] := by
  obtain ⟨hx, hb, hml, hown, hts, hr, hlk, hK, had, hSt⟩ := id C
  intro H locs ls hl hP hS
  unfold fX11_position_s56 at hf
  refine lv_lload_n hx hb dX11_position_56 rfl (lv_at hl 2 rfl) ?_
  refine lv_aload_n hx hb dX11_position_57 rfl (lv_at hl 0 rfl) ?_
  refine g_getR hx hb hts inlX11 hown hK hP 130 ct_130 rfl 19 (by decide) (hts _ wm_7_15) rfl dX11_position_58 ?_
  refine lv_iconst (v := 4) hx hb dX11_position_61 (by decide) ?_
  refine lv_iload_n hx hb dX11_position_62 rfl (lv_at hl 1 rfl) ?_
  refine lv_imul hx hb dX11_position_63 ?_
  refine lv_iload hx hb dX11_position_64 (lv_at hl 3 rfl) ?_
  refine lv_iadd hx hb dX11_position_66 ?_
  obtain ⟨g1, hf⟩ := gd hf
  refine g_lald hx hb hK hP 144 ct_144 g1 dX11_position_67 ?_
  refine lv_ladd hx hb dX11_position_68 ?_
  refine lv_lstore_n (lv' := [(2, .long (v2 + (st.2 144 ((4 * v1) + v4).toNatClampNeg))), (0, .ref (ad 130)), (1, .int v1), (4, .int v4)]) hx hb dX11_position_69 rfl hl (by decide) rfl (fun ls hl => ?_)
  refine lv_iinc (v := v4 + 1) (lv' := [(4, .int (v4 + 1)), (2, .long (v2 + (st.2 144 ((4 * v1) + v4).toNatClampNeg))), (0, .ref (ad 130)), (1, .int v1)]) hx hb dX11_position_70 hl (k := 3) rfl rfl (by decide) rfl (fun ls hl => ?_)
  refine lv_goto (tgt := 50) hx hb dX11_position_73 (by decide) ?_
  exact hK50 v1 (v2 + (st.2 144 ((4 * v1) + v4).toNatClampNeg)) (v4 + 1)  st hf H locs ls (lv_sub hl [2, 3, 1, 0] rfl) hP hS
def fX11_position_s50 (n : Nat) (K50 : Int32 → Int64 → Int32 → St → Option (Int64 × St))  (v1 : Int32) (v2 : Int64) (v4 : Int32) (st : St) : Option (Int64 × St) := if 4 ≤ v4 then fX11_position_s76 n v2 st else fX11_position_s56 n K50 v1 v2 v4 st
set_option maxHeartbeats 4000000 in
set_option maxRecDepth 100000 in
theorem wX11_position_s50 (C : Cx p s m args meth c cX11_position 5 wsL_law RX11 (some .long) D G ad) (n : Nat) (K50 : Int32 → Int64 → Int32 → St → Option (Int64 × St))  (v1 : Int32) (v2 : Int64) (v4 : Int32)   (st : St) (res : (Int64 × St)) (hK50 : ∀ (v1 : Int32) (v2 : Int64) (v4 : Int32) (st : St), K50 v1 v2 v4 st = some res → At p l e (rmK 1) s m args below meth c D G ad (MQJ D G ad below args s res) 5 st [(0, .ref (ad 130)), (1, .int v1), (2, .long v2), (4, .int v4)] 50 []) (hf : fX11_position_s50 n K50  v1 v2 v4 st = some res) : At p l e (rmK 1) s m args below meth c D G ad (MQJ D G ad below args s res) 5 st [(0, .ref (ad 130)), (1, .int v1), (2, .long v2), (4, .int v4)] 50 [] := by
  obtain ⟨hx, hb, hml, hown, hts, hr, hlk, hK, had, hSt⟩ := id C
  intro H locs ls hl hP hS
  unfold fX11_position_s50 at hf
  refine lv_iload hx hb dX11_position_50 (lv_at hl 3 rfl) ?_
  refine lv_iconst (v := 4) hx hb dX11_position_52 (by decide) ?_
  refine lv_icmp_ge (tgt := 76) hx hb dX11_position_53 (by decide) (fun q => ?_) (fun q => ?_)
  · exact wX11_position_s76 C n v2 st res (it hf q) H locs ls (lv_sub hl [2] rfl) hP hS
  · exact wX11_position_s56 C n K50 v1 v2 v4 st res hK50 (ie hf q) H locs ls (lv_sub hl [0, 1, 2, 3] rfl) hP hS
def fX11_position_L50 (n : Nat)   : Nat → Int32 → Int64 → Int32 → St → Option (Int64 × St)
  | 0, _, _, _, _ => none
  | k + 1, v1, v2, v4, st => fX11_position_s50 n (fX11_position_L50 n k)  v1 v2 v4 st
theorem wX11_position_L50 (C : Cx p s m args meth c cX11_position 5 wsL_law RX11 (some .long) D G ad) (n : Nat)    (res : (Int64 × St))  : ∀ (k : Nat) (v1 : Int32) (v2 : Int64) (v4 : Int32)  (st : St), fX11_position_L50 n k v1 v2 v4 st = some res → At p l e (rmK 1) s m args below meth c D G ad (MQJ D G ad below args s res) 5 st [(0, .ref (ad 130)), (1, .int v1), (2, .long v2), (4, .int v4)] 50 [] := by
  intro k
  induction k with
  | zero => intro v1 v2 v4  st h; exact absurd h (by intro q; cases q)
  | succ k ih => intro v1 v2 v4  st h; exact wX11_position_s50 C n (fX11_position_L50 n k)  v1 v2 v4   st res ih h
def fX11_position_s28 (n : Nat)   (v1 : Int32) (v2 : Int64) (st : St) : Option (Int64 × St) := if inb v1 8 = true then (if inb ((8 * (st.1 132 v1.toNatClampNeg)) + v1) 64 = true then (fX11_position_L50 n n v1 (v2 + (st.2 142 ((8 * (st.1 132 v1.toNatClampNeg)) + v1).toNatClampNeg)) 0 st) else none) else none
set_option maxHeartbeats 4000000 in
set_option maxRecDepth 100000 in
theorem wX11_position_s28 (C : Cx p s m args meth c cX11_position 5 wsL_law RX11 (some .long) D G ad) (n : Nat)   (v1 : Int32) (v2 : Int64)   (st : St) (res : (Int64 × St))  (hf : fX11_position_s28 n   v1 v2 st = some res) : At p l e (rmK 1) s m args below meth c D G ad (MQJ D G ad below args s res) 5 st [(0, .ref (ad 130)), (1, .int v1), (2, .long v2)] 28 [] := by
  obtain ⟨hx, hb, hml, hown, hts, hr, hlk, hK, had, hSt⟩ := id C
  intro H locs ls hl hP hS
  unfold fX11_position_s28 at hf
  refine lv_lload_n hx hb dX11_position_28 rfl (lv_at hl 2 rfl) ?_
  refine lv_aload_n hx hb dX11_position_29 rfl (lv_at hl 0 rfl) ?_
  refine g_getR hx hb hts inlX11 hown hK hP 130 ct_130 rfl 17 (by decide) (hts _ wm_7_13) rfl dX11_position_30 ?_
  refine lv_bipush (v := 8) hx hb dX11_position_33 (by decide) ?_
  refine lv_aload_n hx hb dX11_position_35 rfl (lv_at hl 0 rfl) ?_
  refine g_getR hx hb hts inlX11 hown hK hP 130 ct_130 rfl 2 (by decide) (hts _ wm_7_3) rfl dX11_position_36 ?_
  refine lv_iload_n hx hb dX11_position_39 rfl (lv_at hl 1 rfl) ?_
  obtain ⟨g1, hf⟩ := gd hf
  refine g_iald hx hb hK hP 132 ct_132 g1 dX11_position_40 ?_
  refine lv_imul hx hb dX11_position_41 ?_
  refine lv_iload_n hx hb dX11_position_42 rfl (lv_at hl 1 rfl) ?_
  refine lv_iadd hx hb dX11_position_43 ?_
  obtain ⟨g2, hf⟩ := gd hf
  refine g_lald hx hb hK hP 142 ct_142 g2 dX11_position_44 ?_
  refine lv_ladd hx hb dX11_position_45 ?_
  refine lv_lstore_n (lv' := [(2, .long (v2 + (st.2 142 ((8 * (st.1 132 v1.toNatClampNeg)) + v1).toNatClampNeg))), (0, .ref (ad 130)), (1, .int v1)]) hx hb dX11_position_46 rfl hl (by decide) rfl (fun ls hl => ?_)
  refine lv_iconst (v := 0) hx hb dX11_position_47 (by decide) ?_
  refine lv_istore (lv' := [(4, .int 0), (2, .long (v2 + (st.2 142 ((8 * (st.1 132 v1.toNatClampNeg)) + v1).toNatClampNeg))), (0, .ref (ad 130)), (1, .int v1)]) hx hb dX11_position_48 hl (by decide) rfl (fun ls hl => ?_)
  exact wX11_position_L50 C n res n v1 (v2 + (st.2 142 ((8 * (st.1 132 v1.toNatClampNeg)) + v1).toNatClampNeg)) 0 st hf H locs ls (lv_sub hl [2, 3, 1, 0] rfl) hP hS
def fX11_position_s17 (n : Nat)   (v1 : Int32) (k0 : Int64) (k1 : Int64) (st : St) : Option (Int64 × St) := if inb v1 8 = true then (if (st.1 131 v1.toNatClampNeg) = 0 then fX11_position_s76 n (k0 - k1) st else fX11_position_s28 n v1 (k0 - k1) st) else none
set_option maxHeartbeats 4000000 in
set_option maxRecDepth 100000 in
theorem wX11_position_s17 (C : Cx p s m args meth c cX11_position 5 wsL_law RX11 (some .long) D G ad) (n : Nat)   (v1 : Int32) (k0 : Int64) (k1 : Int64)   (st : St) (res : (Int64 × St))  (hf : fX11_position_s17 n   v1 k0 k1 st = some res) : At p l e (rmK 1) s m args below meth c D G ad (MQJ D G ad below args s res) 5 st [(0, .ref (ad 130)), (1, .int v1)] 17 [.long k1, .long k0] := by
  obtain ⟨hx, hb, hml, hown, hts, hr, hlk, hK, had, hSt⟩ := id C
  intro H locs ls hl hP hS
  unfold fX11_position_s17 at hf
  refine lv_lsub hx hb dX11_position_17 ?_
  refine lv_lstore_n (lv' := [(2, .long (k0 - k1)), (0, .ref (ad 130)), (1, .int v1)]) hx hb dX11_position_18 rfl hl (by decide) rfl (fun ls hl => ?_)
  refine lv_aload_n hx hb dX11_position_19 rfl (lv_at hl 1 rfl) ?_
  refine g_getR hx hb hts inlX11 hown hK hP 130 ct_130 rfl 1 (by decide) (hts _ wm_7_2) rfl dX11_position_20 ?_
  refine lv_iload_n hx hb dX11_position_23 rfl (lv_at hl 2 rfl) ?_
  obtain ⟨g1, hf⟩ := gd hf
  refine g_iald hx hb hK hP 131 ct_131 g1 dX11_position_24 ?_
  refine lv_if_eq (tgt := 76) hx hb dX11_position_25 (by decide) (fun q => ?_) (fun q => ?_)
  · exact wX11_position_s76 C n (k0 - k1) st res (it hf q) H locs ls (lv_sub hl [0] rfl) hP hS
  · exact wX11_position_s28 C n v1 (k0 - k1) st res (ie hf q) H locs ls (lv_sub hl [1, 2, 0] rfl) hP hS
def fX11_position_s11 (n : Nat)   (v1 : Int32) (k0 : Int64) (k1 : Int64) (st : St) : Option (Int64 × St) := (fX11_owes n v1 st).bind (fun q => fX11_position_s17 n v1 (k0 + k1) q.1 q.2)
set_option maxHeartbeats 4000000 in
set_option maxRecDepth 100000 in
theorem wX11_position_s11 (C : Cx p s m args meth c cX11_position 5 wsL_law RX11 (some .long) D G ad) (n : Nat)   (v1 : Int32) (k0 : Int64) (k1 : Int64)   (st : St) (res : (Int64 × St))  (hf : fX11_position_s11 n   v1 k0 k1 st = some res) : At p l e (rmK 1) s m args below meth c D G ad (MQJ D G ad below args s res) 5 st [(0, .ref (ad 130)), (1, .int v1)] 11 [.long k1, .long k0] := by
  obtain ⟨hx, hb, hml, hown, hts, hr, hlk, hK, had, hSt⟩ := id C
  intro H locs ls hl hP hS
  unfold fX11_position_s11 at hf
  refine lv_ladd hx hb dX11_position_11 ?_
  refine lv_aload_n hx hb dX11_position_12 rfl (lv_at hl 0 rfl) ?_
  refine lv_iload_n hx hb dX11_position_13 rfl (lv_at hl 1 rfl) ?_
  obtain ⟨q, hq, hf⟩ := bd hf
  refine gcV_j (k := 0) (o := 130) (As := [.int v1]) (rest := [.long (k0 + k1)]) hx hb hml hown hts hK hSt hP hS hl.1 (goodV wm_13_18 wm_13_19 wm_13_20 wm_1_5 wm_13_21) okX11_owes ct_130 rfl rfl (Nat.le_of_ble_eq_true rfl) (Nat.le_of_ble_eq_true rfl) rfl rfl (Nat.le_of_ble_eq_true rfl) dX11_position_14 (kX11_owes l D G ad had n  v1 st q hq) (fun H locs hP hS => ?_)
  exact wX11_position_s17 C n v1 (k0 + k1) q.1 q.2 res hf H locs ls (lv_sub hl [0, 1] rfl) hP hS
def fX11_position_s0 (n : Nat)   (v1 : Int32) (st : St) : Option (Int64 × St) := if inb v1 8 = true then ((fX11_onWay n v1 st).bind (fun q => fX11_position_s11 n v1 (st.2 141 v1.toNatClampNeg) q.1 q.2)) else none
set_option maxHeartbeats 4000000 in
set_option maxRecDepth 100000 in
theorem wX11_position_s0 (C : Cx p s m args meth c cX11_position 5 wsL_law RX11 (some .long) D G ad) (n : Nat)   (v1 : Int32)   (st : St) (res : (Int64 × St))  (hf : fX11_position_s0 n   v1 st = some res) : At p l e (rmK 1) s m args below meth c D G ad (MQJ D G ad below args s res) 5 st [(0, .ref (ad 130)), (1, .int v1)] 0 [] := by
  obtain ⟨hx, hb, hml, hown, hts, hr, hlk, hK, had, hSt⟩ := id C
  intro H locs ls hl hP hS
  unfold fX11_position_s0 at hf
  refine lv_aload_n hx hb dX11_position_0 rfl (lv_at hl 0 rfl) ?_
  refine g_getR hx hb hts inlX11 hown hK hP 130 ct_130 rfl 16 (by decide) (hts _ wm_7_12) rfl dX11_position_1 ?_
  refine lv_iload_n hx hb dX11_position_4 rfl (lv_at hl 1 rfl) ?_
  obtain ⟨g1, hf⟩ := gd hf
  refine g_lald hx hb hK hP 141 ct_141 g1 dX11_position_5 ?_
  refine lv_aload_n hx hb dX11_position_6 rfl (lv_at hl 0 rfl) ?_
  refine lv_iload_n hx hb dX11_position_7 rfl (lv_at hl 1 rfl) ?_
  obtain ⟨q, hq, hf⟩ := bd hf
  refine gcV_j (k := 0) (o := 130) (As := [.int v1]) (rest := [.long (st.2 141 v1.toNatClampNeg)]) hx hb hml hown hts hK hSt hP hS hl.1 (goodV wm_13_22 wm_13_23 wm_14_0 wm_1_5 wm_14_1) okX11_onWay ct_130 rfl rfl (Nat.le_of_ble_eq_true rfl) (Nat.le_of_ble_eq_true rfl) rfl rfl (Nat.le_of_ble_eq_true rfl) dX11_position_8 (kX11_onWay l D G ad had n  v1 st q hq) (fun H locs hP hS => ?_)
  exact wX11_position_s11 C n v1 (st.2 141 v1.toNatClampNeg) q.1 q.2 res hf H locs ls (lv_sub hl [0, 1] rfl) hP hS
def fX11_position (n : Nat)  (a1 : Int32) (st : St) : Option (Int64 × St) := fX11_position_s0 n a1 st
theorem okX11_position : okY yX11_position RX11 1 := by unfold okY; decide +kernel
end
set_option maxRecDepth 100000 in
theorem kX11_position (l : Launch) (D : va_G) (G : G3) (ad : Nat → Nat) (had : Adr ad) (n : Nat)   (a1 : Int32) (st : St) (res : (Int64 × St)) (hf : fX11_position n  a1 st = some res) {sz : Nat} : CtJ l yX11_position (wsU yX11_position cX11_position 5 (some .long)) (rmK 1) D G ad sz [.ref (ad 130), .int a1] st res := by
  refine Met.ofW (cc := cX11_position) (maxL := 5) (ret := (some .long)) (by decide) rfl ?_
  intro p e s m args below meth c s₁ B hml hv
  obtain ⟨rfl, hsz, hP, hK, hSt⟩ := hv
  have hts := atoms_spec (ws := wsU yX11_position cX11_position 5 (some .long)) B.pre
  have C : Cx p s m _ meth c cX11_position 5 wsL_law RX11 (some .long) D G ad := ⟨B.exec, B.bytes, hml, findClass_of_methodNamed B.named, fun w h => hts w (List.mem_cons_of_mem _ h), B.returns, B.notSynchronized, hK, had, hSt⟩
  subst hsz
  have hl := lv_entry ([.ref (ad 130), .int a1]) (n := 5) (Nat.le_of_ble_eq_true rfl)
  rw [lg_entry_eq]
  generalize (lg_sl ([.ref (ad 130), .int a1]) ++ List.replicate (5 - (lg_sl ([.ref (ad 130), .int a1])).length) Slot.unset).toArray = ls at hl ⊢
  exact wX11_position_s0 C n  a1   st res hf s.heap [] ls (lv_sub hl [0, 1] rfl) hP va_S.rf
section
variable {p : Program} {l : Launch} {e : Env} {s : State} {m : MethodId} {args : Array Value} {below : List Frame} {meth : Method} {c : Code} {D : va_G} {G : G3} {ad : Nat → Nat}
def fX11_about_s20 (n : Nat)    (st : St) : Option (Int32 × St) := some ((-1), st)
set_option maxHeartbeats 4000000 in
set_option maxRecDepth 100000 in
theorem wX11_about_s20 (C : Cx p s m args meth c cX11_about 3 wsL_law RX11 (some .int) D G ad) (n : Nat)      (st : St) (res : (Int32 × St))  (hf : fX11_about_s20 n    st = some res) : At p l e (rmK 2) s m args below meth c D G ad (MQI D G ad below args s res) 3 st [] 20 [] := by
  obtain ⟨hx, hb, hml, hown, hts, hr, hlk, hK, had, hSt⟩ := id C
  intro H locs ls hl hP hS
  unfold fX11_about_s20 at hf
  refine lv_iconst (v := (-1)) hx hb dX11_about_20 (by decide) ?_
  exact g_iret hx hb hr hlk hP hS dX11_about_21 hf
def fX11_about_s84 (n : Nat)   (v1 : Int32) (st : St) : Option (Int32 × St) := if inb v1 8 = true then (some (st.1 131 v1.toNatClampNeg, st)) else none
set_option maxHeartbeats 4000000 in
set_option maxRecDepth 100000 in
theorem wX11_about_s84 (C : Cx p s m args meth c cX11_about 3 wsL_law RX11 (some .int) D G ad) (n : Nat)   (v1 : Int32)   (st : St) (res : (Int32 × St))  (hf : fX11_about_s84 n   v1 st = some res) : At p l e (rmK 2) s m args below meth c D G ad (MQI D G ad below args s res) 3 st [(0, .ref (ad 130)), (1, .int v1)] 84 [] := by
  obtain ⟨hx, hb, hml, hown, hts, hr, hlk, hK, had, hSt⟩ := id C
  intro H locs ls hl hP hS
  unfold fX11_about_s84 at hf
  refine lv_aload_n hx hb dX11_about_84 rfl (lv_at hl 0 rfl) ?_
  refine g_getR hx hb hts inlX11 hown hK hP 130 ct_130 rfl 1 (by decide) (hts _ wm_7_2) rfl dX11_about_85 ?_
  refine lv_iload_n hx hb dX11_about_88 rfl (lv_at hl 1 rfl) ?_
  obtain ⟨g1, hf⟩ := gd hf
  refine g_iald hx hb hK hP 131 ct_131 g1 dX11_about_89 ?_
  exact g_iret hx hb hr hlk hP hS dX11_about_90 hf
def fX11_about_s91 (n : Nat)   (v1 : Int32) (st : St) : Option (Int32 × St) := if inb v1 8 = true then (some (st.1 132 v1.toNatClampNeg, st)) else none
set_option maxHeartbeats 4000000 in
set_option maxRecDepth 100000 in
theorem wX11_about_s91 (C : Cx p s m args meth c cX11_about 3 wsL_law RX11 (some .int) D G ad) (n : Nat)   (v1 : Int32)   (st : St) (res : (Int32 × St))  (hf : fX11_about_s91 n   v1 st = some res) : At p l e (rmK 2) s m args below meth c D G ad (MQI D G ad below args s res) 3 st [(0, .ref (ad 130)), (1, .int v1)] 91 [] := by
  obtain ⟨hx, hb, hml, hown, hts, hr, hlk, hK, had, hSt⟩ := id C
  intro H locs ls hl hP hS
  unfold fX11_about_s91 at hf
  refine lv_aload_n hx hb dX11_about_91 rfl (lv_at hl 0 rfl) ?_
  refine g_getR hx hb hts inlX11 hown hK hP 130 ct_130 rfl 2 (by decide) (hts _ wm_7_3) rfl dX11_about_92 ?_
  refine lv_iload_n hx hb dX11_about_95 rfl (lv_at hl 1 rfl) ?_
  obtain ⟨g1, hf⟩ := gd hf
  refine g_iald hx hb hK hP 132 ct_132 g1 dX11_about_96 ?_
  exact g_iret hx hb hr hlk hP hS dX11_about_97 hf
def fX11_about_s98 (n : Nat)   (v1 : Int32) (st : St) : Option (Int32 × St) := if inb v1 8 = true then (some (st.1 133 v1.toNatClampNeg, st)) else none
set_option maxHeartbeats 4000000 in
set_option maxRecDepth 100000 in
theorem wX11_about_s98 (C : Cx p s m args meth c cX11_about 3 wsL_law RX11 (some .int) D G ad) (n : Nat)   (v1 : Int32)   (st : St) (res : (Int32 × St))  (hf : fX11_about_s98 n   v1 st = some res) : At p l e (rmK 2) s m args below meth c D G ad (MQI D G ad below args s res) 3 st [(0, .ref (ad 130)), (1, .int v1)] 98 [] := by
  obtain ⟨hx, hb, hml, hown, hts, hr, hlk, hK, had, hSt⟩ := id C
  intro H locs ls hl hP hS
  unfold fX11_about_s98 at hf
  refine lv_aload_n hx hb dX11_about_98 rfl (lv_at hl 0 rfl) ?_
  refine g_getR hx hb hts inlX11 hown hK hP 130 ct_130 rfl 3 (by decide) (hts _ wm_7_4) rfl dX11_about_99 ?_
  refine lv_iload_n hx hb dX11_about_102 rfl (lv_at hl 1 rfl) ?_
  obtain ⟨g1, hf⟩ := gd hf
  refine g_iald hx hb hK hP 133 ct_133 g1 dX11_about_103 ?_
  exact g_iret hx hb hr hlk hP hS dX11_about_104 hf
def fX11_about_s105 (n : Nat)   (v1 : Int32) (st : St) : Option (Int32 × St) := if inb v1 8 = true then (some (st.1 134 v1.toNatClampNeg, st)) else none
set_option maxHeartbeats 4000000 in
set_option maxRecDepth 100000 in
theorem wX11_about_s105 (C : Cx p s m args meth c cX11_about 3 wsL_law RX11 (some .int) D G ad) (n : Nat)   (v1 : Int32)   (st : St) (res : (Int32 × St))  (hf : fX11_about_s105 n   v1 st = some res) : At p l e (rmK 2) s m args below meth c D G ad (MQI D G ad below args s res) 3 st [(0, .ref (ad 130)), (1, .int v1)] 105 [] := by
  obtain ⟨hx, hb, hml, hown, hts, hr, hlk, hK, had, hSt⟩ := id C
  intro H locs ls hl hP hS
  unfold fX11_about_s105 at hf
  refine lv_aload_n hx hb dX11_about_105 rfl (lv_at hl 0 rfl) ?_
  refine g_getR hx hb hts inlX11 hown hK hP 130 ct_130 rfl 4 (by decide) (hts _ wm_7_5) rfl dX11_about_106 ?_
  refine lv_iload_n hx hb dX11_about_109 rfl (lv_at hl 1 rfl) ?_
  obtain ⟨g1, hf⟩ := gd hf
  refine g_iald hx hb hK hP 134 ct_134 g1 dX11_about_110 ?_
  exact g_iret hx hb hr hlk hP hS dX11_about_111 hf
def fX11_about_s112 (n : Nat)   (v1 : Int32) (st : St) : Option (Int32 × St) := if inb v1 8 = true then (some (st.1 135 v1.toNatClampNeg, st)) else none
set_option maxHeartbeats 4000000 in
set_option maxRecDepth 100000 in
theorem wX11_about_s112 (C : Cx p s m args meth c cX11_about 3 wsL_law RX11 (some .int) D G ad) (n : Nat)   (v1 : Int32)   (st : St) (res : (Int32 × St))  (hf : fX11_about_s112 n   v1 st = some res) : At p l e (rmK 2) s m args below meth c D G ad (MQI D G ad below args s res) 3 st [(0, .ref (ad 130)), (1, .int v1)] 112 [] := by
  obtain ⟨hx, hb, hml, hown, hts, hr, hlk, hK, had, hSt⟩ := id C
  intro H locs ls hl hP hS
  unfold fX11_about_s112 at hf
  refine lv_aload_n hx hb dX11_about_112 rfl (lv_at hl 0 rfl) ?_
  refine g_getR hx hb hts inlX11 hown hK hP 130 ct_130 rfl 5 (by decide) (hts _ wm_7_6) rfl dX11_about_113 ?_
  refine lv_iload_n hx hb dX11_about_116 rfl (lv_at hl 1 rfl) ?_
  obtain ⟨g1, hf⟩ := gd hf
  refine g_iald hx hb hK hP 135 ct_135 g1 dX11_about_117 ?_
  exact g_iret hx hb hr hlk hP hS dX11_about_118 hf
def fX11_about_s119 (n : Nat)   (v1 : Int32) (st : St) : Option (Int32 × St) := if inb v1 8 = true then (some (st.1 136 v1.toNatClampNeg, st)) else none
set_option maxHeartbeats 4000000 in
set_option maxRecDepth 100000 in
theorem wX11_about_s119 (C : Cx p s m args meth c cX11_about 3 wsL_law RX11 (some .int) D G ad) (n : Nat)   (v1 : Int32)   (st : St) (res : (Int32 × St))  (hf : fX11_about_s119 n   v1 st = some res) : At p l e (rmK 2) s m args below meth c D G ad (MQI D G ad below args s res) 3 st [(0, .ref (ad 130)), (1, .int v1)] 119 [] := by
  obtain ⟨hx, hb, hml, hown, hts, hr, hlk, hK, had, hSt⟩ := id C
  intro H locs ls hl hP hS
  unfold fX11_about_s119 at hf
  refine lv_aload_n hx hb dX11_about_119 rfl (lv_at hl 0 rfl) ?_
  refine g_getR hx hb hts inlX11 hown hK hP 130 ct_130 rfl 6 (by decide) (hts _ wm_7_7) rfl dX11_about_120 ?_
  refine lv_iload_n hx hb dX11_about_123 rfl (lv_at hl 1 rfl) ?_
  obtain ⟨g1, hf⟩ := gd hf
  refine g_iald hx hb hK hP 136 ct_136 g1 dX11_about_124 ?_
  exact g_iret hx hb hr hlk hP hS dX11_about_125 hf
def fX11_about_s126 (n : Nat)   (v1 : Int32) (st : St) : Option (Int32 × St) := if inb v1 8 = true then (some ((st.2 141 v1.toNatClampNeg).toInt32, st)) else none
set_option maxHeartbeats 4000000 in
set_option maxRecDepth 100000 in
theorem wX11_about_s126 (C : Cx p s m args meth c cX11_about 3 wsL_law RX11 (some .int) D G ad) (n : Nat)   (v1 : Int32)   (st : St) (res : (Int32 × St))  (hf : fX11_about_s126 n   v1 st = some res) : At p l e (rmK 2) s m args below meth c D G ad (MQI D G ad below args s res) 3 st [(0, .ref (ad 130)), (1, .int v1)] 126 [] := by
  obtain ⟨hx, hb, hml, hown, hts, hr, hlk, hK, had, hSt⟩ := id C
  intro H locs ls hl hP hS
  unfold fX11_about_s126 at hf
  refine lv_aload_n hx hb dX11_about_126 rfl (lv_at hl 0 rfl) ?_
  refine g_getR hx hb hts inlX11 hown hK hP 130 ct_130 rfl 16 (by decide) (hts _ wm_7_12) rfl dX11_about_127 ?_
  refine lv_iload_n hx hb dX11_about_130 rfl (lv_at hl 1 rfl) ?_
  obtain ⟨g1, hf⟩ := gd hf
  refine g_lald hx hb hK hP 141 ct_141 g1 dX11_about_131 ?_
  refine lv_l2i hx hb dX11_about_132 rfl ?_
  exact g_iret hx hb hr hlk hP hS dX11_about_133 hf
def fX11_about_s139 (n : Nat)   (k0 : Int64) (st : St) : Option (Int32 × St) := some (k0.toInt32, st)
set_option maxHeartbeats 4000000 in
set_option maxRecDepth 100000 in
theorem wX11_about_s139 (C : Cx p s m args meth c cX11_about 3 wsL_law RX11 (some .int) D G ad) (n : Nat)   (k0 : Int64)   (st : St) (res : (Int32 × St))  (hf : fX11_about_s139 n   k0 st = some res) : At p l e (rmK 2) s m args below meth c D G ad (MQI D G ad below args s res) 3 st [] 139 [.long k0] := by
  obtain ⟨hx, hb, hml, hown, hts, hr, hlk, hK, had, hSt⟩ := id C
  intro H locs ls hl hP hS
  unfold fX11_about_s139 at hf
  refine lv_l2i hx hb dX11_about_139 rfl ?_
  exact g_iret hx hb hr hlk hP hS dX11_about_140 hf
def fX11_about_s134 (n : Nat)   (v1 : Int32) (st : St) : Option (Int32 × St) := (fX11_owes n v1 st).bind (fun q => fX11_about_s139 n q.1 q.2)
set_option maxHeartbeats 4000000 in
set_option maxRecDepth 100000 in
theorem wX11_about_s134 (C : Cx p s m args meth c cX11_about 3 wsL_law RX11 (some .int) D G ad) (n : Nat)   (v1 : Int32)   (st : St) (res : (Int32 × St))  (hf : fX11_about_s134 n   v1 st = some res) : At p l e (rmK 2) s m args below meth c D G ad (MQI D G ad below args s res) 3 st [(0, .ref (ad 130)), (1, .int v1)] 134 [] := by
  obtain ⟨hx, hb, hml, hown, hts, hr, hlk, hK, had, hSt⟩ := id C
  intro H locs ls hl hP hS
  unfold fX11_about_s134 at hf
  refine lv_aload_n hx hb dX11_about_134 rfl (lv_at hl 0 rfl) ?_
  refine lv_iload_n hx hb dX11_about_135 rfl (lv_at hl 1 rfl) ?_
  obtain ⟨q, hq, hf⟩ := bd hf
  refine gcV_j (k := 0) (o := 130) (As := [.int v1]) (rest := []) hx hb hml hown hts hK hSt hP hS hl.1 (goodV wm_13_18 wm_13_19 wm_13_20 wm_1_5 wm_13_21) okX11_owes ct_130 rfl rfl (Nat.le_of_ble_eq_true rfl) (Nat.le_of_ble_eq_true rfl) rfl rfl (Nat.le_of_ble_eq_true rfl) dX11_about_136 (kX11_owes l D G ad had n  v1 st q hq) (fun H locs hP hS => ?_)
  exact wX11_about_s139 C n q.1 q.2 res hf H locs ls (lv_sub hl [] rfl) hP hS
def fX11_about_s146 (n : Nat)   (k0 : Int64) (st : St) : Option (Int32 × St) := some (k0.toInt32, st)
set_option maxHeartbeats 4000000 in
set_option maxRecDepth 100000 in
theorem wX11_about_s146 (C : Cx p s m args meth c cX11_about 3 wsL_law RX11 (some .int) D G ad) (n : Nat)   (k0 : Int64)   (st : St) (res : (Int32 × St))  (hf : fX11_about_s146 n   k0 st = some res) : At p l e (rmK 2) s m args below meth c D G ad (MQI D G ad below args s res) 3 st [] 146 [.long k0] := by
  obtain ⟨hx, hb, hml, hown, hts, hr, hlk, hK, had, hSt⟩ := id C
  intro H locs ls hl hP hS
  unfold fX11_about_s146 at hf
  refine lv_l2i hx hb dX11_about_146 rfl ?_
  exact g_iret hx hb hr hlk hP hS dX11_about_147 hf
def fX11_about_s141 (n : Nat)   (v1 : Int32) (st : St) : Option (Int32 × St) := (fX11_onWay n v1 st).bind (fun q => fX11_about_s146 n q.1 q.2)
set_option maxHeartbeats 4000000 in
set_option maxRecDepth 100000 in
theorem wX11_about_s141 (C : Cx p s m args meth c cX11_about 3 wsL_law RX11 (some .int) D G ad) (n : Nat)   (v1 : Int32)   (st : St) (res : (Int32 × St))  (hf : fX11_about_s141 n   v1 st = some res) : At p l e (rmK 2) s m args below meth c D G ad (MQI D G ad below args s res) 3 st [(0, .ref (ad 130)), (1, .int v1)] 141 [] := by
  obtain ⟨hx, hb, hml, hown, hts, hr, hlk, hK, had, hSt⟩ := id C
  intro H locs ls hl hP hS
  unfold fX11_about_s141 at hf
  refine lv_aload_n hx hb dX11_about_141 rfl (lv_at hl 0 rfl) ?_
  refine lv_iload_n hx hb dX11_about_142 rfl (lv_at hl 1 rfl) ?_
  obtain ⟨q, hq, hf⟩ := bd hf
  refine gcV_j (k := 0) (o := 130) (As := [.int v1]) (rest := []) hx hb hml hown hts hK hSt hP hS hl.1 (goodV wm_13_22 wm_13_23 wm_14_0 wm_1_5 wm_14_1) okX11_onWay ct_130 rfl rfl (Nat.le_of_ble_eq_true rfl) (Nat.le_of_ble_eq_true rfl) rfl rfl (Nat.le_of_ble_eq_true rfl) dX11_about_143 (kX11_onWay l D G ad had n  v1 st q hq) (fun H locs hP hS => ?_)
  exact wX11_about_s146 C n q.1 q.2 res hf H locs ls (lv_sub hl [] rfl) hP hS
def fX11_about_s148 (n : Nat)   (v1 : Int32) (st : St) : Option (Int32 × St) := if inb v1 8 = true then (some ((st.2 147 v1.toNatClampNeg).toInt32, st)) else none
set_option maxHeartbeats 4000000 in
set_option maxRecDepth 100000 in
theorem wX11_about_s148 (C : Cx p s m args meth c cX11_about 3 wsL_law RX11 (some .int) D G ad) (n : Nat)   (v1 : Int32)   (st : St) (res : (Int32 × St))  (hf : fX11_about_s148 n   v1 st = some res) : At p l e (rmK 2) s m args below meth c D G ad (MQI D G ad below args s res) 3 st [(0, .ref (ad 130)), (1, .int v1)] 148 [] := by
  obtain ⟨hx, hb, hml, hown, hts, hr, hlk, hK, had, hSt⟩ := id C
  intro H locs ls hl hP hS
  unfold fX11_about_s148 at hf
  refine lv_aload_n hx hb dX11_about_148 rfl (lv_at hl 0 rfl) ?_
  refine g_getR hx hb hts inlX11 hown hK hP 130 ct_130 rfl 22 (by decide) (hts _ wm_7_18) rfl dX11_about_149 ?_
  refine lv_iload_n hx hb dX11_about_152 rfl (lv_at hl 1 rfl) ?_
  obtain ⟨g1, hf⟩ := gd hf
  refine g_lald hx hb hK hP 147 ct_147 g1 dX11_about_153 ?_
  refine lv_l2i hx hb dX11_about_154 rfl ?_
  exact g_iret hx hb hr hlk hP hS dX11_about_155 hf
def fX11_about_s156 (n : Nat)   (v1 : Int32) (st : St) : Option (Int32 × St) := if inb v1 8 = true then (some ((st.2 148 v1.toNatClampNeg).toInt32, st)) else none
set_option maxHeartbeats 4000000 in
set_option maxRecDepth 100000 in
theorem wX11_about_s156 (C : Cx p s m args meth c cX11_about 3 wsL_law RX11 (some .int) D G ad) (n : Nat)   (v1 : Int32)   (st : St) (res : (Int32 × St))  (hf : fX11_about_s156 n   v1 st = some res) : At p l e (rmK 2) s m args below meth c D G ad (MQI D G ad below args s res) 3 st [(0, .ref (ad 130)), (1, .int v1)] 156 [] := by
  obtain ⟨hx, hb, hml, hown, hts, hr, hlk, hK, had, hSt⟩ := id C
  intro H locs ls hl hP hS
  unfold fX11_about_s156 at hf
  refine lv_aload_n hx hb dX11_about_156 rfl (lv_at hl 0 rfl) ?_
  refine g_getR hx hb hts inlX11 hown hK hP 130 ct_130 rfl 23 (by decide) (hts _ wm_7_19) rfl dX11_about_157 ?_
  refine lv_iload_n hx hb dX11_about_160 rfl (lv_at hl 1 rfl) ?_
  obtain ⟨g1, hf⟩ := gd hf
  refine g_lald hx hb hK hP 148 ct_148 g1 dX11_about_161 ?_
  refine lv_l2i hx hb dX11_about_162 rfl ?_
  exact g_iret hx hb hr hlk hP hS dX11_about_163 hf
def fX11_about_s164 (n : Nat)   (v1 : Int32) (st : St) : Option (Int32 × St) := if inb v1 8 = true then (some (st.1 139 v1.toNatClampNeg, st)) else none
set_option maxHeartbeats 4000000 in
set_option maxRecDepth 100000 in
theorem wX11_about_s164 (C : Cx p s m args meth c cX11_about 3 wsL_law RX11 (some .int) D G ad) (n : Nat)   (v1 : Int32)   (st : St) (res : (Int32 × St))  (hf : fX11_about_s164 n   v1 st = some res) : At p l e (rmK 2) s m args below meth c D G ad (MQI D G ad below args s res) 3 st [(0, .ref (ad 130)), (1, .int v1)] 164 [] := by
  obtain ⟨hx, hb, hml, hown, hts, hr, hlk, hK, had, hSt⟩ := id C
  intro H locs ls hl hP hS
  unfold fX11_about_s164 at hf
  refine lv_aload_n hx hb dX11_about_164 rfl (lv_at hl 0 rfl) ?_
  refine g_getR hx hb hts inlX11 hown hK hP 130 ct_130 rfl 9 (by decide) (hts _ wm_7_10) rfl dX11_about_165 ?_
  refine lv_iload_n hx hb dX11_about_168 rfl (lv_at hl 1 rfl) ?_
  obtain ⟨g1, hf⟩ := gd hf
  refine g_iald hx hb hK hP 139 ct_139 g1 dX11_about_169 ?_
  exact g_iret hx hb hr hlk hP hS dX11_about_170 hf
def fX11_about_s171 (n : Nat)   (v1 : Int32) (st : St) : Option (Int32 × St) := if inb v1 8 = true then (some ((st.2 146 v1.toNatClampNeg).toInt32, st)) else none
set_option maxHeartbeats 4000000 in
set_option maxRecDepth 100000 in
theorem wX11_about_s171 (C : Cx p s m args meth c cX11_about 3 wsL_law RX11 (some .int) D G ad) (n : Nat)   (v1 : Int32)   (st : St) (res : (Int32 × St))  (hf : fX11_about_s171 n   v1 st = some res) : At p l e (rmK 2) s m args below meth c D G ad (MQI D G ad below args s res) 3 st [(0, .ref (ad 130)), (1, .int v1)] 171 [] := by
  obtain ⟨hx, hb, hml, hown, hts, hr, hlk, hK, had, hSt⟩ := id C
  intro H locs ls hl hP hS
  unfold fX11_about_s171 at hf
  refine lv_aload_n hx hb dX11_about_171 rfl (lv_at hl 0 rfl) ?_
  refine g_getR hx hb hts inlX11 hown hK hP 130 ct_130 rfl 21 (by decide) (hts _ wm_7_17) rfl dX11_about_172 ?_
  refine lv_iload_n hx hb dX11_about_175 rfl (lv_at hl 1 rfl) ?_
  obtain ⟨g1, hf⟩ := gd hf
  refine g_lald hx hb hK hP 146 ct_146 g1 dX11_about_176 ?_
  refine lv_l2i hx hb dX11_about_177 rfl ?_
  exact g_iret hx hb hr hlk hP hS dX11_about_178 hf
def fX11_about_s22 (n : Nat)   (v1 : Int32) (v2 : Int32) (st : St) : Option (Int32 × St) := if v2 = 0 then fX11_about_s84 n v1 st else if v2 = 1 then fX11_about_s91 n v1 st else if v2 = 2 then fX11_about_s98 n v1 st else if v2 = 3 then fX11_about_s105 n v1 st else if v2 = 4 then fX11_about_s112 n v1 st else if v2 = 5 then fX11_about_s119 n v1 st else if v2 = 6 then fX11_about_s126 n v1 st else if v2 = 7 then fX11_about_s134 n v1 st else if v2 = 8 then fX11_about_s141 n v1 st else if v2 = 9 then fX11_about_s148 n v1 st else if v2 = 10 then fX11_about_s156 n v1 st else if v2 = 11 then fX11_about_s164 n v1 st else fX11_about_s171 n v1 st
set_option maxHeartbeats 4000000 in
set_option maxRecDepth 100000 in
theorem wX11_about_s22 (C : Cx p s m args meth c cX11_about 3 wsL_law RX11 (some .int) D G ad) (n : Nat)   (v1 : Int32) (v2 : Int32)   (st : St) (res : (Int32 × St))  (hf : fX11_about_s22 n   v1 v2 st = some res) : At p l e (rmK 2) s m args below meth c D G ad (MQI D G ad below args s res) 3 st [(0, .ref (ad 130)), (1, .int v1), (2, .int v2)] 22 [] := by
  obtain ⟨hx, hb, hml, hown, hts, hr, hlk, hK, had, hSt⟩ := id C
  intro H locs ls hl hP hS
  unfold fX11_about_s22 at hf
  refine lv_iload_n hx hb dX11_about_22 rfl (lv_at hl 2 rfl) ?_
  by_cases q : v2 = 0
  · rw [q]
    refine lv_tableIn (tgt := 84) hx hb dX11_about_23 (by decide) (by decide) rfl (by decide) ?_
    exact wX11_about_s84 C n v1 st res (it hf q) H locs ls (lv_sub hl [0, 1] rfl) hP hS
  replace hf := ie hf q
  have q0 := q
  clear q
  by_cases q : v2 = 1
  · rw [q]
    refine lv_tableIn (tgt := 91) hx hb dX11_about_23 (by decide) (by decide) rfl (by decide) ?_
    exact wX11_about_s91 C n v1 st res (it hf q) H locs ls (lv_sub hl [0, 1] rfl) hP hS
  replace hf := ie hf q
  have q1 := q
  clear q
  by_cases q : v2 = 2
  · rw [q]
    refine lv_tableIn (tgt := 98) hx hb dX11_about_23 (by decide) (by decide) rfl (by decide) ?_
    exact wX11_about_s98 C n v1 st res (it hf q) H locs ls (lv_sub hl [0, 1] rfl) hP hS
  replace hf := ie hf q
  have q2 := q
  clear q
  by_cases q : v2 = 3
  · rw [q]
    refine lv_tableIn (tgt := 105) hx hb dX11_about_23 (by decide) (by decide) rfl (by decide) ?_
    exact wX11_about_s105 C n v1 st res (it hf q) H locs ls (lv_sub hl [0, 1] rfl) hP hS
  replace hf := ie hf q
  have q3 := q
  clear q
  by_cases q : v2 = 4
  · rw [q]
    refine lv_tableIn (tgt := 112) hx hb dX11_about_23 (by decide) (by decide) rfl (by decide) ?_
    exact wX11_about_s112 C n v1 st res (it hf q) H locs ls (lv_sub hl [0, 1] rfl) hP hS
  replace hf := ie hf q
  have q4 := q
  clear q
  by_cases q : v2 = 5
  · rw [q]
    refine lv_tableIn (tgt := 119) hx hb dX11_about_23 (by decide) (by decide) rfl (by decide) ?_
    exact wX11_about_s119 C n v1 st res (it hf q) H locs ls (lv_sub hl [0, 1] rfl) hP hS
  replace hf := ie hf q
  have q5 := q
  clear q
  by_cases q : v2 = 6
  · rw [q]
    refine lv_tableIn (tgt := 126) hx hb dX11_about_23 (by decide) (by decide) rfl (by decide) ?_
    exact wX11_about_s126 C n v1 st res (it hf q) H locs ls (lv_sub hl [0, 1] rfl) hP hS
  replace hf := ie hf q
  have q6 := q
  clear q
  by_cases q : v2 = 7
  · rw [q]
    refine lv_tableIn (tgt := 134) hx hb dX11_about_23 (by decide) (by decide) rfl (by decide) ?_
    exact wX11_about_s134 C n v1 st res (it hf q) H locs ls (lv_sub hl [0, 1] rfl) hP hS
  replace hf := ie hf q
  have q7 := q
  clear q
  by_cases q : v2 = 8
  · rw [q]
    refine lv_tableIn (tgt := 141) hx hb dX11_about_23 (by decide) (by decide) rfl (by decide) ?_
    exact wX11_about_s141 C n v1 st res (it hf q) H locs ls (lv_sub hl [0, 1] rfl) hP hS
  replace hf := ie hf q
  have q8 := q
  clear q
  by_cases q : v2 = 9
  · rw [q]
    refine lv_tableIn (tgt := 148) hx hb dX11_about_23 (by decide) (by decide) rfl (by decide) ?_
    exact wX11_about_s148 C n v1 st res (it hf q) H locs ls (lv_sub hl [0, 1] rfl) hP hS
  replace hf := ie hf q
  have q9 := q
  clear q
  by_cases q : v2 = 10
  · rw [q]
    refine lv_tableIn (tgt := 156) hx hb dX11_about_23 (by decide) (by decide) rfl (by decide) ?_
    exact wX11_about_s156 C n v1 st res (it hf q) H locs ls (lv_sub hl [0, 1] rfl) hP hS
  replace hf := ie hf q
  have q10 := q
  clear q
  by_cases q : v2 = 11
  · rw [q]
    refine lv_tableIn (tgt := 164) hx hb dX11_about_23 (by decide) (by decide) rfl (by decide) ?_
    exact wX11_about_s164 C n v1 st res (it hf q) H locs ls (lv_sub hl [0, 1] rfl) hP hS
  replace hf := ie hf q
  have q11 := q
  clear q
  have qo : v2.toInt < 0 ∨ 11 < v2.toInt := by
    refine Classical.byContradiction (fun w => ?_)
    have w : v2.toInt = 0 ∨ v2.toInt = 1 ∨ v2.toInt = 2 ∨ v2.toInt = 3 ∨ v2.toInt = 4 ∨ v2.toInt = 5 ∨ v2.toInt = 6 ∨ v2.toInt = 7 ∨ v2.toInt = 8 ∨ v2.toInt = 9 ∨ v2.toInt = 10 ∨ v2.toInt = 11 := by omega
    rcases w with w | w | w | w | w | w | w | w | w | w | w | w
    · exact q0 (Int32.toInt_inj.mp (w.trans (by decide)))
    · exact q1 (Int32.toInt_inj.mp (w.trans (by decide)))
    · exact q2 (Int32.toInt_inj.mp (w.trans (by decide)))
    · exact q3 (Int32.toInt_inj.mp (w.trans (by decide)))
    · exact q4 (Int32.toInt_inj.mp (w.trans (by decide)))
    · exact q5 (Int32.toInt_inj.mp (w.trans (by decide)))
    · exact q6 (Int32.toInt_inj.mp (w.trans (by decide)))
    · exact q7 (Int32.toInt_inj.mp (w.trans (by decide)))
    · exact q8 (Int32.toInt_inj.mp (w.trans (by decide)))
    · exact q9 (Int32.toInt_inj.mp (w.trans (by decide)))
    · exact q10 (Int32.toInt_inj.mp (w.trans (by decide)))
    · exact q11 (Int32.toInt_inj.mp (w.trans (by decide)))
  refine lv_tableOut (tgt := 171) hx hb dX11_about_23 qo (by decide) ?_
  exact wX11_about_s171 C n v1 st res hf H locs ls (lv_sub hl [0, 1] rfl) hP hS
def fX11_about_s17 (n : Nat)   (v1 : Int32) (v2 : Int32) (k0 : Int32) (st : St) : Option (Int32 × St) := if k0 = 0 then fX11_about_s20 n st else fX11_about_s22 n v1 v2 st
set_option maxHeartbeats 4000000 in
set_option maxRecDepth 100000 in
theorem wX11_about_s17 (C : Cx p s m args meth c cX11_about 3 wsL_law RX11 (some .int) D G ad) (n : Nat)   (v1 : Int32) (v2 : Int32) (k0 : Int32)   (st : St) (res : (Int32 × St))  (hf : fX11_about_s17 n   v1 v2 k0 st = some res) : At p l e (rmK 2) s m args below meth c D G ad (MQI D G ad below args s res) 3 st [(0, .ref (ad 130)), (1, .int v1), (2, .int v2)] 17 [.int k0] := by
  obtain ⟨hx, hb, hml, hown, hts, hr, hlk, hK, had, hSt⟩ := id C
  intro H locs ls hl hP hS
  unfold fX11_about_s17 at hf
  refine lv_if_ne (tgt := 22) hx hb dX11_about_17 (by decide) (fun q => ?_) (fun q => ?_)
  · exact wX11_about_s22 C n v1 v2 st res (ie hf q) H locs ls (lv_sub hl [0, 1, 2] rfl) hP hS
  · exact wX11_about_s20 C n st res (it hf q) H locs ls (lv_sub hl [] rfl) hP hS
def fX11_about_s8 (n : Nat)   (v1 : Int32) (v2 : Int32) (st : St) : Option (Int32 × St) := (fX11_in n v2.toInt64 0 12 st).bind (fun q => fX11_about_s17 n v1 v2 q.1 q.2)
set_option maxHeartbeats 4000000 in
set_option maxRecDepth 100000 in
theorem wX11_about_s8 (C : Cx p s m args meth c cX11_about 3 wsL_law RX11 (some .int) D G ad) (n : Nat)   (v1 : Int32) (v2 : Int32)   (st : St) (res : (Int32 × St))  (hf : fX11_about_s8 n   v1 v2 st = some res) : At p l e (rmK 2) s m args below meth c D G ad (MQI D G ad below args s res) 3 st [(0, .ref (ad 130)), (1, .int v1), (2, .int v2)] 8 [] := by
  obtain ⟨hx, hb, hml, hown, hts, hr, hlk, hK, had, hSt⟩ := id C
  intro H locs ls hl hP hS
  unfold fX11_about_s8 at hf
  refine lv_iload_n hx hb dX11_about_8 rfl (lv_at hl 2 rfl) ?_
  refine lv_i2l hx hb dX11_about_9 rfl ?_
  refine lv_lconst (v := 0) hx hb dX11_about_10 (by decide) ?_
  refine lv_ldc2 hx hb hown (hts _ wm_13_17) dX11_about_11 ?_
  obtain ⟨q, hq, hf⟩ := bd hf
  refine gcS_i (k := 0) (As := [.long v2.toInt64, .long 0, .long 12]) (rest := []) hx hb hml hown hts hK hSt hP hS hl.1 (goodS wm_10_21 wm_10_22 wm_1_5 wm_10_23) okX11_in (Nat.le_of_ble_eq_true rfl) (Nat.le_of_ble_eq_true rfl) rfl rfl (Nat.le_of_ble_eq_true rfl) dX11_about_14 (kX11_in l D G ad had n  v2.toInt64 0 12 st q hq) (fun H locs hP hS => ?_)
  exact wX11_about_s17 C n v1 v2 q.1 q.2 res hf H locs ls (lv_sub hl [0, 1, 2] rfl) hP hS
def fX11_about_s5 (n : Nat)   (v1 : Int32) (v2 : Int32) (k0 : Int32) (st : St) : Option (Int32 × St) := if k0 = 0 then fX11_about_s20 n st else fX11_about_s8 n v1 v2 st
set_option maxHeartbeats 4000000 in
set_option maxRecDepth 100000 in
theorem wX11_about_s5 (C : Cx p s m args meth c cX11_about 3 wsL_law RX11 (some .int) D G ad) (n : Nat)   (v1 : Int32) (v2 : Int32) (k0 : Int32)   (st : St) (res : (Int32 × St))  (hf : fX11_about_s5 n   v1 v2 k0 st = some res) : At p l e (rmK 2) s m args below meth c D G ad (MQI D G ad below args s res) 3 st [(0, .ref (ad 130)), (1, .int v1), (2, .int v2)] 5 [.int k0] := by
  obtain ⟨hx, hb, hml, hown, hts, hr, hlk, hK, had, hSt⟩ := id C
  intro H locs ls hl hP hS
  unfold fX11_about_s5 at hf
  refine lv_if_eq (tgt := 20) hx hb dX11_about_5 (by decide) (fun q => ?_) (fun q => ?_)
  · exact wX11_about_s20 C n st res (it hf q) H locs ls (lv_sub hl [] rfl) hP hS
  · exact wX11_about_s8 C n v1 v2 st res (ie hf q) H locs ls (lv_sub hl [0, 1, 2] rfl) hP hS
def fX11_about_s0 (n : Nat)   (v1 : Int32) (v2 : Int32) (st : St) : Option (Int32 × St) := (fX11_isStage n v1 st).bind (fun q => fX11_about_s5 n v1 v2 q.1 q.2)
set_option maxHeartbeats 4000000 in
set_option maxRecDepth 100000 in
theorem wX11_about_s0 (C : Cx p s m args meth c cX11_about 3 wsL_law RX11 (some .int) D G ad) (n : Nat)   (v1 : Int32) (v2 : Int32)   (st : St) (res : (Int32 × St))  (hf : fX11_about_s0 n   v1 v2 st = some res) : At p l e (rmK 2) s m args below meth c D G ad (MQI D G ad below args s res) 3 st [(0, .ref (ad 130)), (1, .int v1), (2, .int v2)] 0 [] := by
  obtain ⟨hx, hb, hml, hown, hts, hr, hlk, hK, had, hSt⟩ := id C
  intro H locs ls hl hP hS
  unfold fX11_about_s0 at hf
  refine lv_aload_n hx hb dX11_about_0 rfl (lv_at hl 0 rfl) ?_
  refine lv_iload_n hx hb dX11_about_1 rfl (lv_at hl 1 rfl) ?_
  obtain ⟨q, hq, hf⟩ := bd hf
  refine gcV_i (k := 1) (o := 130) (As := [.int v1]) (rest := []) hx hb hml hown hts hK hSt hP hS hl.1 (goodV wm_10_17 wm_10_18 wm_10_19 wm_1_5 wm_10_20) okX11_isStage ct_130 rfl rfl (Nat.le_of_ble_eq_true rfl) (Nat.le_of_ble_eq_true rfl) rfl rfl (Nat.le_of_ble_eq_true rfl) dX11_about_2 (kX11_isStage l D G ad had n  v1 st q hq) (fun H locs hP hS => ?_)
  exact wX11_about_s5 C n v1 v2 q.1 q.2 res hf H locs ls (lv_sub hl [0, 1, 2] rfl) hP hS
def fX11_about (n : Nat)  (a1 : Int32) (a2 : Int32) (st : St) : Option (Int32 × St) := fX11_about_s0 n a1 a2 st
theorem okX11_about : okY yX11_about RX11 2 := by unfold okY; decide +kernel
end
set_option maxRecDepth 100000 in
theorem kX11_about (l : Launch) (D : va_G) (G : G3) (ad : Nat → Nat) (had : Adr ad) (n : Nat)   (a1 : Int32) (a2 : Int32) (st : St) (res : (Int32 × St)) (hf : fX11_about n  a1 a2 st = some res) {sz : Nat} : CtI l yX11_about (wsU yX11_about cX11_about 3 (some .int)) (rmK 2) D G ad sz [.ref (ad 130), .int a1, .int a2] st res := by
  refine Met.ofW (cc := cX11_about) (maxL := 3) (ret := (some .int)) (by decide) rfl ?_
  intro p e s m args below meth c s₁ B hml hv
  obtain ⟨rfl, hsz, hP, hK, hSt⟩ := hv
  have hts := atoms_spec (ws := wsU yX11_about cX11_about 3 (some .int)) B.pre
  have C : Cx p s m _ meth c cX11_about 3 wsL_law RX11 (some .int) D G ad := ⟨B.exec, B.bytes, hml, findClass_of_methodNamed B.named, fun w h => hts w (List.mem_cons_of_mem _ h), B.returns, B.notSynchronized, hK, had, hSt⟩
  subst hsz
  have hl := lv_entry ([.ref (ad 130), .int a1, .int a2]) (n := 3) (Nat.le_of_ble_eq_true rfl)
  rw [lg_entry_eq]
  generalize (lg_sl ([.ref (ad 130), .int a1, .int a2]) ++ List.replicate (3 - (lg_sl ([.ref (ad 130), .int a1, .int a2])).length) Slot.unset).toArray = ls at hl ⊢
  exact wX11_about_s0 C n  a1 a2   st res hf s.heap [] ls (lv_sub hl [0, 1, 2] rfl) hP va_S.rf
section
variable {p : Program} {l : Launch} {e : Env} {s : State} {m : MethodId} {args : Array Value} {below : List Frame} {meth : Method} {c : Code} {D : va_G} {G : G3} {ad : Nat → Nat}
def fX11_place_s19 (n : Nat)   (k0 : Int64) (st : St) : Option (Int64 × St) := some (k0, st)
set_option maxHeartbeats 4000000 in
set_option maxRecDepth 100000 in
theorem wX11_place_s19 (C : Cx p s m args meth c cX11_place 2 wsL_law RX11 (some .long) D G ad) (n : Nat)   (k0 : Int64)   (st : St) (res : (Int64 × St))  (hf : fX11_place_s19 n   k0 st = some res) : At p l e (rmK 2) s m args below meth c D G ad (MQJ D G ad below args s res) 2 st [] 19 [.long k0] := by
  obtain ⟨hx, hb, hml, hown, hts, hr, hlk, hK, had, hSt⟩ := id C
  intro H locs ls hl hP hS
  unfold fX11_place_s19 at hf
  exact g_lret hx hb hr hlk hP hS dX11_place_19 hf
def fX11_place_s16 (n : Nat)    (st : St) : Option (Int64 × St) := fX11_place_s19 n (-9223372036854775808) st
set_option maxHeartbeats 4000000 in
set_option maxRecDepth 100000 in
theorem wX11_place_s16 (C : Cx p s m args meth c cX11_place 2 wsL_law RX11 (some .long) D G ad) (n : Nat)      (st : St) (res : (Int64 × St))  (hf : fX11_place_s16 n    st = some res) : At p l e (rmK 2) s m args below meth c D G ad (MQJ D G ad below args s res) 2 st [] 16 [] := by
  obtain ⟨hx, hb, hml, hown, hts, hr, hlk, hK, had, hSt⟩ := id C
  intro H locs ls hl hP hS
  unfold fX11_place_s16 at hf
  refine lv_ldc2 hx hb hown (hts _ wm_14_15) dX11_place_16 ?_
  exact wX11_place_s19 C n (-9223372036854775808) st res hf H locs ls (lv_sub hl [] rfl) hP hS
def fX11_place_s13 (n : Nat)   (k0 : Int64) (st : St) : Option (Int64 × St) := fX11_place_s19 n k0 st
set_option maxHeartbeats 4000000 in
set_option maxRecDepth 100000 in
theorem wX11_place_s13 (C : Cx p s m args meth c cX11_place 2 wsL_law RX11 (some .long) D G ad) (n : Nat)   (k0 : Int64)   (st : St) (res : (Int64 × St))  (hf : fX11_place_s13 n   k0 st = some res) : At p l e (rmK 2) s m args below meth c D G ad (MQJ D G ad below args s res) 2 st [] 13 [.long k0] := by
  obtain ⟨hx, hb, hml, hown, hts, hr, hlk, hK, had, hSt⟩ := id C
  intro H locs ls hl hP hS
  unfold fX11_place_s13 at hf
  refine lv_goto (tgt := 19) hx hb dX11_place_13 (by decide) ?_
  exact wX11_place_s19 C n k0 st res hf H locs ls (lv_sub hl [] rfl) hP hS
def fX11_place_s8 (n : Nat)   (v1 : Int32) (st : St) : Option (Int64 × St) := (fX11_position n v1 st).bind (fun q => fX11_place_s13 n q.1 q.2)
set_option maxHeartbeats 4000000 in
set_option maxRecDepth 100000 in
theorem wX11_place_s8 (C : Cx p s m args meth c cX11_place 2 wsL_law RX11 (some .long) D G ad) (n : Nat)   (v1 : Int32)   (st : St) (res : (Int64 × St))  (hf : fX11_place_s8 n   v1 st = some res) : At p l e (rmK 2) s m args below meth c D G ad (MQJ D G ad below args s res) 2 st [(0, .ref (ad 130)), (1, .int v1)] 8 [] := by
  obtain ⟨hx, hb, hml, hown, hts, hr, hlk, hK, had, hSt⟩ := id C
  intro H locs ls hl hP hS
  unfold fX11_place_s8 at hf
  refine lv_aload_n hx hb dX11_place_8 rfl (lv_at hl 0 rfl) ?_
  refine lv_iload_n hx hb dX11_place_9 rfl (lv_at hl 1 rfl) ?_
  obtain ⟨q, hq, hf⟩ := bd hf
  refine gcV_j (k := 1) (o := 130) (As := [.int v1]) (rest := []) hx hb hml hown hts hK hSt hP hS hl.1 (goodV wm_14_16 wm_14_17 wm_14_18 wm_1_5 wm_14_19) okX11_position ct_130 rfl rfl (Nat.le_of_ble_eq_true rfl) (Nat.le_of_ble_eq_true rfl) rfl rfl (Nat.le_of_ble_eq_true rfl) dX11_place_10 (kX11_position l D G ad had n  v1 st q hq) (fun H locs hP hS => ?_)
  exact wX11_place_s13 C n q.1 q.2 res hf H locs ls (lv_sub hl [] rfl) hP hS
def fX11_place_s5 (n : Nat)   (v1 : Int32) (k0 : Int32) (st : St) : Option (Int64 × St) := if k0 = 0 then fX11_place_s16 n st else fX11_place_s8 n v1 st
set_option maxHeartbeats 4000000 in
set_option maxRecDepth 100000 in
theorem wX11_place_s5 (C : Cx p s m args meth c cX11_place 2 wsL_law RX11 (some .long) D G ad) (n : Nat)   (v1 : Int32) (k0 : Int32)   (st : St) (res : (Int64 × St))  (hf : fX11_place_s5 n   v1 k0 st = some res) : At p l e (rmK 2) s m args below meth c D G ad (MQJ D G ad below args s res) 2 st [(0, .ref (ad 130)), (1, .int v1)] 5 [.int k0] := by
  obtain ⟨hx, hb, hml, hown, hts, hr, hlk, hK, had, hSt⟩ := id C
  intro H locs ls hl hP hS
  unfold fX11_place_s5 at hf
  refine lv_if_eq (tgt := 16) hx hb dX11_place_5 (by decide) (fun q => ?_) (fun q => ?_)
  · exact wX11_place_s16 C n st res (it hf q) H locs ls (lv_sub hl [] rfl) hP hS
  · exact wX11_place_s8 C n v1 st res (ie hf q) H locs ls (lv_sub hl [0, 1] rfl) hP hS
def fX11_place_s0 (n : Nat)   (v1 : Int32) (st : St) : Option (Int64 × St) := (fX11_isStage n v1 st).bind (fun q => fX11_place_s5 n v1 q.1 q.2)
set_option maxHeartbeats 4000000 in
set_option maxRecDepth 100000 in
theorem wX11_place_s0 (C : Cx p s m args meth c cX11_place 2 wsL_law RX11 (some .long) D G ad) (n : Nat)   (v1 : Int32)   (st : St) (res : (Int64 × St))  (hf : fX11_place_s0 n   v1 st = some res) : At p l e (rmK 2) s m args below meth c D G ad (MQJ D G ad below args s res) 2 st [(0, .ref (ad 130)), (1, .int v1)] 0 [] := by
  obtain ⟨hx, hb, hml, hown, hts, hr, hlk, hK, had, hSt⟩ := id C
  intro H locs ls hl hP hS
  unfold fX11_place_s0 at hf
  refine lv_aload_n hx hb dX11_place_0 rfl (lv_at hl 0 rfl) ?_
  refine lv_iload_n hx hb dX11_place_1 rfl (lv_at hl 1 rfl) ?_
  obtain ⟨q, hq, hf⟩ := bd hf
  refine gcV_i (k := 1) (o := 130) (As := [.int v1]) (rest := []) hx hb hml hown hts hK hSt hP hS hl.1 (goodV wm_10_17 wm_10_18 wm_10_19 wm_1_5 wm_10_20) okX11_isStage ct_130 rfl rfl (Nat.le_of_ble_eq_true rfl) (Nat.le_of_ble_eq_true rfl) rfl rfl (Nat.le_of_ble_eq_true rfl) dX11_place_2 (kX11_isStage l D G ad had n  v1 st q hq) (fun H locs hP hS => ?_)
  exact wX11_place_s5 C n v1 q.1 q.2 res hf H locs ls (lv_sub hl [0, 1] rfl) hP hS
def fX11_place (n : Nat)  (a1 : Int32) (st : St) : Option (Int64 × St) := fX11_place_s0 n a1 st
theorem okX11_place : okY yX11_place RX11 1 := by unfold okY; decide +kernel
end
set_option maxRecDepth 100000 in
theorem kX11_place (l : Launch) (D : va_G) (G : G3) (ad : Nat → Nat) (had : Adr ad) (n : Nat)   (a1 : Int32) (st : St) (res : (Int64 × St)) (hf : fX11_place n  a1 st = some res) {sz : Nat} : CtJ l yX11_place (wsU yX11_place cX11_place 2 (some .long)) (rmK 2) D G ad sz [.ref (ad 130), .int a1] st res := by
  refine Met.ofW (cc := cX11_place) (maxL := 2) (ret := (some .long)) (by decide) rfl ?_
  intro p e s m args below meth c s₁ B hml hv
  obtain ⟨rfl, hsz, hP, hK, hSt⟩ := hv
  have hts := atoms_spec (ws := wsU yX11_place cX11_place 2 (some .long)) B.pre
  have C : Cx p s m _ meth c cX11_place 2 wsL_law RX11 (some .long) D G ad := ⟨B.exec, B.bytes, hml, findClass_of_methodNamed B.named, fun w h => hts w (List.mem_cons_of_mem _ h), B.returns, B.notSynchronized, hK, had, hSt⟩
  subst hsz
  have hl := lv_entry ([.ref (ad 130), .int a1]) (n := 2) (Nat.le_of_ble_eq_true rfl)
  rw [lg_entry_eq]
  generalize (lg_sl ([.ref (ad 130), .int a1]) ++ List.replicate (2 - (lg_sl ([.ref (ad 130), .int a1])).length) Slot.unset).toArray = ls at hl ⊢
  exact wX11_place_s0 C n  a1   st res hf s.heap [] ls (lv_sub hl [0, 1] rfl) hP va_S.rf
section
variable {p : Program} {l : Launch} {e : Env} {s : State} {m : MethodId} {args : Array Value} {below : List Frame} {meth : Method} {c : Code} {D : va_G} {G : G3} {ad : Nat → Nat}
def fX11_slot_s40 (n : Nat)   (k0 : Int32) (st : St) : Option (Int32 × St) := some (k0, st)
set_option maxHeartbeats 4000000 in
set_option maxRecDepth 100000 in
theorem wX11_slot_s40 (C : Cx p s m args meth c cX11_slot 3 wsL_law RX11 (some .int) D G ad) (n : Nat)   (k0 : Int32)   (st : St) (res : (Int32 × St))  (hf : fX11_slot_s40 n   k0 st = some res) : At p l e (rmK 2) s m args below meth c D G ad (MQI D G ad below args s res) 3 st [] 40 [.int k0] := by
  obtain ⟨hx, hb, hml, hown, hts, hr, hlk, hK, had, hSt⟩ := id C
  intro H locs ls hl hP hS
  unfold fX11_slot_s40 at hf
  exact g_iret hx hb hr hlk hP hS dX11_slot_40 hf
def fX11_slot_s39 (n : Nat)    (st : St) : Option (Int32 × St) := fX11_slot_s40 n (-1) st
set_option maxHeartbeats 4000000 in
set_option maxRecDepth 100000 in
theorem wX11_slot_s39 (C : Cx p s m args meth c cX11_slot 3 wsL_law RX11 (some .int) D G ad) (n : Nat)      (st : St) (res : (Int32 × St))  (hf : fX11_slot_s39 n    st = some res) : At p l e (rmK 2) s m args below meth c D G ad (MQI D G ad below args s res) 3 st [] 39 [] := by
  obtain ⟨hx, hb, hml, hown, hts, hr, hlk, hK, had, hSt⟩ := id C
  intro H locs ls hl hP hS
  unfold fX11_slot_s39 at hf
  refine lv_iconst (v := (-1)) hx hb dX11_slot_39 (by decide) ?_
  exact wX11_slot_s40 C n (-1) st res hf H locs ls (lv_sub hl [] rfl) hP hS
def fX11_slot_s24 (n : Nat)   (v1 : Int32) (v2 : Int32) (st : St) : Option (Int32 × St) := if inb ((7 * v1) + v2) 56 = true then (fX11_slot_s40 n ((st.2 143 ((7 * v1) + v2).toNatClampNeg).toInt32) st) else none
set_option maxHeartbeats 4000000 in
set_option maxRecDepth 100000 in
theorem wX11_slot_s24 (C : Cx p s m args meth c cX11_slot 3 wsL_law RX11 (some .int) D G ad) (n : Nat)   (v1 : Int32) (v2 : Int32)   (st : St) (res : (Int32 × St))  (hf : fX11_slot_s24 n   v1 v2 st = some res) : At p l e (rmK 2) s m args below meth c D G ad (MQI D G ad below args s res) 3 st [(0, .ref (ad 130)), (1, .int v1), (2, .int v2)] 24 [] := by
  obtain ⟨hx, hb, hml, hown, hts, hr, hlk, hK, had, hSt⟩ := id C
  intro H locs ls hl hP hS
  unfold fX11_slot_s24 at hf
  refine lv_aload_n hx hb dX11_slot_24 rfl (lv_at hl 0 rfl) ?_
  refine g_getR hx hb hts inlX11 hown hK hP 130 ct_130 rfl 18 (by decide) (hts _ wm_7_14) rfl dX11_slot_25 ?_
  refine lv_bipush (v := 7) hx hb dX11_slot_28 (by decide) ?_
  refine lv_iload_n hx hb dX11_slot_30 rfl (lv_at hl 1 rfl) ?_
  refine lv_imul hx hb dX11_slot_31 ?_
  refine lv_iload_n hx hb dX11_slot_32 rfl (lv_at hl 2 rfl) ?_
  refine lv_iadd hx hb dX11_slot_33 ?_
  obtain ⟨g1, hf⟩ := gd hf
  refine g_lald hx hb hK hP 143 ct_143 g1 dX11_slot_34 ?_
  refine lv_l2i hx hb dX11_slot_35 rfl ?_
  refine lv_goto (tgt := 40) hx hb dX11_slot_36 (by decide) ?_
  exact wX11_slot_s40 C n ((st.2 143 ((7 * v1) + v2).toNatClampNeg).toInt32) st res hf H locs ls (lv_sub hl [] rfl) hP hS
def fX11_slot_s21 (n : Nat)   (v1 : Int32) (v2 : Int32) (k0 : Int32) (st : St) : Option (Int32 × St) := if k0 = 0 then fX11_slot_s39 n st else fX11_slot_s24 n v1 v2 st
set_option maxHeartbeats 4000000 in
set_option maxRecDepth 100000 in
theorem wX11_slot_s21 (C : Cx p s m args meth c cX11_slot 3 wsL_law RX11 (some .int) D G ad) (n : Nat)   (v1 : Int32) (v2 : Int32) (k0 : Int32)   (st : St) (res : (Int32 × St))  (hf : fX11_slot_s21 n   v1 v2 k0 st = some res) : At p l e (rmK 2) s m args below meth c D G ad (MQI D G ad below args s res) 3 st [(0, .ref (ad 130)), (1, .int v1), (2, .int v2)] 21 [.int k0] := by
  obtain ⟨hx, hb, hml, hown, hts, hr, hlk, hK, had, hSt⟩ := id C
  intro H locs ls hl hP hS
  unfold fX11_slot_s21 at hf
  refine lv_if_eq (tgt := 39) hx hb dX11_slot_21 (by decide) (fun q => ?_) (fun q => ?_)
  · exact wX11_slot_s39 C n st res (it hf q) H locs ls (lv_sub hl [] rfl) hP hS
  · exact wX11_slot_s24 C n v1 v2 st res (ie hf q) H locs ls (lv_sub hl [0, 1, 2] rfl) hP hS
def fX11_slot_s8 (n : Nat)   (v1 : Int32) (v2 : Int32) (st : St) : Option (Int32 × St) := if inb v1 8 = true then ((fX11_in n v2.toInt64 1 ((st.1 133 v1.toNatClampNeg).toInt64) st).bind (fun q => fX11_slot_s21 n v1 v2 q.1 q.2)) else none
set_option maxHeartbeats 4000000 in
set_option maxRecDepth 100000 in
theorem wX11_slot_s8 (C : Cx p s m args meth c cX11_slot 3 wsL_law RX11 (some .int) D G ad) (n : Nat)   (v1 : Int32) (v2 : Int32)   (st : St) (res : (Int32 × St))  (hf : fX11_slot_s8 n   v1 v2 st = some res) : At p l e (rmK 2) s m args below meth c D G ad (MQI D G ad below args s res) 3 st [(0, .ref (ad 130)), (1, .int v1), (2, .int v2)] 8 [] := by
  obtain ⟨hx, hb, hml, hown, hts, hr, hlk, hK, had, hSt⟩ := id C
  intro H locs ls hl hP hS
  unfold fX11_slot_s8 at hf
  refine lv_iload_n hx hb dX11_slot_8 rfl (lv_at hl 2 rfl) ?_
  refine lv_i2l hx hb dX11_slot_9 rfl ?_
  refine lv_lconst (v := 1) hx hb dX11_slot_10 (by decide) ?_
  refine lv_aload_n hx hb dX11_slot_11 rfl (lv_at hl 0 rfl) ?_
  refine g_getR hx hb hts inlX11 hown hK hP 130 ct_130 rfl 3 (by decide) (hts _ wm_7_4) rfl dX11_slot_12 ?_
  refine lv_iload_n hx hb dX11_slot_15 rfl (lv_at hl 1 rfl) ?_
  obtain ⟨g1, hf⟩ := gd hf
  refine g_iald hx hb hK hP 133 ct_133 g1 dX11_slot_16 ?_
  refine lv_i2l hx hb dX11_slot_17 rfl ?_
  obtain ⟨q, hq, hf⟩ := bd hf
  refine gcS_i (k := 0) (As := [.long v2.toInt64, .long 1, .long ((st.1 133 v1.toNatClampNeg).toInt64)]) (rest := []) hx hb hml hown hts hK hSt hP hS hl.1 (goodS wm_10_21 wm_10_22 wm_1_5 wm_10_23) okX11_in (Nat.le_of_ble_eq_true rfl) (Nat.le_of_ble_eq_true rfl) rfl rfl (Nat.le_of_ble_eq_true rfl) dX11_slot_18 (kX11_in l D G ad had n  v2.toInt64 1 ((st.1 133 v1.toNatClampNeg).toInt64) st q hq) (fun H locs hP hS => ?_)
  exact wX11_slot_s21 C n v1 v2 q.1 q.2 res hf H locs ls (lv_sub hl [0, 1, 2] rfl) hP hS
def fX11_slot_s5 (n : Nat)   (v1 : Int32) (v2 : Int32) (k0 : Int32) (st : St) : Option (Int32 × St) := if k0 = 0 then fX11_slot_s39 n st else fX11_slot_s8 n v1 v2 st
set_option maxHeartbeats 4000000 in
set_option maxRecDepth 100000 in
theorem wX11_slot_s5 (C : Cx p s m args meth c cX11_slot 3 wsL_law RX11 (some .int) D G ad) (n : Nat)   (v1 : Int32) (v2 : Int32) (k0 : Int32)   (st : St) (res : (Int32 × St))  (hf : fX11_slot_s5 n   v1 v2 k0 st = some res) : At p l e (rmK 2) s m args below meth c D G ad (MQI D G ad below args s res) 3 st [(0, .ref (ad 130)), (1, .int v1), (2, .int v2)] 5 [.int k0] := by
  obtain ⟨hx, hb, hml, hown, hts, hr, hlk, hK, had, hSt⟩ := id C
  intro H locs ls hl hP hS
  unfold fX11_slot_s5 at hf
  refine lv_if_eq (tgt := 39) hx hb dX11_slot_5 (by decide) (fun q => ?_) (fun q => ?_)
  · exact wX11_slot_s39 C n st res (it hf q) H locs ls (lv_sub hl [] rfl) hP hS
  · exact wX11_slot_s8 C n v1 v2 st res (ie hf q) H locs ls (lv_sub hl [0, 1, 2] rfl) hP hS
def fX11_slot_s0 (n : Nat)   (v1 : Int32) (v2 : Int32) (st : St) : Option (Int32 × St) := (fX11_isStage n v1 st).bind (fun q => fX11_slot_s5 n v1 v2 q.1 q.2)
set_option maxHeartbeats 4000000 in
set_option maxRecDepth 100000 in
theorem wX11_slot_s0 (C : Cx p s m args meth c cX11_slot 3 wsL_law RX11 (some .int) D G ad) (n : Nat)   (v1 : Int32) (v2 : Int32)   (st : St) (res : (Int32 × St))  (hf : fX11_slot_s0 n   v1 v2 st = some res) : At p l e (rmK 2) s m args below meth c D G ad (MQI D G ad below args s res) 3 st [(0, .ref (ad 130)), (1, .int v1), (2, .int v2)] 0 [] := by
  obtain ⟨hx, hb, hml, hown, hts, hr, hlk, hK, had, hSt⟩ := id C
  intro H locs ls hl hP hS
  unfold fX11_slot_s0 at hf
  refine lv_aload_n hx hb dX11_slot_0 rfl (lv_at hl 0 rfl) ?_
  refine lv_iload_n hx hb dX11_slot_1 rfl (lv_at hl 1 rfl) ?_
  obtain ⟨q, hq, hf⟩ := bd hf
  refine gcV_i (k := 1) (o := 130) (As := [.int v1]) (rest := []) hx hb hml hown hts hK hSt hP hS hl.1 (goodV wm_10_17 wm_10_18 wm_10_19 wm_1_5 wm_10_20) okX11_isStage ct_130 rfl rfl (Nat.le_of_ble_eq_true rfl) (Nat.le_of_ble_eq_true rfl) rfl rfl (Nat.le_of_ble_eq_true rfl) dX11_slot_2 (kX11_isStage l D G ad had n  v1 st q hq) (fun H locs hP hS => ?_)
  exact wX11_slot_s5 C n v1 v2 q.1 q.2 res hf H locs ls (lv_sub hl [0, 1, 2] rfl) hP hS
def fX11_slot (n : Nat)  (a1 : Int32) (a2 : Int32) (st : St) : Option (Int32 × St) := fX11_slot_s0 n a1 a2 st
theorem okX11_slot : okY yX11_slot RX11 2 := by unfold okY; decide +kernel
end
set_option maxRecDepth 100000 in
theorem kX11_slot (l : Launch) (D : va_G) (G : G3) (ad : Nat → Nat) (had : Adr ad) (n : Nat)   (a1 : Int32) (a2 : Int32) (st : St) (res : (Int32 × St)) (hf : fX11_slot n  a1 a2 st = some res) {sz : Nat} : CtI l yX11_slot (wsU yX11_slot cX11_slot 3 (some .int)) (rmK 2) D G ad sz [.ref (ad 130), .int a1, .int a2] st res := by
  refine Met.ofW (cc := cX11_slot) (maxL := 3) (ret := (some .int)) (by decide) rfl ?_
  intro p e s m args below meth c s₁ B hml hv
  obtain ⟨rfl, hsz, hP, hK, hSt⟩ := hv
  have hts := atoms_spec (ws := wsU yX11_slot cX11_slot 3 (some .int)) B.pre
  have C : Cx p s m _ meth c cX11_slot 3 wsL_law RX11 (some .int) D G ad := ⟨B.exec, B.bytes, hml, findClass_of_methodNamed B.named, fun w h => hts w (List.mem_cons_of_mem _ h), B.returns, B.notSynchronized, hK, had, hSt⟩
  subst hsz
  have hl := lv_entry ([.ref (ad 130), .int a1, .int a2]) (n := 3) (Nat.le_of_ble_eq_true rfl)
  rw [lg_entry_eq]
  generalize (lg_sl ([.ref (ad 130), .int a1, .int a2]) ++ List.replicate (3 - (lg_sl ([.ref (ad 130), .int a1, .int a2])).length) Slot.unset).toArray = ls at hl ⊢
  exact wX11_slot_s0 C n  a1 a2   st res hf s.heap [] ls (lv_sub hl [0, 1, 2] rfl) hP va_S.rf
section
variable {p : Program} {l : Launch} {e : Env} {s : State} {m : MethodId} {args : Array Value} {below : List Frame} {meth : Method} {c : Code} {D : va_G} {G : G3} {ad : Nat → Nat}
def fX11_owed_s16 (n : Nat)    (st : St) : Option (Int32 × St) := some ((-1), st)
set_option maxHeartbeats 4000000 in
set_option maxRecDepth 100000 in
theorem wX11_owed_s16 (C : Cx p s m args meth c cX11_owed 4 wsL_law RX11 (some .int) D G ad) (n : Nat)      (st : St) (res : (Int32 × St))  (hf : fX11_owed_s16 n    st = some res) : At p l e (rmK 2) s m args below meth c D G ad (MQI D G ad below args s res) 4 st [] 16 [] := by
  obtain ⟨hx, hb, hml, hown, hts, hr, hlk, hK, had, hSt⟩ := id C
  intro H locs ls hl hP hS
  unfold fX11_owed_s16 at hf
  refine lv_iconst (v := (-1)) hx hb dX11_owed_16 (by decide) ?_
  exact g_iret hx hb hr hlk hP hS dX11_owed_17 hf
def fX11_owed_s81 (n : Nat)   (k0 : Int32) (st : St) : Option (Int32 × St) := some (k0, st)
set_option maxHeartbeats 4000000 in
set_option maxRecDepth 100000 in
theorem wX11_owed_s81 (C : Cx p s m args meth c cX11_owed 4 wsL_law RX11 (some .int) D G ad) (n : Nat)   (k0 : Int32)   (st : St) (res : (Int32 × St))  (hf : fX11_owed_s81 n   k0 st = some res) : At p l e (rmK 2) s m args below meth c D G ad (MQI D G ad below args s res) 4 st [] 81 [.int k0] := by
  obtain ⟨hx, hb, hml, hown, hts, hr, hlk, hK, had, hSt⟩ := id C
  intro H locs ls hl hP hS
  unfold fX11_owed_s81 at hf
  exact g_iret hx hb hr hlk hP hS dX11_owed_81 hf
def fX11_owed_s80 (n : Nat)    (st : St) : Option (Int32 × St) := fX11_owed_s81 n (-1) st
set_option maxHeartbeats 4000000 in
set_option maxRecDepth 100000 in
theorem wX11_owed_s80 (C : Cx p s m args meth c cX11_owed 4 wsL_law RX11 (some .int) D G ad) (n : Nat)      (st : St) (res : (Int32 × St))  (hf : fX11_owed_s80 n    st = some res) : At p l e (rmK 2) s m args below meth c D G ad (MQI D G ad below args s res) 4 st [] 80 [] := by
  obtain ⟨hx, hb, hml, hown, hts, hr, hlk, hK, had, hSt⟩ := id C
  intro H locs ls hl hP hS
  unfold fX11_owed_s80 at hf
  refine lv_iconst (v := (-1)) hx hb dX11_owed_80 (by decide) ?_
  exact wX11_owed_s81 C n (-1) st res hf H locs ls (lv_sub hl [] rfl) hP hS
def fX11_owed_s65 (n : Nat)   (v1 : Int32) (v2 : Int32) (st : St) : Option (Int32 × St) := if inb ((8 * v1) + v2) 64 = true then (fX11_owed_s81 n ((st.2 142 ((8 * v1) + v2).toNatClampNeg).toInt32) st) else none
set_option maxHeartbeats 4000000 in
set_option maxRecDepth 100000 in
theorem wX11_owed_s65 (C : Cx p s m args meth c cX11_owed 4 wsL_law RX11 (some .int) D G ad) (n : Nat)   (v1 : Int32) (v2 : Int32)   (st : St) (res : (Int32 × St))  (hf : fX11_owed_s65 n   v1 v2 st = some res) : At p l e (rmK 2) s m args below meth c D G ad (MQI D G ad below args s res) 4 st [(0, .ref (ad 130)), (1, .int v1), (2, .int v2)] 65 [] := by
  obtain ⟨hx, hb, hml, hown, hts, hr, hlk, hK, had, hSt⟩ := id C
  intro H locs ls hl hP hS
  unfold fX11_owed_s65 at hf
  refine lv_aload_n hx hb dX11_owed_65 rfl (lv_at hl 0 rfl) ?_
  refine g_getR hx hb hts inlX11 hown hK hP 130 ct_130 rfl 17 (by decide) (hts _ wm_7_13) rfl dX11_owed_66 ?_
  refine lv_bipush (v := 8) hx hb dX11_owed_69 (by decide) ?_
  refine lv_iload_n hx hb dX11_owed_71 rfl (lv_at hl 1 rfl) ?_
  refine lv_imul hx hb dX11_owed_72 ?_
  refine lv_iload_n hx hb dX11_owed_73 rfl (lv_at hl 2 rfl) ?_
  refine lv_iadd hx hb dX11_owed_74 ?_
  obtain ⟨g1, hf⟩ := gd hf
  refine g_lald hx hb hK hP 142 ct_142 g1 dX11_owed_75 ?_
  refine lv_l2i hx hb dX11_owed_76 rfl ?_
  refine lv_goto (tgt := 81) hx hb dX11_owed_77 (by decide) ?_
  exact wX11_owed_s81 C n ((st.2 142 ((8 * v1) + v2).toNatClampNeg).toInt32) st res hf H locs ls (lv_sub hl [] rfl) hP hS
def fX11_owed_s60 (n : Nat)   (v1 : Int32) (v2 : Int32) (k0 : Int32) (st : St) : Option (Int32 × St) := if k0 = 0 then fX11_owed_s80 n st else fX11_owed_s65 n v1 v2 st
set_option maxHeartbeats 4000000 in
set_option maxRecDepth 100000 in
theorem wX11_owed_s60 (C : Cx p s m args meth c cX11_owed 4 wsL_law RX11 (some .int) D G ad) (n : Nat)   (v1 : Int32) (v2 : Int32) (k0 : Int32)   (st : St) (res : (Int32 × St))  (hf : fX11_owed_s60 n   v1 v2 k0 st = some res) : At p l e (rmK 2) s m args below meth c D G ad (MQI D G ad below args s res) 4 st [(0, .ref (ad 130)), (1, .int v1), (2, .int v2)] 60 [.int k0] := by
  obtain ⟨hx, hb, hml, hown, hts, hr, hlk, hK, had, hSt⟩ := id C
  intro H locs ls hl hP hS
  unfold fX11_owed_s60 at hf
  refine lv_istore_n (lv' := [(3, .int k0), (0, .ref (ad 130)), (1, .int v1), (2, .int v2)]) hx hb dX11_owed_60 rfl hl (by decide) rfl (fun ls hl => ?_)
  refine lv_iload_n hx hb dX11_owed_61 rfl (lv_at hl 0 rfl) ?_
  refine lv_if_eq (tgt := 80) hx hb dX11_owed_62 (by decide) (fun q => ?_) (fun q => ?_)
  · exact wX11_owed_s80 C n st res (it hf q) H locs ls (lv_sub hl [] rfl) hP hS
  · exact wX11_owed_s65 C n v1 v2 st res (ie hf q) H locs ls (lv_sub hl [1, 2, 3] rfl) hP hS
def fX11_owed_s59 (n : Nat)   (v1 : Int32) (v2 : Int32) (st : St) : Option (Int32 × St) := fX11_owed_s60 n v1 v2 0 st
set_option maxHeartbeats 4000000 in
set_option maxRecDepth 100000 in
theorem wX11_owed_s59 (C : Cx p s m args meth c cX11_owed 4 wsL_law RX11 (some .int) D G ad) (n : Nat)   (v1 : Int32) (v2 : Int32)   (st : St) (res : (Int32 × St))  (hf : fX11_owed_s59 n   v1 v2 st = some res) : At p l e (rmK 2) s m args below meth c D G ad (MQI D G ad below args s res) 4 st [(0, .ref (ad 130)), (1, .int v1), (2, .int v2)] 59 [] := by
  obtain ⟨hx, hb, hml, hown, hts, hr, hlk, hK, had, hSt⟩ := id C
  intro H locs ls hl hP hS
  unfold fX11_owed_s59 at hf
  refine lv_iconst (v := 0) hx hb dX11_owed_59 (by decide) ?_
  exact wX11_owed_s60 C n v1 v2 0 st res hf H locs ls (lv_sub hl [0, 1, 2] rfl) hP hS
def fX11_owed_s55 (n : Nat)   (v1 : Int32) (v2 : Int32) (st : St) : Option (Int32 × St) := fX11_owed_s60 n v1 v2 1 st
set_option maxHeartbeats 4000000 in
set_option maxRecDepth 100000 in
theorem wX11_owed_s55 (C : Cx p s m args meth c cX11_owed 4 wsL_law RX11 (some .int) D G ad) (n : Nat)   (v1 : Int32) (v2 : Int32)   (st : St) (res : (Int32 × St))  (hf : fX11_owed_s55 n   v1 v2 st = some res) : At p l e (rmK 2) s m args below meth c D G ad (MQI D G ad below args s res) 4 st [(0, .ref (ad 130)), (1, .int v1), (2, .int v2)] 55 [] := by
  obtain ⟨hx, hb, hml, hown, hts, hr, hlk, hK, had, hSt⟩ := id C
  intro H locs ls hl hP hS
  unfold fX11_owed_s55 at hf
  refine lv_iconst (v := 1) hx hb dX11_owed_55 (by decide) ?_
  refine lv_goto (tgt := 60) hx hb dX11_owed_56 (by decide) ?_
  exact wX11_owed_s60 C n v1 v2 1 st res hf H locs ls (lv_sub hl [0, 1, 2] rfl) hP hS
def fX11_owed_s45 (n : Nat)   (v1 : Int32) (v2 : Int32) (st : St) : Option (Int32 × St) := if inb v2 8 = true then (if (st.1 132 v2.toNatClampNeg) = v1 then fX11_owed_s55 n v1 v2 st else fX11_owed_s59 n v1 v2 st) else none
set_option maxHeartbeats 4000000 in
set_option maxRecDepth 100000 in
theorem wX11_owed_s45 (C : Cx p s m args meth c cX11_owed 4 wsL_law RX11 (some .int) D G ad) (n : Nat)   (v1 : Int32) (v2 : Int32)   (st : St) (res : (Int32 × St))  (hf : fX11_owed_s45 n   v1 v2 st = some res) : At p l e (rmK 2) s m args below meth c D G ad (MQI D G ad below args s res) 4 st [(0, .ref (ad 130)), (1, .int v1), (2, .int v2)] 45 [] := by
  obtain ⟨hx, hb, hml, hown, hts, hr, hlk, hK, had, hSt⟩ := id C
  intro H locs ls hl hP hS
  unfold fX11_owed_s45 at hf
  refine lv_aload_n hx hb dX11_owed_45 rfl (lv_at hl 0 rfl) ?_
  refine g_getR hx hb hts inlX11 hown hK hP 130 ct_130 rfl 2 (by decide) (hts _ wm_7_3) rfl dX11_owed_46 ?_
  refine lv_iload_n hx hb dX11_owed_49 rfl (lv_at hl 2 rfl) ?_
  obtain ⟨g1, hf⟩ := gd hf
  refine g_iald hx hb hK hP 132 ct_132 g1 dX11_owed_50 ?_
  refine lv_iload_n hx hb dX11_owed_51 rfl (lv_at hl 1 rfl) ?_
  refine lv_icmp_ne (tgt := 59) hx hb dX11_owed_52 (by decide) (fun q => ?_) (fun q => ?_)
  · exact wX11_owed_s59 C n v1 v2 st res (ie hf q) H locs ls (lv_sub hl [0, 1, 2] rfl) hP hS
  · exact wX11_owed_s55 C n v1 v2 st res (it hf q) H locs ls (lv_sub hl [0, 1, 2] rfl) hP hS
def fX11_owed_s41 (n : Nat)   (v1 : Int32) (v2 : Int32) (st : St) : Option (Int32 × St) := if v2 = 0 then fX11_owed_s59 n v1 v2 st else fX11_owed_s45 n v1 v2 st
set_option maxHeartbeats 4000000 in
set_option maxRecDepth 100000 in
theorem wX11_owed_s41 (C : Cx p s m args meth c cX11_owed 4 wsL_law RX11 (some .int) D G ad) (n : Nat)   (v1 : Int32) (v2 : Int32)   (st : St) (res : (Int32 × St))  (hf : fX11_owed_s41 n   v1 v2 st = some res) : At p l e (rmK 2) s m args below meth c D G ad (MQI D G ad below args s res) 4 st [(0, .ref (ad 130)), (1, .int v1), (2, .int v2)] 41 [] := by
  obtain ⟨hx, hb, hml, hown, hts, hr, hlk, hK, had, hSt⟩ := id C
  intro H locs ls hl hP hS
  unfold fX11_owed_s41 at hf
  refine lv_iload_n hx hb dX11_owed_41 rfl (lv_at hl 2 rfl) ?_
  refine lv_if_eq (tgt := 59) hx hb dX11_owed_42 (by decide) (fun q => ?_) (fun q => ?_)
  · exact wX11_owed_s59 C n v1 v2 st res (it hf q) H locs ls (lv_sub hl [0, 1, 2] rfl) hP hS
  · exact wX11_owed_s45 C n v1 v2 st res (ie hf q) H locs ls (lv_sub hl [0, 1, 2] rfl) hP hS
def fX11_owed_s37 (n : Nat)   (v1 : Int32) (v2 : Int32) (st : St) : Option (Int32 × St) := fX11_owed_s60 n v1 v2 0 st
set_option maxHeartbeats 4000000 in
set_option maxRecDepth 100000 in
theorem wX11_owed_s37 (C : Cx p s m args meth c cX11_owed 4 wsL_law RX11 (some .int) D G ad) (n : Nat)   (v1 : Int32) (v2 : Int32)   (st : St) (res : (Int32 × St))  (hf : fX11_owed_s37 n   v1 v2 st = some res) : At p l e (rmK 2) s m args below meth c D G ad (MQI D G ad below args s res) 4 st [(0, .ref (ad 130)), (1, .int v1), (2, .int v2)] 37 [] := by
  obtain ⟨hx, hb, hml, hown, hts, hr, hlk, hK, had, hSt⟩ := id C
  intro H locs ls hl hP hS
  unfold fX11_owed_s37 at hf
  refine lv_iconst (v := 0) hx hb dX11_owed_37 (by decide) ?_
  refine lv_goto (tgt := 60) hx hb dX11_owed_38 (by decide) ?_
  exact wX11_owed_s60 C n v1 v2 0 st res hf H locs ls (lv_sub hl [0, 1, 2] rfl) hP hS
def fX11_owed_s33 (n : Nat)   (v1 : Int32) (v2 : Int32) (st : St) : Option (Int32 × St) := fX11_owed_s60 n v1 v2 1 st
set_option maxHeartbeats 4000000 in
set_option maxRecDepth 100000 in
theorem wX11_owed_s33 (C : Cx p s m args meth c cX11_owed 4 wsL_law RX11 (some .int) D G ad) (n : Nat)   (v1 : Int32) (v2 : Int32)   (st : St) (res : (Int32 × St))  (hf : fX11_owed_s33 n   v1 v2 st = some res) : At p l e (rmK 2) s m args below meth c D G ad (MQI D G ad below args s res) 4 st [(0, .ref (ad 130)), (1, .int v1), (2, .int v2)] 33 [] := by
  obtain ⟨hx, hb, hml, hown, hts, hr, hlk, hK, had, hSt⟩ := id C
  intro H locs ls hl hP hS
  unfold fX11_owed_s33 at hf
  refine lv_iconst (v := 1) hx hb dX11_owed_33 (by decide) ?_
  refine lv_goto (tgt := 60) hx hb dX11_owed_34 (by decide) ?_
  exact wX11_owed_s60 C n v1 v2 1 st res hf H locs ls (lv_sub hl [0, 1, 2] rfl) hP hS
def fX11_owed_s28 (n : Nat)   (v1 : Int32) (v2 : Int32) (st : St) : Option (Int32 × St) := if v2 = v1 then fX11_owed_s33 n v1 v2 st else fX11_owed_s37 n v1 v2 st
set_option maxHeartbeats 4000000 in
set_option maxRecDepth 100000 in
theorem wX11_owed_s28 (C : Cx p s m args meth c cX11_owed 4 wsL_law RX11 (some .int) D G ad) (n : Nat)   (v1 : Int32) (v2 : Int32)   (st : St) (res : (Int32 × St))  (hf : fX11_owed_s28 n   v1 v2 st = some res) : At p l e (rmK 2) s m args below meth c D G ad (MQI D G ad below args s res) 4 st [(0, .ref (ad 130)), (1, .int v1), (2, .int v2)] 28 [] := by
  obtain ⟨hx, hb, hml, hown, hts, hr, hlk, hK, had, hSt⟩ := id C
  intro H locs ls hl hP hS
  unfold fX11_owed_s28 at hf
  refine lv_iload_n hx hb dX11_owed_28 rfl (lv_at hl 2 rfl) ?_
  refine lv_iload_n hx hb dX11_owed_29 rfl (lv_at hl 1 rfl) ?_
  refine lv_icmp_ne (tgt := 37) hx hb dX11_owed_30 (by decide) (fun q => ?_) (fun q => ?_)
  · exact wX11_owed_s37 C n v1 v2 st res (ie hf q) H locs ls (lv_sub hl [0, 1, 2] rfl) hP hS
  · exact wX11_owed_s33 C n v1 v2 st res (it hf q) H locs ls (lv_sub hl [0, 1, 2] rfl) hP hS
def fX11_owed_s18 (n : Nat)   (v1 : Int32) (v2 : Int32) (st : St) : Option (Int32 × St) := if inb v1 8 = true then (if (st.1 131 v1.toNatClampNeg) = 3 then fX11_owed_s28 n v1 v2 st else fX11_owed_s41 n v1 v2 st) else none
set_option maxHeartbeats 4000000 in
set_option maxRecDepth 100000 in
theorem wX11_owed_s18 (C : Cx p s m args meth c cX11_owed 4 wsL_law RX11 (some .int) D G ad) (n : Nat)   (v1 : Int32) (v2 : Int32)   (st : St) (res : (Int32 × St))  (hf : fX11_owed_s18 n   v1 v2 st = some res) : At p l e (rmK 2) s m args below meth c D G ad (MQI D G ad below args s res) 4 st [(0, .ref (ad 130)), (1, .int v1), (2, .int v2)] 18 [] := by
  obtain ⟨hx, hb, hml, hown, hts, hr, hlk, hK, had, hSt⟩ := id C
  intro H locs ls hl hP hS
  unfold fX11_owed_s18 at hf
  refine lv_aload_n hx hb dX11_owed_18 rfl (lv_at hl 0 rfl) ?_
  refine g_getR hx hb hts inlX11 hown hK hP 130 ct_130 rfl 1 (by decide) (hts _ wm_7_2) rfl dX11_owed_19 ?_
  refine lv_iload_n hx hb dX11_owed_22 rfl (lv_at hl 1 rfl) ?_
  obtain ⟨g1, hf⟩ := gd hf
  refine g_iald hx hb hK hP 131 ct_131 g1 dX11_owed_23 ?_
  refine lv_iconst (v := 3) hx hb dX11_owed_24 (by decide) ?_
  refine lv_icmp_ne (tgt := 41) hx hb dX11_owed_25 (by decide) (fun q => ?_) (fun q => ?_)
  · exact wX11_owed_s41 C n v1 v2 st res (ie hf q) H locs ls (lv_sub hl [0, 1, 2] rfl) hP hS
  · exact wX11_owed_s28 C n v1 v2 st res (it hf q) H locs ls (lv_sub hl [0, 1, 2] rfl) hP hS
def fX11_owed_s13 (n : Nat)   (v1 : Int32) (v2 : Int32) (k0 : Int32) (st : St) : Option (Int32 × St) := if k0 = 0 then fX11_owed_s16 n st else fX11_owed_s18 n v1 v2 st
set_option maxHeartbeats 4000000 in
set_option maxRecDepth 100000 in
theorem wX11_owed_s13 (C : Cx p s m args meth c cX11_owed 4 wsL_law RX11 (some .int) D G ad) (n : Nat)   (v1 : Int32) (v2 : Int32) (k0 : Int32)   (st : St) (res : (Int32 × St))  (hf : fX11_owed_s13 n   v1 v2 k0 st = some res) : At p l e (rmK 2) s m args below meth c D G ad (MQI D G ad below args s res) 4 st [(0, .ref (ad 130)), (1, .int v1), (2, .int v2)] 13 [.int k0] := by
  obtain ⟨hx, hb, hml, hown, hts, hr, hlk, hK, had, hSt⟩ := id C
  intro H locs ls hl hP hS
  unfold fX11_owed_s13 at hf
  refine lv_if_ne (tgt := 18) hx hb dX11_owed_13 (by decide) (fun q => ?_) (fun q => ?_)
  · exact wX11_owed_s18 C n v1 v2 st res (ie hf q) H locs ls (lv_sub hl [0, 1, 2] rfl) hP hS
  · exact wX11_owed_s16 C n st res (it hf q) H locs ls (lv_sub hl [] rfl) hP hS
def fX11_owed_s8 (n : Nat)   (v1 : Int32) (v2 : Int32) (st : St) : Option (Int32 × St) := (fX11_isStage n v2 st).bind (fun q => fX11_owed_s13 n v1 v2 q.1 q.2)
set_option maxHeartbeats 4000000 in
set_option maxRecDepth 100000 in
theorem wX11_owed_s8 (C : Cx p s m args meth c cX11_owed 4 wsL_law RX11 (some .int) D G ad) (n : Nat)   (v1 : Int32) (v2 : Int32)   (st : St) (res : (Int32 × St))  (hf : fX11_owed_s8 n   v1 v2 st = some res) : At p l e (rmK 2) s m args below meth c D G ad (MQI D G ad below args s res) 4 st [(0, .ref (ad 130)), (1, .int v1), (2, .int v2)] 8 [] := by
  obtain ⟨hx, hb, hml, hown, hts, hr, hlk, hK, had, hSt⟩ := id C
  intro H locs ls hl hP hS
  unfold fX11_owed_s8 at hf
  refine lv_aload_n hx hb dX11_owed_8 rfl (lv_at hl 0 rfl) ?_
  refine lv_iload_n hx hb dX11_owed_9 rfl (lv_at hl 2 rfl) ?_
  obtain ⟨q, hq, hf⟩ := bd hf
  refine gcV_i (k := 1) (o := 130) (As := [.int v2]) (rest := []) hx hb hml hown hts hK hSt hP hS hl.1 (goodV wm_10_17 wm_10_18 wm_10_19 wm_1_5 wm_10_20) okX11_isStage ct_130 rfl rfl (Nat.le_of_ble_eq_true rfl) (Nat.le_of_ble_eq_true rfl) rfl rfl (Nat.le_of_ble_eq_true rfl) dX11_owed_10 (kX11_isStage l D G ad had n  v2 st q hq) (fun H locs hP hS => ?_)
  exact wX11_owed_s13 C n v1 v2 q.1 q.2 res hf H locs ls (lv_sub hl [0, 1, 2] rfl) hP hS
def fX11_owed_s5 (n : Nat)   (v1 : Int32) (v2 : Int32) (k0 : Int32) (st : St) : Option (Int32 × St) := if k0 = 0 then fX11_owed_s16 n st else fX11_owed_s8 n v1 v2 st
set_option maxHeartbeats 4000000 in
set_option maxRecDepth 100000 in
theorem wX11_owed_s5 (C : Cx p s m args meth c cX11_owed 4 wsL_law RX11 (some .int) D G ad) (n : Nat)   (v1 : Int32) (v2 : Int32) (k0 : Int32)   (st : St) (res : (Int32 × St))  (hf : fX11_owed_s5 n   v1 v2 k0 st = some res) : At p l e (rmK 2) s m args below meth c D G ad (MQI D G ad below args s res) 4 st [(0, .ref (ad 130)), (1, .int v1), (2, .int v2)] 5 [.int k0] := by
  obtain ⟨hx, hb, hml, hown, hts, hr, hlk, hK, had, hSt⟩ := id C
  intro H locs ls hl hP hS
  unfold fX11_owed_s5 at hf
  refine lv_if_eq (tgt := 16) hx hb dX11_owed_5 (by decide) (fun q => ?_) (fun q => ?_)
  · exact wX11_owed_s16 C n st res (it hf q) H locs ls (lv_sub hl [] rfl) hP hS
  · exact wX11_owed_s8 C n v1 v2 st res (ie hf q) H locs ls (lv_sub hl [0, 1, 2] rfl) hP hS
def fX11_owed_s0 (n : Nat)   (v1 : Int32) (v2 : Int32) (st : St) : Option (Int32 × St) := (fX11_isStage n v1 st).bind (fun q => fX11_owed_s5 n v1 v2 q.1 q.2)
set_option maxHeartbeats 4000000 in
set_option maxRecDepth 100000 in
theorem wX11_owed_s0 (C : Cx p s m args meth c cX11_owed 4 wsL_law RX11 (some .int) D G ad) (n : Nat)   (v1 : Int32) (v2 : Int32)   (st : St) (res : (Int32 × St))  (hf : fX11_owed_s0 n   v1 v2 st = some res) : At p l e (rmK 2) s m args below meth c D G ad (MQI D G ad below args s res) 4 st [(0, .ref (ad 130)), (1, .int v1), (2, .int v2)] 0 [] := by
  obtain ⟨hx, hb, hml, hown, hts, hr, hlk, hK, had, hSt⟩ := id C
  intro H locs ls hl hP hS
  unfold fX11_owed_s0 at hf
  refine lv_aload_n hx hb dX11_owed_0 rfl (lv_at hl 0 rfl) ?_
  refine lv_iload_n hx hb dX11_owed_1 rfl (lv_at hl 1 rfl) ?_
  obtain ⟨q, hq, hf⟩ := bd hf
  refine gcV_i (k := 1) (o := 130) (As := [.int v1]) (rest := []) hx hb hml hown hts hK hSt hP hS hl.1 (goodV wm_10_17 wm_10_18 wm_10_19 wm_1_5 wm_10_20) okX11_isStage ct_130 rfl rfl (Nat.le_of_ble_eq_true rfl) (Nat.le_of_ble_eq_true rfl) rfl rfl (Nat.le_of_ble_eq_true rfl) dX11_owed_2 (kX11_isStage l D G ad had n  v1 st q hq) (fun H locs hP hS => ?_)
  exact wX11_owed_s5 C n v1 v2 q.1 q.2 res hf H locs ls (lv_sub hl [0, 1, 2] rfl) hP hS
def fX11_owed (n : Nat)  (a1 : Int32) (a2 : Int32) (st : St) : Option (Int32 × St) := fX11_owed_s0 n a1 a2 st
theorem okX11_owed : okY yX11_owed RX11 2 := by unfold okY; decide +kernel
end
set_option maxRecDepth 100000 in
theorem kX11_owed (l : Launch) (D : va_G) (G : G3) (ad : Nat → Nat) (had : Adr ad) (n : Nat)   (a1 : Int32) (a2 : Int32) (st : St) (res : (Int32 × St)) (hf : fX11_owed n  a1 a2 st = some res) {sz : Nat} : CtI l yX11_owed (wsU yX11_owed cX11_owed 4 (some .int)) (rmK 2) D G ad sz [.ref (ad 130), .int a1, .int a2] st res := by
  refine Met.ofW (cc := cX11_owed) (maxL := 4) (ret := (some .int)) (by decide) rfl ?_
  intro p e s m args below meth c s₁ B hml hv
  obtain ⟨rfl, hsz, hP, hK, hSt⟩ := hv
  have hts := atoms_spec (ws := wsU yX11_owed cX11_owed 4 (some .int)) B.pre
  have C : Cx p s m _ meth c cX11_owed 4 wsL_law RX11 (some .int) D G ad := ⟨B.exec, B.bytes, hml, findClass_of_methodNamed B.named, fun w h => hts w (List.mem_cons_of_mem _ h), B.returns, B.notSynchronized, hK, had, hSt⟩
  subst hsz
  have hl := lv_entry ([.ref (ad 130), .int a1, .int a2]) (n := 4) (Nat.le_of_ble_eq_true rfl)
  rw [lg_entry_eq]
  generalize (lg_sl ([.ref (ad 130), .int a1, .int a2]) ++ List.replicate (4 - (lg_sl ([.ref (ad 130), .int a1, .int a2])).length) Slot.unset).toArray = ls at hl ⊢
  exact wX11_owed_s0 C n  a1 a2   st res hf s.heap [] ls (lv_sub hl [0, 1, 2] rfl) hP va_S.rf
section
variable {p : Program} {l : Launch} {e : Env} {s : State} {m : MethodId} {args : Array Value} {below : List Frame} {meth : Method} {c : Code} {D : va_G} {G : G3} {ad : Nat → Nat}
def fX11_cost_s20 (n : Nat)   (k0 : Int64) (st : St) : Option (Int64 × St) := some (k0, st)
set_option maxHeartbeats 4000000 in
set_option maxRecDepth 100000 in
theorem wX11_cost_s20 (C : Cx p s m args meth c cX11_cost 2 wsL_law RX11 (some .long) D G ad) (n : Nat)   (k0 : Int64)   (st : St) (res : (Int64 × St))  (hf : fX11_cost_s20 n   k0 st = some res) : At p l e (rmK 2) s m args below meth c D G ad (MQJ D G ad below args s res) 2 st [] 20 [.long k0] := by
  obtain ⟨hx, hb, hml, hown, hts, hr, hlk, hK, had, hSt⟩ := id C
  intro H locs ls hl hP hS
  unfold fX11_cost_s20 at hf
  exact g_lret hx hb hr hlk hP hS dX11_cost_20 hf
def fX11_cost_s17 (n : Nat)    (st : St) : Option (Int64 × St) := fX11_cost_s20 n (-9223372036854775808) st
set_option maxHeartbeats 4000000 in
set_option maxRecDepth 100000 in
theorem wX11_cost_s17 (C : Cx p s m args meth c cX11_cost 2 wsL_law RX11 (some .long) D G ad) (n : Nat)      (st : St) (res : (Int64 × St))  (hf : fX11_cost_s17 n    st = some res) : At p l e (rmK 2) s m args below meth c D G ad (MQJ D G ad below args s res) 2 st [] 17 [] := by
  obtain ⟨hx, hb, hml, hown, hts, hr, hlk, hK, had, hSt⟩ := id C
  intro H locs ls hl hP hS
  unfold fX11_cost_s17 at hf
  refine lv_ldc2 hx hb hown (hts _ wm_14_15) dX11_cost_17 ?_
  exact wX11_cost_s20 C n (-9223372036854775808) st res hf H locs ls (lv_sub hl [] rfl) hP hS
def fX11_cost_s8 (n : Nat)   (v1 : Int32) (st : St) : Option (Int64 × St) := if inb v1 8 = true then (fX11_cost_s20 n (st.2 145 v1.toNatClampNeg) st) else none
set_option maxHeartbeats 4000000 in
set_option maxRecDepth 100000 in
theorem wX11_cost_s8 (C : Cx p s m args meth c cX11_cost 2 wsL_law RX11 (some .long) D G ad) (n : Nat)   (v1 : Int32)   (st : St) (res : (Int64 × St))  (hf : fX11_cost_s8 n   v1 st = some res) : At p l e (rmK 2) s m args below meth c D G ad (MQJ D G ad below args s res) 2 st [(0, .ref (ad 130)), (1, .int v1)] 8 [] := by
  obtain ⟨hx, hb, hml, hown, hts, hr, hlk, hK, had, hSt⟩ := id C
  intro H locs ls hl hP hS
  unfold fX11_cost_s8 at hf
  refine lv_aload_n hx hb dX11_cost_8 rfl (lv_at hl 0 rfl) ?_
  refine g_getR hx hb hts inlX11 hown hK hP 130 ct_130 rfl 20 (by decide) (hts _ wm_7_16) rfl dX11_cost_9 ?_
  refine lv_iload_n hx hb dX11_cost_12 rfl (lv_at hl 1 rfl) ?_
  obtain ⟨g1, hf⟩ := gd hf
  refine g_lald hx hb hK hP 145 ct_145 g1 dX11_cost_13 ?_
  refine lv_goto (tgt := 20) hx hb dX11_cost_14 (by decide) ?_
  exact wX11_cost_s20 C n (st.2 145 v1.toNatClampNeg) st res hf H locs ls (lv_sub hl [] rfl) hP hS
def fX11_cost_s5 (n : Nat)   (v1 : Int32) (k0 : Int32) (st : St) : Option (Int64 × St) := if k0 = 0 then fX11_cost_s17 n st else fX11_cost_s8 n v1 st
set_option maxHeartbeats 4000000 in
set_option maxRecDepth 100000 in
theorem wX11_cost_s5 (C : Cx p s m args meth c cX11_cost 2 wsL_law RX11 (some .long) D G ad) (n : Nat)   (v1 : Int32) (k0 : Int32)   (st : St) (res : (Int64 × St))  (hf : fX11_cost_s5 n   v1 k0 st = some res) : At p l e (rmK 2) s m args below meth c D G ad (MQJ D G ad below args s res) 2 st [(0, .ref (ad 130)), (1, .int v1)] 5 [.int k0] := by
  obtain ⟨hx, hb, hml, hown, hts, hr, hlk, hK, had, hSt⟩ := id C
  intro H locs ls hl hP hS
  unfold fX11_cost_s5 at hf
  refine lv_if_eq (tgt := 17) hx hb dX11_cost_5 (by decide) (fun q => ?_) (fun q => ?_)
  · exact wX11_cost_s17 C n st res (it hf q) H locs ls (lv_sub hl [] rfl) hP hS
  · exact wX11_cost_s8 C n v1 st res (ie hf q) H locs ls (lv_sub hl [0, 1] rfl) hP hS
def fX11_cost_s0 (n : Nat)   (v1 : Int32) (st : St) : Option (Int64 × St) := (fX11_isStage n v1 st).bind (fun q => fX11_cost_s5 n v1 q.1 q.2)
set_option maxHeartbeats 4000000 in
set_option maxRecDepth 100000 in
theorem wX11_cost_s0 (C : Cx p s m args meth c cX11_cost 2 wsL_law RX11 (some .long) D G ad) (n : Nat)   (v1 : Int32)   (st : St) (res : (Int64 × St))  (hf : fX11_cost_s0 n   v1 st = some res) : At p l e (rmK 2) s m args below meth c D G ad (MQJ D G ad below args s res) 2 st [(0, .ref (ad 130)), (1, .int v1)] 0 [] := by
  obtain ⟨hx, hb, hml, hown, hts, hr, hlk, hK, had, hSt⟩ := id C
  intro H locs ls hl hP hS
  unfold fX11_cost_s0 at hf
  refine lv_aload_n hx hb dX11_cost_0 rfl (lv_at hl 0 rfl) ?_
  refine lv_iload_n hx hb dX11_cost_1 rfl (lv_at hl 1 rfl) ?_
  obtain ⟨q, hq, hf⟩ := bd hf
  refine gcV_i (k := 1) (o := 130) (As := [.int v1]) (rest := []) hx hb hml hown hts hK hSt hP hS hl.1 (goodV wm_10_17 wm_10_18 wm_10_19 wm_1_5 wm_10_20) okX11_isStage ct_130 rfl rfl (Nat.le_of_ble_eq_true rfl) (Nat.le_of_ble_eq_true rfl) rfl rfl (Nat.le_of_ble_eq_true rfl) dX11_cost_2 (kX11_isStage l D G ad had n  v1 st q hq) (fun H locs hP hS => ?_)
  exact wX11_cost_s5 C n v1 q.1 q.2 res hf H locs ls (lv_sub hl [0, 1] rfl) hP hS
def fX11_cost (n : Nat)  (a1 : Int32) (st : St) : Option (Int64 × St) := fX11_cost_s0 n a1 st
theorem okX11_cost : okY yX11_cost RX11 1 := by unfold okY; decide +kernel
end
set_option maxRecDepth 100000 in
theorem kX11_cost (l : Launch) (D : va_G) (G : G3) (ad : Nat → Nat) (had : Adr ad) (n : Nat)   (a1 : Int32) (st : St) (res : (Int64 × St)) (hf : fX11_cost n  a1 st = some res) {sz : Nat} : CtJ l yX11_cost (wsU yX11_cost cX11_cost 2 (some .long)) (rmK 2) D G ad sz [.ref (ad 130), .int a1] st res := by
  refine Met.ofW (cc := cX11_cost) (maxL := 2) (ret := (some .long)) (by decide) rfl ?_
  intro p e s m args below meth c s₁ B hml hv
  obtain ⟨rfl, hsz, hP, hK, hSt⟩ := hv
  have hts := atoms_spec (ws := wsU yX11_cost cX11_cost 2 (some .long)) B.pre
  have C : Cx p s m _ meth c cX11_cost 2 wsL_law RX11 (some .long) D G ad := ⟨B.exec, B.bytes, hml, findClass_of_methodNamed B.named, fun w h => hts w (List.mem_cons_of_mem _ h), B.returns, B.notSynchronized, hK, had, hSt⟩
  subst hsz
  have hl := lv_entry ([.ref (ad 130), .int a1]) (n := 2) (Nat.le_of_ble_eq_true rfl)
  rw [lg_entry_eq]
  generalize (lg_sl ([.ref (ad 130), .int a1]) ++ List.replicate (2 - (lg_sl ([.ref (ad 130), .int a1])).length) Slot.unset).toArray = ls at hl ⊢
  exact wX11_cost_s0 C n  a1   st res hf s.heap [] ls (lv_sub hl [0, 1] rfl) hP va_S.rf
section
variable {p : Program} {l : Launch} {e : Env} {s : State} {m : MethodId} {args : Array Value} {below : List Frame} {meth : Method} {c : Code} {D : va_G} {G : G3} {ad : Nat → Nat}
def fX11_kept_s36 (n : Nat)    (st : St) : Option (Int64 × St) := some (st.2 130 13, st)
set_option maxHeartbeats 4000000 in
set_option maxRecDepth 100000 in
theorem wX11_kept_s36 (C : Cx p s m args meth c cX11_kept 5 wsL_law RX11 (some .long) D G ad) (n : Nat)      (st : St) (res : (Int64 × St))  (hf : fX11_kept_s36 n    st = some res) : At p l e (rmK 1) s m args below meth c D G ad (MQJ D G ad below args s res) 5 st [(0, .ref (ad 130))] 36 [] := by
  obtain ⟨hx, hb, hml, hown, hts, hr, hlk, hK, had, hSt⟩ := id C
  intro H locs ls hl hP hS
  unfold fX11_kept_s36 at hf
  refine lv_aload_n hx hb dX11_kept_36 rfl (lv_at hl 0 rfl) ?_
  refine g_getJ hx hb hts inlX11 hown hK hP 130 ct_130 rfl 13 (by decide) (hts _ wm_16_14) rfl dX11_kept_37 ?_
  exact g_lret hx hb hr hlk hP hS dX11_kept_40 hf
def fX11_kept_s41 (n : Nat)    (st : St) : Option (Int64 × St) := some (st.2 130 11, st)
set_option maxHeartbeats 4000000 in
set_option maxRecDepth 100000 in
theorem wX11_kept_s41 (C : Cx p s m args meth c cX11_kept 5 wsL_law RX11 (some .long) D G ad) (n : Nat)      (st : St) (res : (Int64 × St))  (hf : fX11_kept_s41 n    st = some res) : At p l e (rmK 1) s m args below meth c D G ad (MQJ D G ad below args s res) 5 st [(0, .ref (ad 130))] 41 [] := by
  obtain ⟨hx, hb, hml, hown, hts, hr, hlk, hK, had, hSt⟩ := id C
  intro H locs ls hl hP hS
  unfold fX11_kept_s41 at hf
  refine lv_aload_n hx hb dX11_kept_41 rfl (lv_at hl 0 rfl) ?_
  refine g_getJ hx hb hts inlX11 hown hK hP 130 ct_130 rfl 11 (by decide) (hts _ wm_10_16) rfl dX11_kept_42 ?_
  exact g_lret hx hb hr hlk hP hS dX11_kept_45 hf
def fX11_kept_s46 (n : Nat)    (st : St) : Option (Int64 × St) := some (st.2 130 14, st)
set_option maxHeartbeats 4000000 in
set_option maxRecDepth 100000 in
theorem wX11_kept_s46 (C : Cx p s m args meth c cX11_kept 5 wsL_law RX11 (some .long) D G ad) (n : Nat)      (st : St) (res : (Int64 × St))  (hf : fX11_kept_s46 n    st = some res) : At p l e (rmK 1) s m args below meth c D G ad (MQJ D G ad below args s res) 5 st [(0, .ref (ad 130))] 46 [] := by
  obtain ⟨hx, hb, hml, hown, hts, hr, hlk, hK, had, hSt⟩ := id C
  intro H locs ls hl hP hS
  unfold fX11_kept_s46 at hf
  refine lv_aload_n hx hb dX11_kept_46 rfl (lv_at hl 0 rfl) ?_
  refine g_getJ hx hb hts inlX11 hown hK hP 130 ct_130 rfl 14 (by decide) (hts _ wm_16_15) rfl dX11_kept_47 ?_
  exact g_lret hx hb hr hlk hP hS dX11_kept_50 hf
def fX11_kept_s79 (n : Nat)   (v2 : Int64) (st : St) : Option (Int64 × St) := some (v2, st)
set_option maxHeartbeats 4000000 in
set_option maxRecDepth 100000 in
theorem wX11_kept_s79 (C : Cx p s m args meth c cX11_kept 5 wsL_law RX11 (some .long) D G ad) (n : Nat)   (v2 : Int64)   (st : St) (res : (Int64 × St))  (hf : fX11_kept_s79 n   v2 st = some res) : At p l e (rmK 1) s m args below meth c D G ad (MQJ D G ad below args s res) 5 st [(2, .long v2)] 79 [] := by
  obtain ⟨hx, hb, hml, hown, hts, hr, hlk, hK, had, hSt⟩ := id C
  intro H locs ls hl hP hS
  unfold fX11_kept_s79 at hf
  refine lv_lload_n hx hb dX11_kept_79 rfl (lv_at hl 0 rfl) ?_
  exact g_lret hx hb hr hlk hP hS dX11_kept_80 hf
def fX11_kept_s63 (n : Nat) (K54 : Int64 → Int32 → St → Option (Int64 × St))  (v2 : Int64) (v4 : Int32) (st : St) : Option (Int64 × St) := if inb v4 8 = true then (K54 (v2 + (st.2 141 v4.toNatClampNeg)) (v4 + 1) st) else none
set_option maxHeartbeats 4000000 in
set_option maxRecDepth 100000 in
theorem wX11_kept_s63 (C : Cx p s m args meth c cX11_kept 5 wsL_law RX11 (some .long) D G ad) (n : Nat) (K54 : Int64 → Int32 → St → Option (Int64 × St))  (v2 : Int64) (v4 : Int32)   (st : St) (res : (Int64 × St)) (hK54 : ∀ (v2 : Int64) (v4 : Int32) (st : St), K54 v2 v4 st = some res → At p l e (rmK 1) s m args below meth c D G ad (MQJ D G ad below args s res) 5 st [(0, .ref (ad 130)), (2, .long v2), (4, .int v4)] 54 []) (hf : fX11_kept_s63 n K54  v2 v4 st = some res) : At p l e (rmK 1) s m args below meth c D G ad (MQJ D G ad below args s res) 5 st [(0, .ref (ad 130)), (2, .long v2), (4, .int v4)] 63 [] := by
  obtain ⟨hx, hb, hml, hown, hts, hr, hlk, hK, had, hSt⟩ := id C
  intro H locs ls hl hP hS
  unfold fX11_kept_s63 at hf
  refine lv_lload_n hx hb dX11_kept_63 rfl (lv_at hl 1 rfl) ?_
  refine lv_aload_n hx hb dX11_kept_64 rfl (lv_at hl 0 rfl) ?_
  refine g_getR hx hb hts inlX11 hown hK hP 130 ct_130 rfl 16 (by decide) (hts _ wm_7_12) rfl dX11_kept_65 ?_
  refine lv_iload hx hb dX11_kept_68 (lv_at hl 2 rfl) ?_
  obtain ⟨g1, hf⟩ := gd hf
  refine g_lald hx hb hK hP 141 ct_141 g1 dX11_kept_70 ?_
  refine lv_ladd hx hb dX11_kept_71 ?_
  refine lv_lstore_n (lv' := [(2, .long (v2 + (st.2 141 v4.toNatClampNeg))), (0, .ref (ad 130)), (4, .int v4)]) hx hb dX11_kept_72 rfl hl (by decide) rfl (fun ls hl => ?_)
  refine lv_iinc (v := v4 + 1) (lv' := [(4, .int (v4 + 1)), (2, .long (v2 + (st.2 141 v4.toNatClampNeg))), (0, .ref (ad 130))]) hx hb dX11_kept_73 hl (k := 2) rfl rfl (by decide) rfl (fun ls hl => ?_)
  refine lv_goto (tgt := 54) hx hb dX11_kept_76 (by decide) ?_
  exact hK54 (v2 + (st.2 141 v4.toNatClampNeg)) (v4 + 1)  st hf H locs ls (lv_sub hl [2, 1, 0] rfl) hP hS
def fX11_kept_s54 (n : Nat) (K54 : Int64 → Int32 → St → Option (Int64 × St))  (v2 : Int64) (v4 : Int32) (st : St) : Option (Int64 × St) := if (st.1 130 0) ≤ v4 then fX11_kept_s79 n v2 st else fX11_kept_s63 n K54 v2 v4 st
set_option maxHeartbeats 4000000 in
set_option maxRecDepth 100000 in
theorem wX11_kept_s54 (C : Cx p s m args meth c cX11_kept 5 wsL_law RX11 (some .long) D G ad) (n : Nat) (K54 : Int64 → Int32 → St → Option (Int64 × St))  (v2 : Int64) (v4 : Int32)   (st : St) (res : (Int64 × St)) (hK54 : ∀ (v2 : Int64) (v4 : Int32) (st : St), K54 v2 v4 st = some res → At p l e (rmK 1) s m args below meth c D G ad (MQJ D G ad below args s res) 5 st [(0, .ref (ad 130)), (2, .long v2), (4, .int v4)] 54 []) (hf : fX11_kept_s54 n K54  v2 v4 st = some res) : At p l e (rmK 1) s m args below meth c D G ad (MQJ D G ad below args s res) 5 st [(0, .ref (ad 130)), (2, .long v2), (4, .int v4)] 54 [] := by
  obtain ⟨hx, hb, hml, hown, hts, hr, hlk, hK, had, hSt⟩ := id C
  intro H locs ls hl hP hS
  unfold fX11_kept_s54 at hf
  refine lv_iload hx hb dX11_kept_54 (lv_at hl 2 rfl) ?_
  refine lv_aload_n hx hb dX11_kept_56 rfl (lv_at hl 0 rfl) ?_
  refine g_getI hx hb hts inlX11 hown hK hP 130 ct_130 rfl 0 (by decide) (hts _ wm_10_11) rfl dX11_kept_57 ?_
  refine lv_icmp_ge (tgt := 79) hx hb dX11_kept_60 (by decide) (fun q => ?_) (fun q => ?_)
  · exact wX11_kept_s79 C n v2 st res (it hf q) H locs ls (lv_sub hl [1] rfl) hP hS
  · exact wX11_kept_s63 C n K54 v2 v4 st res hK54 (ie hf q) H locs ls (lv_sub hl [0, 1, 2] rfl) hP hS
def fX11_kept_L54 (n : Nat)   : Nat → Int64 → Int32 → St → Option (Int64 × St)
  | 0, _, _, _ => none
  | k + 1, v2, v4, st => fX11_kept_s54 n (fX11_kept_L54 n k)  v2 v4 st
theorem wX11_kept_L54 (C : Cx p s m args meth c cX11_kept 5 wsL_law RX11 (some .long) D G ad) (n : Nat)    (res : (Int64 × St))  : ∀ (k : Nat) (v2 : Int64) (v4 : Int32)  (st : St), fX11_kept_L54 n k v2 v4 st = some res → At p l e (rmK 1) s m args below meth c D G ad (MQJ D G ad below args s res) 5 st [(0, .ref (ad 130)), (2, .long v2), (4, .int v4)] 54 [] := by
  intro k
  induction k with
  | zero => intro v2 v4  st h; exact absurd h (by intro q; cases q)
  | succ k ih => intro v2 v4  st h; exact wX11_kept_s54 C n (fX11_kept_L54 n k)  v2 v4   st res ih h
def fX11_kept_s51 (n : Nat)   (v2 : Int64) (st : St) : Option (Int64 × St) := fX11_kept_L54 n n v2 0 st
set_option maxHeartbeats 4000000 in
set_option maxRecDepth 100000 in
theorem wX11_kept_s51 (C : Cx p s m args meth c cX11_kept 5 wsL_law RX11 (some .long) D G ad) (n : Nat)   (v2 : Int64)   (st : St) (res : (Int64 × St))  (hf : fX11_kept_s51 n   v2 st = some res) : At p l e (rmK 1) s m args below meth c D G ad (MQJ D G ad below args s res) 5 st [(0, .ref (ad 130)), (2, .long v2)] 51 [] := by
  obtain ⟨hx, hb, hml, hown, hts, hr, hlk, hK, had, hSt⟩ := id C
  intro H locs ls hl hP hS
  unfold fX11_kept_s51 at hf
  refine lv_iconst (v := 0) hx hb dX11_kept_51 (by decide) ?_
  refine lv_istore (lv' := [(4, .int 0), (0, .ref (ad 130)), (2, .long v2)]) hx hb dX11_kept_52 hl (by decide) rfl (fun ls hl => ?_)
  exact wX11_kept_L54 C n res n v2 0 st hf H locs ls (lv_sub hl [1, 2, 0] rfl) hP hS
def fX11_kept_s108 (n : Nat)   (v2 : Int64) (st : St) : Option (Int64 × St) := some (v2, st)
set_option maxHeartbeats 4000000 in
set_option maxRecDepth 100000 in
theorem wX11_kept_s108 (C : Cx p s m args meth c cX11_kept 5 wsL_law RX11 (some .long) D G ad) (n : Nat)   (v2 : Int64)   (st : St) (res : (Int64 × St))  (hf : fX11_kept_s108 n   v2 st = some res) : At p l e (rmK 1) s m args below meth c D G ad (MQJ D G ad below args s res) 5 st [(2, .long v2)] 108 [] := by
  obtain ⟨hx, hb, hml, hown, hts, hr, hlk, hK, had, hSt⟩ := id C
  intro H locs ls hl hP hS
  unfold fX11_kept_s108 at hf
  refine lv_lload_n hx hb dX11_kept_108 rfl (lv_at hl 0 rfl) ?_
  exact g_lret hx hb hr hlk hP hS dX11_kept_109 hf
def fX11_kept_s100 (n : Nat) (K84 : Int64 → Int32 → St → Option (Int64 × St))  (v4 : Int32) (k0 : Int64) (k1 : Int64) (st : St) : Option (Int64 × St) := K84 (k0 + k1) (v4 + 1) st
set_option maxHeartbeats 4000000 in
set_option maxRecDepth 100000 in
theorem wX11_kept_s100 (C : Cx p s m args meth c cX11_kept 5 wsL_law RX11 (some .long) D G ad) (n : Nat) (K84 : Int64 → Int32 → St → Option (Int64 × St))  (v4 : Int32) (k0 : Int64) (k1 : Int64)   (st : St) (res : (Int64 × St)) (hK84 : ∀ (v2 : Int64) (v4 : Int32) (st : St), K84 v2 v4 st = some res → At p l e (rmK 1) s m args below meth c D G ad (MQJ D G ad below args s res) 5 st [(0, .ref (ad 130)), (2, .long v2), (4, .int v4)] 84 []) (hf : fX11_kept_s100 n K84  v4 k0 k1 st = some res) : At p l e (rmK 1) s m args below meth c D G ad (MQJ D G ad below args s res) 5 st [(0, .ref (ad 130)), (4, .int v4)] 100 [.long k1, .long k0] := by
  obtain ⟨hx, hb, hml, hown, hts, hr, hlk, hK, had, hSt⟩ := id C
  intro H locs ls hl hP hS
  unfold fX11_kept_s100 at hf
  refine lv_ladd hx hb dX11_kept_100 ?_
  refine lv_lstore_n (lv' := [(2, .long (k0 + k1)), (0, .ref (ad 130)), (4, .int v4)]) hx hb dX11_kept_101 rfl hl (by decide) rfl (fun ls hl => ?_)
  refine lv_iinc (v := v4 + 1) (lv' := [(4, .int (v4 + 1)), (2, .long (k0 + k1)), (0, .ref (ad 130))]) hx hb dX11_kept_102 hl (k := 2) rfl rfl (by decide) rfl (fun ls hl => ?_)
  refine lv_goto (tgt := 84) hx hb dX11_kept_105 (by decide) ?_
  exact hK84 (k0 + k1) (v4 + 1)  st hf H locs ls (lv_sub hl [2, 1, 0] rfl) hP hS
def fX11_kept_s93 (n : Nat) (K84 : Int64 → Int32 → St → Option (Int64 × St))  (v2 : Int64) (v4 : Int32) (st : St) : Option (Int64 × St) := (fX11_onWay n v4 st).bind (fun q => fX11_kept_s100 n K84 v4 v2 q.1 q.2)
set_option maxHeartbeats 4000000 in
set_option maxRecDepth 100000 in
theorem wX11_kept_s93 (C : Cx p s m args meth c cX11_kept 5 wsL_law RX11 (some .long) D G ad) (n : Nat) (K84 : Int64 → Int32 → St → Option (Int64 × St))  (v2 : Int64) (v4 : Int32)   (st : St) (res : (Int64 × St)) (hK84 : ∀ (v2 : Int64) (v4 : Int32) (st : St), K84 v2 v4 st = some res → At p l e (rmK 1) s m args below meth c D G ad (MQJ D G ad below args s res) 5 st [(0, .ref (ad 130)), (2, .long v2), (4, .int v4)] 84 []) (hf : fX11_kept_s93 n K84  v2 v4 st = some res) : At p l e (rmK 1) s m args below meth c D G ad (MQJ D G ad below args s res) 5 st [(0, .ref (ad 130)), (2, .long v2), (4, .int v4)] 93 [] := by
  obtain ⟨hx, hb, hml, hown, hts, hr, hlk, hK, had, hSt⟩ := id C
  intro H locs ls hl hP hS
  unfold fX11_kept_s93 at hf
  refine lv_lload_n hx hb dX11_kept_93 rfl (lv_at hl 1 rfl) ?_
  refine lv_aload_n hx hb dX11_kept_94 rfl (lv_at hl 0 rfl) ?_
  refine lv_iload hx hb dX11_kept_95 (lv_at hl 2 rfl) ?_
  obtain ⟨q, hq, hf⟩ := bd hf
  refine gcV_j (k := 0) (o := 130) (As := [.int v4]) (rest := [.long v2]) hx hb hml hown hts hK hSt hP hS hl.1 (goodV wm_13_22 wm_13_23 wm_14_0 wm_1_5 wm_14_1) okX11_onWay ct_130 rfl rfl (Nat.le_of_ble_eq_true rfl) (Nat.le_of_ble_eq_true rfl) rfl rfl (Nat.le_of_ble_eq_true rfl) dX11_kept_97 (kX11_onWay l D G ad had n  v4 st q hq) (fun H locs hP hS => ?_)
  exact wX11_kept_s100 C n K84 v4 v2 q.1 q.2 res hK84 hf H locs ls (lv_sub hl [0, 2] rfl) hP hS
def fX11_kept_s84 (n : Nat) (K84 : Int64 → Int32 → St → Option (Int64 × St))  (v2 : Int64) (v4 : Int32) (st : St) : Option (Int64 × St) := if (st.1 130 0) ≤ v4 then fX11_kept_s108 n v2 st else fX11_kept_s93 n K84 v2 v4 st
set_option maxHeartbeats 4000000 in
set_option maxRecDepth 100000 in
theorem wX11_kept_s84 (C : Cx p s m args meth c cX11_kept 5 wsL_law RX11 (some .long) D G ad) (n : Nat) (K84 : Int64 → Int32 → St → Option (Int64 × St))  (v2 : Int64) (v4 : Int32)   (st : St) (res : (Int64 × St)) (hK84 : ∀ (v2 : Int64) (v4 : Int32) (st : St), K84 v2 v4 st = some res → At p l e (rmK 1) s m args below meth c D G ad (MQJ D G ad below args s res) 5 st [(0, .ref (ad 130)), (2, .long v2), (4, .int v4)] 84 []) (hf : fX11_kept_s84 n K84  v2 v4 st = some res) : At p l e (rmK 1) s m args below meth c D G ad (MQJ D G ad below args s res) 5 st [(0, .ref (ad 130)), (2, .long v2), (4, .int v4)] 84 [] := by
  obtain ⟨hx, hb, hml, hown, hts, hr, hlk, hK, had, hSt⟩ := id C
  intro H locs ls hl hP hS
  unfold fX11_kept_s84 at hf
  refine lv_iload hx hb dX11_kept_84 (lv_at hl 2 rfl) ?_
  refine lv_aload_n hx hb dX11_kept_86 rfl (lv_at hl 0 rfl) ?_
  refine g_getI hx hb hts inlX11 hown hK hP 130 ct_130 rfl 0 (by decide) (hts _ wm_10_11) rfl dX11_kept_87 ?_
  refine lv_icmp_ge (tgt := 108) hx hb dX11_kept_90 (by decide) (fun q => ?_) (fun q => ?_)
  · exact wX11_kept_s108 C n v2 st res (it hf q) H locs ls (lv_sub hl [1] rfl) hP hS
  · exact wX11_kept_s93 C n K84 v2 v4 st res hK84 (ie hf q) H locs ls (lv_sub hl [0, 1, 2] rfl) hP hS
def fX11_kept_L84 (n : Nat)   : Nat → Int64 → Int32 → St → Option (Int64 × St)
  | 0, _, _, _ => none
  | k + 1, v2, v4, st => fX11_kept_s84 n (fX11_kept_L84 n k)  v2 v4 st
theorem wX11_kept_L84 (C : Cx p s m args meth c cX11_kept 5 wsL_law RX11 (some .long) D G ad) (n : Nat)    (res : (Int64 × St))  : ∀ (k : Nat) (v2 : Int64) (v4 : Int32)  (st : St), fX11_kept_L84 n k v2 v4 st = some res → At p l e (rmK 1) s m args below meth c D G ad (MQJ D G ad below args s res) 5 st [(0, .ref (ad 130)), (2, .long v2), (4, .int v4)] 84 [] := by
  intro k
  induction k with
  | zero => intro v2 v4  st h; exact absurd h (by intro q; cases q)
  | succ k ih => intro v2 v4  st h; exact wX11_kept_s84 C n (fX11_kept_L84 n k)  v2 v4   st res ih h
def fX11_kept_s81 (n : Nat)   (v2 : Int64) (st : St) : Option (Int64 × St) := fX11_kept_L84 n n v2 0 st
set_option maxHeartbeats 4000000 in
set_option maxRecDepth 100000 in
theorem wX11_kept_s81 (C : Cx p s m args meth c cX11_kept 5 wsL_law RX11 (some .long) D G ad) (n : Nat)   (v2 : Int64)   (st : St) (res : (Int64 × St))  (hf : fX11_kept_s81 n   v2 st = some res) : At p l e (rmK 1) s m args below meth c D G ad (MQJ D G ad below args s res) 5 st [(0, .ref (ad 130)), (2, .long v2)] 81 [] := by
  obtain ⟨hx, hb, hml, hown, hts, hr, hlk, hK, had, hSt⟩ := id C
  intro H locs ls hl hP hS
  unfold fX11_kept_s81 at hf
  refine lv_iconst (v := 0) hx hb dX11_kept_81 (by decide) ?_
  refine lv_istore (lv' := [(4, .int 0), (0, .ref (ad 130)), (2, .long v2)]) hx hb dX11_kept_82 hl (by decide) rfl (fun ls hl => ?_)
  exact wX11_kept_L84 C n res n v2 0 st hf H locs ls (lv_sub hl [1, 2, 0] rfl) hP hS
def fX11_kept_s110 (n : Nat)    (st : St) : Option (Int64 × St) := some ((-9223372036854775808), st)
set_option maxHeartbeats 4000000 in
set_option maxRecDepth 100000 in
theorem wX11_kept_s110 (C : Cx p s m args meth c cX11_kept 5 wsL_law RX11 (some .long) D G ad) (n : Nat)      (st : St) (res : (Int64 × St))  (hf : fX11_kept_s110 n    st = some res) : At p l e (rmK 1) s m args below meth c D G ad (MQJ D G ad below args s res) 5 st [] 110 [] := by
  obtain ⟨hx, hb, hml, hown, hts, hr, hlk, hK, had, hSt⟩ := id C
  intro H locs ls hl hP hS
  unfold fX11_kept_s110 at hf
  refine lv_ldc2 hx hb hown (hts _ wm_14_15) dX11_kept_110 ?_
  exact g_lret hx hb hr hlk hP hS dX11_kept_113 hf
def fX11_kept_s0 (n : Nat)   (v1 : Int32) (st : St) : Option (Int64 × St) := if v1 = 0 then fX11_kept_s36 n st else if v1 = 1 then fX11_kept_s41 n st else if v1 = 2 then fX11_kept_s46 n st else if v1 = 3 then fX11_kept_s51 n 0 st else if v1 = 4 then fX11_kept_s81 n 0 st else fX11_kept_s110 n st
set_option maxHeartbeats 4000000 in
set_option maxRecDepth 100000 in
theorem wX11_kept_s0 (C : Cx p s m args meth c cX11_kept 5 wsL_law RX11 (some .long) D G ad) (n : Nat)   (v1 : Int32)   (st : St) (res : (Int64 × St))  (hf : fX11_kept_s0 n   v1 st = some res) : At p l e (rmK 1) s m args below meth c D G ad (MQJ D G ad below args s res) 5 st [(0, .ref (ad 130)), (1, .int v1)] 0 [] := by
  obtain ⟨hx, hb, hml, hown, hts, hr, hlk, hK, had, hSt⟩ := id C
  intro H locs ls hl hP hS
  unfold fX11_kept_s0 at hf
  refine lv_lconst (v := 0) hx hb dX11_kept_0 (by decide) ?_
  refine lv_lstore_n (lv' := [(2, .long 0), (0, .ref (ad 130)), (1, .int v1)]) hx hb dX11_kept_1 rfl hl (by decide) rfl (fun ls hl => ?_)
  refine lv_iload_n hx hb dX11_kept_2 rfl (lv_at hl 2 rfl) ?_
  by_cases q : v1 = 0
  · rw [q]
    refine lv_tableIn (tgt := 36) hx hb dX11_kept_3 (by decide) (by decide) rfl (by decide) ?_
    exact wX11_kept_s36 C n st res (it hf q) H locs ls (lv_sub hl [1] rfl) hP hS
  replace hf := ie hf q
  have q0 := q
  clear q
  by_cases q : v1 = 1
  · rw [q]
    refine lv_tableIn (tgt := 41) hx hb dX11_kept_3 (by decide) (by decide) rfl (by decide) ?_
    exact wX11_kept_s41 C n st res (it hf q) H locs ls (lv_sub hl [1] rfl) hP hS
  replace hf := ie hf q
  have q1 := q
  clear q
  by_cases q : v1 = 2
  · rw [q]
    refine lv_tableIn (tgt := 46) hx hb dX11_kept_3 (by decide) (by decide) rfl (by decide) ?_
    exact wX11_kept_s46 C n st res (it hf q) H locs ls (lv_sub hl [1] rfl) hP hS
  replace hf := ie hf q
  have q2 := q
  clear q
  by_cases q : v1 = 3
  · rw [q]
    refine lv_tableIn (tgt := 51) hx hb dX11_kept_3 (by decide) (by decide) rfl (by decide) ?_
    exact wX11_kept_s51 C n 0 st res (it hf q) H locs ls (lv_sub hl [1, 0] rfl) hP hS
  replace hf := ie hf q
  have q3 := q
  clear q
  by_cases q : v1 = 4
  · rw [q]
    refine lv_tableIn (tgt := 81) hx hb dX11_kept_3 (by decide) (by decide) rfl (by decide) ?_
    exact wX11_kept_s81 C n 0 st res (it hf q) H locs ls (lv_sub hl [1, 0] rfl) hP hS
  replace hf := ie hf q
  have q4 := q
  clear q
  have qo : v1.toInt < 0 ∨ 4 < v1.toInt := by
    refine Classical.byContradiction (fun w => ?_)
    have w : v1.toInt = 0 ∨ v1.toInt = 1 ∨ v1.toInt = 2 ∨ v1.toInt = 3 ∨ v1.toInt = 4 := by omega
    rcases w with w | w | w | w | w
    · exact q0 (Int32.toInt_inj.mp (w.trans (by decide)))
    · exact q1 (Int32.toInt_inj.mp (w.trans (by decide)))
    · exact q2 (Int32.toInt_inj.mp (w.trans (by decide)))
    · exact q3 (Int32.toInt_inj.mp (w.trans (by decide)))
    · exact q4 (Int32.toInt_inj.mp (w.trans (by decide)))
  refine lv_tableOut (tgt := 110) hx hb dX11_kept_3 qo (by decide) ?_
  exact wX11_kept_s110 C n st res hf H locs ls (lv_sub hl [] rfl) hP hS
def fX11_kept (n : Nat)  (a1 : Int32) (st : St) : Option (Int64 × St) := fX11_kept_s0 n a1 st
theorem okX11_kept : okY yX11_kept RX11 1 := by unfold okY; decide +kernel
end
set_option maxRecDepth 100000 in
theorem kX11_kept (l : Launch) (D : va_G) (G : G3) (ad : Nat → Nat) (had : Adr ad) (n : Nat)   (a1 : Int32) (st : St) (res : (Int64 × St)) (hf : fX11_kept n  a1 st = some res) {sz : Nat} : CtJ l yX11_kept (wsU yX11_kept cX11_kept 5 (some .long)) (rmK 1) D G ad sz [.ref (ad 130), .int a1] st res := by
  refine Met.ofW (cc := cX11_kept) (maxL := 5) (ret := (some .long)) (by decide) rfl ?_
  intro p e s m args below meth c s₁ B hml hv
  obtain ⟨rfl, hsz, hP, hK, hSt⟩ := hv
  have hts := atoms_spec (ws := wsU yX11_kept cX11_kept 5 (some .long)) B.pre
  have C : Cx p s m _ meth c cX11_kept 5 wsL_law RX11 (some .long) D G ad := ⟨B.exec, B.bytes, hml, findClass_of_methodNamed B.named, fun w h => hts w (List.mem_cons_of_mem _ h), B.returns, B.notSynchronized, hK, had, hSt⟩
  subst hsz
  have hl := lv_entry ([.ref (ad 130), .int a1]) (n := 5) (Nat.le_of_ble_eq_true rfl)
  rw [lg_entry_eq]
  generalize (lg_sl ([.ref (ad 130), .int a1]) ++ List.replicate (5 - (lg_sl ([.ref (ad 130), .int a1])).length) Slot.unset).toArray = ls at hl ⊢
  exact wX11_kept_s0 C n  a1   st res hf s.heap [] ls (lv_sub hl [0, 1] rfl) hP va_S.rf
section
variable {p : Program} {l : Launch} {e : Env} {s : State} {m : MethodId} {args : Array Value} {below : List Frame} {meth : Method} {c : Code} {D : va_G} {G : G3} {ad : Nat → Nat}
def fX11_demand_s39 (n : Nat)   (v3 : Int32) (st : St) : Option (Int32 × St) := some (v3, st)
set_option maxHeartbeats 4000000 in
set_option maxRecDepth 100000 in
theorem wX11_demand_s39 (C : Cx p s m args meth c cX11_demand 4 wsL_law RX11 (some .int) D G ad) (n : Nat)   (v3 : Int32)   (st : St) (res : (Int32 × St))  (hf : fX11_demand_s39 n   v3 st = some res) : At p l e (rmK 3) s m args below meth c D G ad (MQI D G ad below args s res) 4 st [(3, .int v3)] 39 [] := by
  obtain ⟨hx, hb, hml, hown, hts, hr, hlk, hK, had, hSt⟩ := id C
  intro H locs ls hl hP hS
  unfold fX11_demand_s39 at hf
  refine lv_iload_n hx hb dX11_demand_39 rfl (lv_at hl 0 rfl) ?_
  exact g_iret hx hb hr hlk hP hS dX11_demand_40 hf
def fX11_demand_s25 (n : Nat)   (v1 : Int32) (v2 : Int32) (st : St) : Option (Int32 × St) := if inb v1 8 = true then (if inb v1 8 = true then (fX11_demand_s39 n (st.1 140 v1.toNatClampNeg) (setI st 140 v1.toNatClampNeg v2)) else none) else none
set_option maxHeartbeats 4000000 in
set_option maxRecDepth 100000 in
theorem wX11_demand_s25 (C : Cx p s m args meth c cX11_demand 4 wsL_law RX11 (some .int) D G ad) (n : Nat)   (v1 : Int32) (v2 : Int32)   (st : St) (res : (Int32 × St))  (hf : fX11_demand_s25 n   v1 v2 st = some res) : At p l e (rmK 3) s m args below meth c D G ad (MQI D G ad below args s res) 4 st [(0, .ref (ad 130)), (1, .int v1), (2, .int v2)] 25 [] := by
  obtain ⟨hx, hb, hml, hown, hts, hr, hlk, hK, had, hSt⟩ := id C
  intro H locs ls hl hP hS
  unfold fX11_demand_s25 at hf
  refine lv_aload_n hx hb dX11_demand_25 rfl (lv_at hl 0 rfl) ?_
  refine g_getR hx hb hts inlX11 hown hK hP 130 ct_130 rfl 15 (by decide) (hts _ wm_7_11) rfl dX11_demand_26 ?_
  refine lv_iload_n hx hb dX11_demand_29 rfl (lv_at hl 1 rfl) ?_
  obtain ⟨g1, hf⟩ := gd hf
  refine g_iald hx hb hK hP 140 ct_140 g1 dX11_demand_30 ?_
  refine lv_istore_n (lv' := [(3, .int (st.1 140 v1.toNatClampNeg)), (0, .ref (ad 130)), (1, .int v1), (2, .int v2)]) hx hb dX11_demand_31 rfl hl (by decide) rfl (fun ls hl => ?_)
  refine lv_aload_n hx hb dX11_demand_32 rfl (lv_at hl 1 rfl) ?_
  refine g_getR hx hb hts inlX11 hown hK hP 130 ct_130 rfl 15 (by decide) (hts _ wm_7_11) rfl dX11_demand_33 ?_
  refine lv_iload_n hx hb dX11_demand_36 rfl (lv_at hl 2 rfl) ?_
  refine lv_iload_n hx hb dX11_demand_37 rfl (lv_at hl 3 rfl) ?_
  obtain ⟨g2, hf⟩ := gd hf
  refine g_iast hx hb hK had hP hS 140 ct_140 g2 dX11_demand_38 (fun H locs hP hS => ?_)
  exact wX11_demand_s39 C n (st.1 140 v1.toNatClampNeg) (setI st 140 v1.toNatClampNeg v2) res hf H locs ls (lv_sub hl [0] rfl) hP hS
def fX11_demand_s22 (n : Nat)    (st : St) : Option (Int32 × St) := some ((-2), st)
set_option maxHeartbeats 4000000 in
set_option maxRecDepth 100000 in
theorem wX11_demand_s22 (C : Cx p s m args meth c cX11_demand 4 wsL_law RX11 (some .int) D G ad) (n : Nat)      (st : St) (res : (Int32 × St))  (hf : fX11_demand_s22 n    st = some res) : At p l e (rmK 3) s m args below meth c D G ad (MQI D G ad below args s res) 4 st [] 22 [] := by
  obtain ⟨hx, hb, hml, hown, hts, hr, hlk, hK, had, hSt⟩ := id C
  intro H locs ls hl hP hS
  unfold fX11_demand_s22 at hf
  refine lv_bipush (v := (-2)) hx hb dX11_demand_22 (by decide) ?_
  exact g_iret hx hb hr hlk hP hS dX11_demand_24 hf
def fX11_demand_s19 (n : Nat)   (v1 : Int32) (v2 : Int32) (k0 : Int32) (st : St) : Option (Int32 × St) := if k0 = 0 then fX11_demand_s22 n st else fX11_demand_s25 n v1 v2 st
set_option maxHeartbeats 4000000 in
set_option maxRecDepth 100000 in
theorem wX11_demand_s19 (C : Cx p s m args meth c cX11_demand 4 wsL_law RX11 (some .int) D G ad) (n : Nat)   (v1 : Int32) (v2 : Int32) (k0 : Int32)   (st : St) (res : (Int32 × St))  (hf : fX11_demand_s19 n   v1 v2 k0 st = some res) : At p l e (rmK 3) s m args below meth c D G ad (MQI D G ad below args s res) 4 st [(0, .ref (ad 130)), (1, .int v1), (2, .int v2)] 19 [.int k0] := by
  obtain ⟨hx, hb, hml, hown, hts, hr, hlk, hK, had, hSt⟩ := id C
  intro H locs ls hl hP hS
  unfold fX11_demand_s19 at hf
  refine lv_if_ne (tgt := 25) hx hb dX11_demand_19 (by decide) (fun q => ?_) (fun q => ?_)
  · exact wX11_demand_s25 C n v1 v2 st res (ie hf q) H locs ls (lv_sub hl [0, 1, 2] rfl) hP hS
  · exact wX11_demand_s22 C n st res (it hf q) H locs ls (lv_sub hl [] rfl) hP hS
def fX11_demand_s10 (n : Nat)   (v1 : Int32) (v2 : Int32) (st : St) : Option (Int32 × St) := (fX11_in n v2.toInt64 0 999 st).bind (fun q => fX11_demand_s19 n v1 v2 q.1 q.2)
set_option maxHeartbeats 4000000 in
set_option maxRecDepth 100000 in
theorem wX11_demand_s10 (C : Cx p s m args meth c cX11_demand 4 wsL_law RX11 (some .int) D G ad) (n : Nat)   (v1 : Int32) (v2 : Int32)   (st : St) (res : (Int32 × St))  (hf : fX11_demand_s10 n   v1 v2 st = some res) : At p l e (rmK 3) s m args below meth c D G ad (MQI D G ad below args s res) 4 st [(0, .ref (ad 130)), (1, .int v1), (2, .int v2)] 10 [] := by
  obtain ⟨hx, hb, hml, hown, hts, hr, hlk, hK, had, hSt⟩ := id C
  intro H locs ls hl hP hS
  unfold fX11_demand_s10 at hf
  refine lv_iload_n hx hb dX11_demand_10 rfl (lv_at hl 2 rfl) ?_
  refine lv_i2l hx hb dX11_demand_11 rfl ?_
  refine lv_lconst (v := 0) hx hb dX11_demand_12 (by decide) ?_
  refine lv_ldc2 hx hb hown (hts _ wm_17_0) dX11_demand_13 ?_
  obtain ⟨q, hq, hf⟩ := bd hf
  refine gcS_i (k := 0) (As := [.long v2.toInt64, .long 0, .long 999]) (rest := []) hx hb hml hown hts hK hSt hP hS hl.1 (goodS wm_10_21 wm_10_22 wm_1_5 wm_10_23) okX11_in (Nat.le_of_ble_eq_true rfl) (Nat.le_of_ble_eq_true rfl) rfl rfl (Nat.le_of_ble_eq_true rfl) dX11_demand_16 (kX11_in l D G ad had n  v2.toInt64 0 999 st q hq) (fun H locs hP hS => ?_)
  exact wX11_demand_s19 C n v1 v2 q.1 q.2 res hf H locs ls (lv_sub hl [0, 1, 2] rfl) hP hS
def fX11_demand_s8 (n : Nat)    (st : St) : Option (Int32 × St) := some ((-1), st)
set_option maxHeartbeats 4000000 in
set_option maxRecDepth 100000 in
theorem wX11_demand_s8 (C : Cx p s m args meth c cX11_demand 4 wsL_law RX11 (some .int) D G ad) (n : Nat)      (st : St) (res : (Int32 × St))  (hf : fX11_demand_s8 n    st = some res) : At p l e (rmK 3) s m args below meth c D G ad (MQI D G ad below args s res) 4 st [] 8 [] := by
  obtain ⟨hx, hb, hml, hown, hts, hr, hlk, hK, had, hSt⟩ := id C
  intro H locs ls hl hP hS
  unfold fX11_demand_s8 at hf
  refine lv_iconst (v := (-1)) hx hb dX11_demand_8 (by decide) ?_
  exact g_iret hx hb hr hlk hP hS dX11_demand_9 hf
def fX11_demand_s5 (n : Nat)   (v1 : Int32) (v2 : Int32) (k0 : Int32) (st : St) : Option (Int32 × St) := if k0 = 0 then fX11_demand_s8 n st else fX11_demand_s10 n v1 v2 st
set_option maxHeartbeats 4000000 in
set_option maxRecDepth 100000 in
theorem wX11_demand_s5 (C : Cx p s m args meth c cX11_demand 4 wsL_law RX11 (some .int) D G ad) (n : Nat)   (v1 : Int32) (v2 : Int32) (k0 : Int32)   (st : St) (res : (Int32 × St))  (hf : fX11_demand_s5 n   v1 v2 k0 st = some res) : At p l e (rmK 3) s m args below meth c D G ad (MQI D G ad below args s res) 4 st [(0, .ref (ad 130)), (1, .int v1), (2, .int v2)] 5 [.int k0] := by
  obtain ⟨hx, hb, hml, hown, hts, hr, hlk, hK, had, hSt⟩ := id C
  intro H locs ls hl hP hS
  unfold fX11_demand_s5 at hf
  refine lv_if_ne (tgt := 10) hx hb dX11_demand_5 (by decide) (fun q => ?_) (fun q => ?_)
  · exact wX11_demand_s10 C n v1 v2 st res (ie hf q) H locs ls (lv_sub hl [0, 1, 2] rfl) hP hS
  · exact wX11_demand_s8 C n st res (it hf q) H locs ls (lv_sub hl [] rfl) hP hS
def fX11_demand_s0 (n : Nat)   (v1 : Int32) (v2 : Int32) (st : St) : Option (Int32 × St) := (fX11_isShop n v1 st).bind (fun q => fX11_demand_s5 n v1 v2 q.1 q.2)
set_option maxHeartbeats 4000000 in
set_option maxRecDepth 100000 in
theorem wX11_demand_s0 (C : Cx p s m args meth c cX11_demand 4 wsL_law RX11 (some .int) D G ad) (n : Nat)   (v1 : Int32) (v2 : Int32)   (st : St) (res : (Int32 × St))  (hf : fX11_demand_s0 n   v1 v2 st = some res) : At p l e (rmK 3) s m args below meth c D G ad (MQI D G ad below args s res) 4 st [(0, .ref (ad 130)), (1, .int v1), (2, .int v2)] 0 [] := by
  obtain ⟨hx, hb, hml, hown, hts, hr, hlk, hK, had, hSt⟩ := id C
  intro H locs ls hl hP hS
  unfold fX11_demand_s0 at hf
  refine lv_aload_n hx hb dX11_demand_0 rfl (lv_at hl 0 rfl) ?_
  refine lv_iload_n hx hb dX11_demand_1 rfl (lv_at hl 1 rfl) ?_
  obtain ⟨q, hq, hf⟩ := bd hf
  refine gcV_i (k := 2) (o := 130) (As := [.int v1]) (rest := []) hx hb hml hown hts hK hSt hP hS hl.1 (goodV wm_17_1 wm_17_2 wm_17_3 wm_1_5 wm_17_4) okX11_isShop ct_130 rfl rfl (Nat.le_of_ble_eq_true rfl) (Nat.le_of_ble_eq_true rfl) rfl rfl (Nat.le_of_ble_eq_true rfl) dX11_demand_2 (kX11_isShop l D G ad had n  v1 st q hq) (fun H locs hP hS => ?_)
  exact wX11_demand_s5 C n v1 v2 q.1 q.2 res hf H locs ls (lv_sub hl [0, 1, 2] rfl) hP hS
def fX11_demand (n : Nat)  (a1 : Int32) (a2 : Int32) (st : St) : Option (Int32 × St) := fX11_demand_s0 n a1 a2 st
theorem okX11_demand : okY yX11_demand RX11 2 := by unfold okY; decide +kernel
end
set_option maxRecDepth 100000 in
theorem kX11_demand (l : Launch) (D : va_G) (G : G3) (ad : Nat → Nat) (had : Adr ad) (n : Nat)   (a1 : Int32) (a2 : Int32) (st : St) (res : (Int32 × St)) (hf : fX11_demand n  a1 a2 st = some res) {sz : Nat} : CtI l yX11_demand (wsU yX11_demand cX11_demand 4 (some .int)) (rmK 3) D G ad sz [.ref (ad 130), .int a1, .int a2] st res := by
  refine Met.ofW (cc := cX11_demand) (maxL := 4) (ret := (some .int)) (by decide) rfl ?_
  intro p e s m args below meth c s₁ B hml hv
  obtain ⟨rfl, hsz, hP, hK, hSt⟩ := hv
  have hts := atoms_spec (ws := wsU yX11_demand cX11_demand 4 (some .int)) B.pre
  have C : Cx p s m _ meth c cX11_demand 4 wsL_law RX11 (some .int) D G ad := ⟨B.exec, B.bytes, hml, findClass_of_methodNamed B.named, fun w h => hts w (List.mem_cons_of_mem _ h), B.returns, B.notSynchronized, hK, had, hSt⟩
  subst hsz
  have hl := lv_entry ([.ref (ad 130), .int a1, .int a2]) (n := 4) (Nat.le_of_ble_eq_true rfl)
  rw [lg_entry_eq]
  generalize (lg_sl ([.ref (ad 130), .int a1, .int a2]) ++ List.replicate (4 - (lg_sl ([.ref (ad 130), .int a1, .int a2])).length) Slot.unset).toArray = ls at hl ⊢
  exact wX11_demand_s0 C n  a1 a2   st res hf s.heap [] ls (lv_sub hl [0, 1, 2] rfl) hP va_S.rf
section
variable {p : Program} {l : Launch} {e : Env} {s : State} {m : MethodId} {args : Array Value} {below : List Frame} {meth : Method} {c : Code} {D : va_G} {G : G3} {ad : Nat → Nat}
def fX11_shares_s240 (n : Nat)    (st : St) : Option (Unit × St) := some ((), st)
set_option maxHeartbeats 4000000 in
set_option maxRecDepth 100000 in
theorem wX11_shares_s240 (C : Cx p s m args meth c cX11_shares 11 wsL_law RX11 none D G ad) (n : Nat)      (st : St) (res : (Unit × St))  (hf : fX11_shares_s240 n    st = some res) : At p l e (rmK 0) s m args below meth c D G ad (MQV D G ad below args s res) 11 st [] 240 [] := by
  obtain ⟨hx, hb, hml, hown, hts, hr, hlk, hK, had, hSt⟩ := id C
  intro H locs ls hl hP hS
  unfold fX11_shares_s240 at hf
  exact g_vret hx hb hr hlk hP hS dX11_shares_240 hf
def fX11_shares_s235 (n : Nat) (K155 : Int32 → Int32 → Int64 → Int32 → St → Option (Unit × St))  (v1 : Int32) (v4 : Int32) (v7 : Int64) (k0 : Int32) (st : St) : Option (Unit × St) := K155 v1 v4 v7 k0 st
set_option maxHeartbeats 4000000 in
set_option maxRecDepth 100000 in
theorem wX11_shares_s235 (C : Cx p s m args meth c cX11_shares 11 wsL_law RX11 none D G ad) (n : Nat) (K155 : Int32 → Int32 → Int64 → Int32 → St → Option (Unit × St))  (v1 : Int32) (v4 : Int32) (v7 : Int64) (k0 : Int32)   (st : St) (res : (Unit × St)) (hK155 : ∀ (v1 : Int32) (v4 : Int32) (v7 : Int64) (v9 : Int32) (st : St), K155 v1 v4 v7 v9 st = some res → At p l e (rmK 0) s m args below meth c D G ad (MQV D G ad below args s res) 11 st [(0, .ref (ad 130)), (1, .int v1), (4, .int v4), (7, .long v7), (9, .int v9)] 155 []) (hf : fX11_shares_s235 n K155  v1 v4 v7 k0 st = some res) : At p l e (rmK 0) s m args below meth c D G ad (MQV D G ad below args s res) 11 st [(0, .ref (ad 130)), (1, .int v1), (4, .int v4), (7, .long v7)] 235 [.int k0] := by
  obtain ⟨hx, hb, hml, hown, hts, hr, hlk, hK, had, hSt⟩ := id C
  intro H locs ls hl hP hS
  unfold fX11_shares_s235 at hf
  refine lv_istore (lv' := [(9, .int k0), (0, .ref (ad 130)), (1, .int v1), (4, .int v4), (7, .long v7)]) hx hb dX11_shares_235 hl (by decide) rfl (fun ls hl => ?_)
  refine lv_goto (tgt := 155) hx hb dX11_shares_237 (by decide) ?_
  exact hK155 v1 v4 v7 k0  st hf H locs ls (lv_sub hl [1, 2, 3, 4, 0] rfl) hP hS
def fX11_shares_s234 (n : Nat) (K155 : Int32 → Int32 → Int64 → Int32 → St → Option (Unit × St))  (v1 : Int32) (v4 : Int32) (v7 : Int64) (st : St) : Option (Unit × St) := fX11_shares_s235 n K155 v1 v4 v7 0 st
set_option maxHeartbeats 4000000 in
set_option maxRecDepth 100000 in
theorem wX11_shares_s234 (C : Cx p s m args meth c cX11_shares 11 wsL_law RX11 none D G ad) (n : Nat) (K155 : Int32 → Int32 → Int64 → Int32 → St → Option (Unit × St))  (v1 : Int32) (v4 : Int32) (v7 : Int64)   (st : St) (res : (Unit × St)) (hK155 : ∀ (v1 : Int32) (v4 : Int32) (v7 : Int64) (v9 : Int32) (st : St), K155 v1 v4 v7 v9 st = some res → At p l e (rmK 0) s m args below meth c D G ad (MQV D G ad below args s res) 11 st [(0, .ref (ad 130)), (1, .int v1), (4, .int v4), (7, .long v7), (9, .int v9)] 155 []) (hf : fX11_shares_s234 n K155  v1 v4 v7 st = some res) : At p l e (rmK 0) s m args below meth c D G ad (MQV D G ad below args s res) 11 st [(0, .ref (ad 130)), (1, .int v1), (4, .int v4), (7, .long v7)] 234 [] := by
  obtain ⟨hx, hb, hml, hown, hts, hr, hlk, hK, had, hSt⟩ := id C
  intro H locs ls hl hP hS
  unfold fX11_shares_s234 at hf
  refine lv_iconst (v := 0) hx hb dX11_shares_234 (by decide) ?_
  exact wX11_shares_s235 C n K155 v1 v4 v7 0 st res hK155 hf H locs ls (lv_sub hl [0, 1, 2, 3] rfl) hP hS
def fX11_shares_s230 (n : Nat) (K155 : Int32 → Int32 → Int64 → Int32 → St → Option (Unit × St))  (v1 : Int32) (v4 : Int32) (v7 : Int64) (st : St) : Option (Unit × St) := fX11_shares_s235 n K155 v1 v4 v7 1 st
set_option maxHeartbeats 4000000 in
set_option maxRecDepth 100000 in
theorem wX11_shares_s230 (C : Cx p s m args meth c cX11_shares 11 wsL_law RX11 none D G ad) (n : Nat) (K155 : Int32 → Int32 → Int64 → Int32 → St → Option (Unit × St))  (v1 : Int32) (v4 : Int32) (v7 : Int64)   (st : St) (res : (Unit × St)) (hK155 : ∀ (v1 : Int32) (v4 : Int32) (v7 : Int64) (v9 : Int32) (st : St), K155 v1 v4 v7 v9 st = some res → At p l e (rmK 0) s m args below meth c D G ad (MQV D G ad below args s res) 11 st [(0, .ref (ad 130)), (1, .int v1), (4, .int v4), (7, .long v7), (9, .int v9)] 155 []) (hf : fX11_shares_s230 n K155  v1 v4 v7 st = some res) : At p l e (rmK 0) s m args below meth c D G ad (MQV D G ad below args s res) 11 st [(0, .ref (ad 130)), (1, .int v1), (4, .int v4), (7, .long v7)] 230 [] := by
  obtain ⟨hx, hb, hml, hown, hts, hr, hlk, hK, had, hSt⟩ := id C
  intro H locs ls hl hP hS
  unfold fX11_shares_s230 at hf
  refine lv_iconst (v := 1) hx hb dX11_shares_230 (by decide) ?_
  refine lv_goto (tgt := 235) hx hb dX11_shares_231 (by decide) ?_
  exact wX11_shares_s235 C n K155 v1 v4 v7 1 st res hK155 hf H locs ls (lv_sub hl [0, 1, 2, 3] rfl) hP hS
def fX11_shares_s225 (n : Nat) (K155 : Int32 → Int32 → Int64 → Int32 → St → Option (Unit × St))  (v1 : Int32) (v4 : Int32) (v7 : Int64) (st : St) : Option (Unit × St) := if v1 = 2 then fX11_shares_s230 n K155 v1 v4 v7 st else fX11_shares_s234 n K155 v1 v4 v7 st
set_option maxHeartbeats 4000000 in
set_option maxRecDepth 100000 in
theorem wX11_shares_s225 (C : Cx p s m args meth c cX11_shares 11 wsL_law RX11 none D G ad) (n : Nat) (K155 : Int32 → Int32 → Int64 → Int32 → St → Option (Unit × St))  (v1 : Int32) (v4 : Int32) (v7 : Int64)   (st : St) (res : (Unit × St)) (hK155 : ∀ (v1 : Int32) (v4 : Int32) (v7 : Int64) (v9 : Int32) (st : St), K155 v1 v4 v7 v9 st = some res → At p l e (rmK 0) s m args below meth c D G ad (MQV D G ad below args s res) 11 st [(0, .ref (ad 130)), (1, .int v1), (4, .int v4), (7, .long v7), (9, .int v9)] 155 []) (hf : fX11_shares_s225 n K155  v1 v4 v7 st = some res) : At p l e (rmK 0) s m args below meth c D G ad (MQV D G ad below args s res) 11 st [(0, .ref (ad 130)), (1, .int v1), (4, .int v4), (7, .long v7)] 225 [] := by
  obtain ⟨hx, hb, hml, hown, hts, hr, hlk, hK, had, hSt⟩ := id C
  intro H locs ls hl hP hS
  unfold fX11_shares_s225 at hf
  refine lv_iload_n hx hb dX11_shares_225 rfl (lv_at hl 1 rfl) ?_
  refine lv_iconst (v := 2) hx hb dX11_shares_226 (by decide) ?_
  refine lv_icmp_ne (tgt := 234) hx hb dX11_shares_227 (by decide) (fun q => ?_) (fun q => ?_)
  · exact wX11_shares_s234 C n K155 v1 v4 v7 st res hK155 (ie hf q) H locs ls (lv_sub hl [0, 1, 2, 3] rfl) hP hS
  · exact wX11_shares_s230 C n K155 v1 v4 v7 st res hK155 (it hf q) H locs ls (lv_sub hl [0, 1, 2, 3] rfl) hP hS
def fX11_shares_s219 (n : Nat) (K155 : Int32 → Int32 → Int64 → Int32 → St → Option (Unit × St)) (K170 : Int32 → Int32 → Int64 → Int32 → St → Option (Unit × St))  (v1 : Int32) (v4 : Int32) (v7 : Int64) (v10 : Int32) (st : St) : Option (Unit × St) := K170 v1 v4 v7 (v10 + 1) st
set_option maxHeartbeats 4000000 in
set_option maxRecDepth 100000 in
theorem wX11_shares_s219 (C : Cx p s m args meth c cX11_shares 11 wsL_law RX11 none D G ad) (n : Nat) (K155 : Int32 → Int32 → Int64 → Int32 → St → Option (Unit × St)) (K170 : Int32 → Int32 → Int64 → Int32 → St → Option (Unit × St))  (v1 : Int32) (v4 : Int32) (v7 : Int64) (v10 : Int32)   (st : St) (res : (Unit × St)) (hK155 : ∀ (v1 : Int32) (v4 : Int32) (v7 : Int64) (v9 : Int32) (st : St), K155 v1 v4 v7 v9 st = some res → At p l e (rmK 0) s m args below meth c D G ad (MQV D G ad below args s res) 11 st [(0, .ref (ad 130)), (1, .int v1), (4, .int v4), (7, .long v7), (9, .int v9)] 155 []) (hK170 : ∀ (v1 : Int32) (v4 : Int32) (v7 : Int64) (v10 : Int32) (st : St), K170 v1 v4 v7 v10 st = some res → At p l e (rmK 0) s m args below meth c D G ad (MQV D G ad below args s res) 11 st [(0, .ref (ad 130)), (1, .int v1), (4, .int v4), (7, .long v7), (10, .int v10)] 170 []) (hf : fX11_shares_s219 n K155 K170  v1 v4 v7 v10 st = some res) : At p l e (rmK 0) s m args below meth c D G ad (MQV D G ad below args s res) 11 st [(0, .ref (ad 130)), (1, .int v1), (4, .int v4), (7, .long v7), (10, .int v10)] 219 [] := by
  obtain ⟨hx, hb, hml, hown, hts, hr, hlk, hK, had, hSt⟩ := id C
  intro H locs ls hl hP hS
  unfold fX11_shares_s219 at hf
  refine lv_iinc (v := v10 + 1) (lv' := [(10, .int (v10 + 1)), (0, .ref (ad 130)), (1, .int v1), (4, .int v4), (7, .long v7)]) hx hb dX11_shares_219 hl (k := 4) rfl rfl (by decide) rfl (fun ls hl => ?_)
  refine lv_goto (tgt := 170) hx hb dX11_shares_222 (by decide) ?_
  exact hK170 v1 v4 v7 (v10 + 1)  st hf H locs ls (lv_sub hl [1, 2, 3, 4, 0] rfl) hP hS
def fX11_shares_s213 (n : Nat) (K155 : Int32 → Int32 → Int64 → Int32 → St → Option (Unit × St)) (K170 : Int32 → Int32 → Int64 → Int32 → St → Option (Unit × St))  (v1 : Int32) (v4 : Int32) (v7 : Int64) (v10 : Int32) (st : St) : Option (Unit × St) := fX11_shares_s219 n K155 K170 v1 v4 (v7 - 1) v10 st
set_option maxHeartbeats 4000000 in
set_option maxRecDepth 100000 in
theorem wX11_shares_s213 (C : Cx p s m args meth c cX11_shares 11 wsL_law RX11 none D G ad) (n : Nat) (K155 : Int32 → Int32 → Int64 → Int32 → St → Option (Unit × St)) (K170 : Int32 → Int32 → Int64 → Int32 → St → Option (Unit × St))  (v1 : Int32) (v4 : Int32) (v7 : Int64) (v10 : Int32)   (st : St) (res : (Unit × St)) (hK155 : ∀ (v1 : Int32) (v4 : Int32) (v7 : Int64) (v9 : Int32) (st : St), K155 v1 v4 v7 v9 st = some res → At p l e (rmK 0) s m args below meth c D G ad (MQV D G ad below args s res) 11 st [(0, .ref (ad 130)), (1, .int v1), (4, .int v4), (7, .long v7), (9, .int v9)] 155 []) (hK170 : ∀ (v1 : Int32) (v4 : Int32) (v7 : Int64) (v10 : Int32) (st : St), K170 v1 v4 v7 v10 st = some res → At p l e (rmK 0) s m args below meth c D G ad (MQV D G ad below args s res) 11 st [(0, .ref (ad 130)), (1, .int v1), (4, .int v4), (7, .long v7), (10, .int v10)] 170 []) (hf : fX11_shares_s213 n K155 K170  v1 v4 v7 v10 st = some res) : At p l e (rmK 0) s m args below meth c D G ad (MQV D G ad below args s res) 11 st [(0, .ref (ad 130)), (1, .int v1), (4, .int v4), (7, .long v7), (10, .int v10)] 213 [] := by
  obtain ⟨hx, hb, hml, hown, hts, hr, hlk, hK, had, hSt⟩ := id C
  intro H locs ls hl hP hS
  unfold fX11_shares_s213 at hf
  refine lv_lload hx hb dX11_shares_213 (lv_at hl 3 rfl) ?_
  refine lv_lconst (v := 1) hx hb dX11_shares_215 (by decide) ?_
  refine lv_lsub hx hb dX11_shares_216 ?_
  refine lv_lstore (lv' := [(7, .long (v7 - 1)), (0, .ref (ad 130)), (1, .int v1), (4, .int v4), (10, .int v10)]) hx hb dX11_shares_217 hl (by decide) rfl (fun ls hl => ?_)
  exact wX11_shares_s219 C n K155 K170 v1 v4 (v7 - 1) v10 st res hK155 hK170 hf H locs ls (lv_sub hl [1, 2, 3, 0, 4] rfl) hP hS
def fX11_shares_s202 (n : Nat) (K155 : Int32 → Int32 → Int64 → Int32 → St → Option (Unit × St)) (K170 : Int32 → Int32 → Int64 → Int32 → St → Option (Unit × St))  (v1 : Int32) (v4 : Int32) (v7 : Int64) (v10 : Int32) (st : St) : Option (Unit × St) := if inb v10 8 = true then (if inb v10 8 = true then (fX11_shares_s213 n K155 K170 v1 v4 v7 v10 (setJ st 152 v10.toNatClampNeg ((st.2 152 v10.toNatClampNeg) + 1))) else none) else none
set_option maxHeartbeats 4000000 in
set_option maxRecDepth 100000 in
theorem wX11_shares_s202 (C : Cx p s m args meth c cX11_shares 11 wsL_law RX11 none D G ad) (n : Nat) (K155 : Int32 → Int32 → Int64 → Int32 → St → Option (Unit × St)) (K170 : Int32 → Int32 → Int64 → Int32 → St → Option (Unit × St))  (v1 : Int32) (v4 : Int32) (v7 : Int64) (v10 : Int32)   (st : St) (res : (Unit × St)) (hK155 : ∀ (v1 : Int32) (v4 : Int32) (v7 : Int64) (v9 : Int32) (st : St), K155 v1 v4 v7 v9 st = some res → At p l e (rmK 0) s m args below meth c D G ad (MQV D G ad below args s res) 11 st [(0, .ref (ad 130)), (1, .int v1), (4, .int v4), (7, .long v7), (9, .int v9)] 155 []) (hK170 : ∀ (v1 : Int32) (v4 : Int32) (v7 : Int64) (v10 : Int32) (st : St), K170 v1 v4 v7 v10 st = some res → At p l e (rmK 0) s m args below meth c D G ad (MQV D G ad below args s res) 11 st [(0, .ref (ad 130)), (1, .int v1), (4, .int v4), (7, .long v7), (10, .int v10)] 170 []) (hf : fX11_shares_s202 n K155 K170  v1 v4 v7 v10 st = some res) : At p l e (rmK 0) s m args below meth c D G ad (MQV D G ad below args s res) 11 st [(0, .ref (ad 130)), (1, .int v1), (4, .int v4), (7, .long v7), (10, .int v10)] 202 [] := by
  obtain ⟨hx, hb, hml, hown, hts, hr, hlk, hK, had, hSt⟩ := id C
  intro H locs ls hl hP hS
  unfold fX11_shares_s202 at hf
  refine lv_aload_n hx hb dX11_shares_202 rfl (lv_at hl 0 rfl) ?_
  refine g_getR hx hb hts inlX11 hown hK hP 130 ct_130 rfl 27 (by decide) (hts _ wm_7_23) rfl dX11_shares_203 ?_
  refine lv_iload hx hb dX11_shares_206 (lv_at hl 4 rfl) ?_
  refine lv_dup2_11 hx hb dX11_shares_208 rfl rfl ?_
  obtain ⟨g1, hf⟩ := gd hf
  refine g_lald hx hb hK hP 152 ct_152 g1 dX11_shares_209 ?_
  refine lv_lconst (v := 1) hx hb dX11_shares_210 (by decide) ?_
  refine lv_ladd hx hb dX11_shares_211 ?_
  obtain ⟨g2, hf⟩ := gd hf
  refine g_last hx hb hK had hP hS 152 ct_152 g2 dX11_shares_212 (fun H locs hP hS => ?_)
  exact wX11_shares_s213 C n K155 K170 v1 v4 v7 v10 (setJ st 152 v10.toNatClampNeg ((st.2 152 v10.toNatClampNeg) + 1)) res hK155 hK170 hf H locs ls (lv_sub hl [0, 1, 2, 3, 4] rfl) hP hS
def fX11_shares_s184 (n : Nat) (K155 : Int32 → Int32 → Int64 → Int32 → St → Option (Unit × St)) (K170 : Int32 → Int32 → Int64 → Int32 → St → Option (Unit × St))  (v1 : Int32) (v4 : Int32) (v7 : Int64) (v10 : Int32) (st : St) : Option (Unit × St) := if inb v10 8 = true then (if inb v10 8 = true then (if (st.2 151 v10.toNatClampNeg) ≤ (st.2 152 v10.toNatClampNeg) then fX11_shares_s219 n K155 K170 v1 v4 v7 v10 st else fX11_shares_s202 n K155 K170 v1 v4 v7 v10 st) else none) else none
set_option maxHeartbeats 4000000 in
set_option maxRecDepth 100000 in
theorem wX11_shares_s184 (C : Cx p s m args meth c cX11_shares 11 wsL_law RX11 none D G ad) (n : Nat) (K155 : Int32 → Int32 → Int64 → Int32 → St → Option (Unit × St)) (K170 : Int32 → Int32 → Int64 → Int32 → St → Option (Unit × St))  (v1 : Int32) (v4 : Int32) (v7 : Int64) (v10 : Int32)   (st : St) (res : (Unit × St)) (hK155 : ∀ (v1 : Int32) (v4 : Int32) (v7 : Int64) (v9 : Int32) (st : St), K155 v1 v4 v7 v9 st = some res → At p l e (rmK 0) s m args below meth c D G ad (MQV D G ad below args s res) 11 st [(0, .ref (ad 130)), (1, .int v1), (4, .int v4), (7, .long v7), (9, .int v9)] 155 []) (hK170 : ∀ (v1 : Int32) (v4 : Int32) (v7 : Int64) (v10 : Int32) (st : St), K170 v1 v4 v7 v10 st = some res → At p l e (rmK 0) s m args below meth c D G ad (MQV D G ad below args s res) 11 st [(0, .ref (ad 130)), (1, .int v1), (4, .int v4), (7, .long v7), (10, .int v10)] 170 []) (hf : fX11_shares_s184 n K155 K170  v1 v4 v7 v10 st = some res) : At p l e (rmK 0) s m args below meth c D G ad (MQV D G ad below args s res) 11 st [(0, .ref (ad 130)), (1, .int v1), (4, .int v4), (7, .long v7), (10, .int v10)] 184 [] := by
  obtain ⟨hx, hb, hml, hown, hts, hr, hlk, hK, had, hSt⟩ := id C
  intro H locs ls hl hP hS
  unfold fX11_shares_s184 at hf
  refine lv_aload_n hx hb dX11_shares_184 rfl (lv_at hl 0 rfl) ?_
  refine g_getR hx hb hts inlX11 hown hK hP 130 ct_130 rfl 27 (by decide) (hts _ wm_7_23) rfl dX11_shares_185 ?_
  refine lv_iload hx hb dX11_shares_188 (lv_at hl 4 rfl) ?_
  obtain ⟨g1, hf⟩ := gd hf
  refine g_lald hx hb hK hP 152 ct_152 g1 dX11_shares_190 ?_
  refine lv_aload_n hx hb dX11_shares_191 rfl (lv_at hl 0 rfl) ?_
  refine g_getR hx hb hts inlX11 hown hK hP 130 ct_130 rfl 26 (by decide) (hts _ wm_7_22) rfl dX11_shares_192 ?_
  refine lv_iload hx hb dX11_shares_195 (lv_at hl 4 rfl) ?_
  obtain ⟨g2, hf⟩ := gd hf
  refine g_lald hx hb hK hP 151 ct_151 g2 dX11_shares_197 ?_
  refine g_lcmp_ge (tgt := 219) hx hb dX11_shares_198 dX11_shares_199 (by decide) (fun q => ?_) (fun q => ?_)
  · exact wX11_shares_s219 C n K155 K170 v1 v4 v7 v10 st res hK155 hK170 (it hf q) H locs ls (lv_sub hl [0, 1, 2, 3, 4] rfl) hP hS
  · exact wX11_shares_s202 C n K155 K170 v1 v4 v7 v10 st res hK155 hK170 (ie hf q) H locs ls (lv_sub hl [0, 1, 2, 3, 4] rfl) hP hS
def fX11_shares_s177 (n : Nat) (K155 : Int32 → Int32 → Int64 → Int32 → St → Option (Unit × St)) (K170 : Int32 → Int32 → Int64 → Int32 → St → Option (Unit × St))  (v1 : Int32) (v4 : Int32) (v7 : Int64) (v10 : Int32) (st : St) : Option (Unit × St) := if v7 ≤ 0 then fX11_shares_s225 n K155 v1 v4 v7 st else fX11_shares_s184 n K155 K170 v1 v4 v7 v10 st
set_option maxHeartbeats 4000000 in
set_option maxRecDepth 100000 in
theorem wX11_shares_s177 (C : Cx p s m args meth c cX11_shares 11 wsL_law RX11 none D G ad) (n : Nat) (K155 : Int32 → Int32 → Int64 → Int32 → St → Option (Unit × St)) (K170 : Int32 → Int32 → Int64 → Int32 → St → Option (Unit × St))  (v1 : Int32) (v4 : Int32) (v7 : Int64) (v10 : Int32)   (st : St) (res : (Unit × St)) (hK155 : ∀ (v1 : Int32) (v4 : Int32) (v7 : Int64) (v9 : Int32) (st : St), K155 v1 v4 v7 v9 st = some res → At p l e (rmK 0) s m args below meth c D G ad (MQV D G ad below args s res) 11 st [(0, .ref (ad 130)), (1, .int v1), (4, .int v4), (7, .long v7), (9, .int v9)] 155 []) (hK170 : ∀ (v1 : Int32) (v4 : Int32) (v7 : Int64) (v10 : Int32) (st : St), K170 v1 v4 v7 v10 st = some res → At p l e (rmK 0) s m args below meth c D G ad (MQV D G ad below args s res) 11 st [(0, .ref (ad 130)), (1, .int v1), (4, .int v4), (7, .long v7), (10, .int v10)] 170 []) (hf : fX11_shares_s177 n K155 K170  v1 v4 v7 v10 st = some res) : At p l e (rmK 0) s m args below meth c D G ad (MQV D G ad below args s res) 11 st [(0, .ref (ad 130)), (1, .int v1), (4, .int v4), (7, .long v7), (10, .int v10)] 177 [] := by
  obtain ⟨hx, hb, hml, hown, hts, hr, hlk, hK, had, hSt⟩ := id C
  intro H locs ls hl hP hS
  unfold fX11_shares_s177 at hf
  refine lv_lload hx hb dX11_shares_177 (lv_at hl 3 rfl) ?_
  refine lv_lconst (v := 0) hx hb dX11_shares_179 (by decide) ?_
  refine g_lcmp_le (tgt := 225) hx hb dX11_shares_180 dX11_shares_181 (by decide) (fun q => ?_) (fun q => ?_)
  · exact wX11_shares_s225 C n K155 v1 v4 v7 st res hK155 (it hf q) H locs ls (lv_sub hl [0, 1, 2, 3] rfl) hP hS
  · exact wX11_shares_s184 C n K155 K170 v1 v4 v7 v10 st res hK155 hK170 (ie hf q) H locs ls (lv_sub hl [0, 1, 2, 3, 4] rfl) hP hS
def fX11_shares_s170 (n : Nat) (K155 : Int32 → Int32 → Int64 → Int32 → St → Option (Unit × St)) (K170 : Int32 → Int32 → Int64 → Int32 → St → Option (Unit × St))  (v1 : Int32) (v4 : Int32) (v7 : Int64) (v10 : Int32) (st : St) : Option (Unit × St) := if v4 ≤ v10 then fX11_shares_s225 n K155 v1 v4 v7 st else fX11_shares_s177 n K155 K170 v1 v4 v7 v10 st
set_option maxHeartbeats 4000000 in
set_option maxRecDepth 100000 in
theorem wX11_shares_s170 (C : Cx p s m args meth c cX11_shares 11 wsL_law RX11 none D G ad) (n : Nat) (K155 : Int32 → Int32 → Int64 → Int32 → St → Option (Unit × St)) (K170 : Int32 → Int32 → Int64 → Int32 → St → Option (Unit × St))  (v1 : Int32) (v4 : Int32) (v7 : Int64) (v10 : Int32)   (st : St) (res : (Unit × St)) (hK155 : ∀ (v1 : Int32) (v4 : Int32) (v7 : Int64) (v9 : Int32) (st : St), K155 v1 v4 v7 v9 st = some res → At p l e (rmK 0) s m args below meth c D G ad (MQV D G ad below args s res) 11 st [(0, .ref (ad 130)), (1, .int v1), (4, .int v4), (7, .long v7), (9, .int v9)] 155 []) (hK170 : ∀ (v1 : Int32) (v4 : Int32) (v7 : Int64) (v10 : Int32) (st : St), K170 v1 v4 v7 v10 st = some res → At p l e (rmK 0) s m args below meth c D G ad (MQV D G ad below args s res) 11 st [(0, .ref (ad 130)), (1, .int v1), (4, .int v4), (7, .long v7), (10, .int v10)] 170 []) (hf : fX11_shares_s170 n K155 K170  v1 v4 v7 v10 st = some res) : At p l e (rmK 0) s m args below meth c D G ad (MQV D G ad below args s res) 11 st [(0, .ref (ad 130)), (1, .int v1), (4, .int v4), (7, .long v7), (10, .int v10)] 170 [] := by
  obtain ⟨hx, hb, hml, hown, hts, hr, hlk, hK, had, hSt⟩ := id C
  intro H locs ls hl hP hS
  unfold fX11_shares_s170 at hf
  refine lv_iload hx hb dX11_shares_170 (lv_at hl 4 rfl) ?_
  refine lv_iload hx hb dX11_shares_172 (lv_at hl 2 rfl) ?_
  refine lv_icmp_ge (tgt := 225) hx hb dX11_shares_174 (by decide) (fun q => ?_) (fun q => ?_)
  · exact wX11_shares_s225 C n K155 v1 v4 v7 st res hK155 (it hf q) H locs ls (lv_sub hl [0, 1, 2, 3] rfl) hP hS
  · exact wX11_shares_s177 C n K155 K170 v1 v4 v7 v10 st res hK155 hK170 (ie hf q) H locs ls (lv_sub hl [0, 1, 2, 3, 4] rfl) hP hS
def fX11_shares_L170 (n : Nat) (K155 : Int32 → Int32 → Int64 → Int32 → St → Option (Unit × St))  : Nat → Int32 → Int32 → Int64 → Int32 → St → Option (Unit × St)
  | 0, _, _, _, _, _ => none
  | k + 1, v1, v4, v7, v10, st => fX11_shares_s170 n K155 (fX11_shares_L170 n K155 k)  v1 v4 v7 v10 st
theorem wX11_shares_L170 (C : Cx p s m args meth c cX11_shares 11 wsL_law RX11 none D G ad) (n : Nat) (K155 : Int32 → Int32 → Int64 → Int32 → St → Option (Unit × St))   (res : (Unit × St)) (hK155 : ∀ (v1 : Int32) (v4 : Int32) (v7 : Int64) (v9 : Int32) (st : St), K155 v1 v4 v7 v9 st = some res → At p l e (rmK 0) s m args below meth c D G ad (MQV D G ad below args s res) 11 st [(0, .ref (ad 130)), (1, .int v1), (4, .int v4), (7, .long v7), (9, .int v9)] 155 []) : ∀ (k : Nat) (v1 : Int32) (v4 : Int32) (v7 : Int64) (v10 : Int32)  (st : St), fX11_shares_L170 n K155 k v1 v4 v7 v10 st = some res → At p l e (rmK 0) s m args below meth c D G ad (MQV D G ad below args s res) 11 st [(0, .ref (ad 130)), (1, .int v1), (4, .int v4), (7, .long v7), (10, .int v10)] 170 [] := by
  intro k
  induction k with
  | zero => intro v1 v4 v7 v10  st h; exact absurd h (by intro q; cases q)
  | succ k ih => intro v1 v4 v7 v10  st h; exact wX11_shares_s170 C n K155 (fX11_shares_L170 n K155 k)  v1 v4 v7 v10   st res hK155 ih h
def fX11_shares_s167 (n : Nat) (K155 : Int32 → Int32 → Int64 → Int32 → St → Option (Unit × St))  (v1 : Int32) (v4 : Int32) (v7 : Int64) (st : St) : Option (Unit × St) := fX11_shares_L170 n K155 n v1 v4 v7 0 st
set_option maxHeartbeats 4000000 in
set_option maxRecDepth 100000 in
theorem wX11_shares_s167 (C : Cx p s m args meth c cX11_shares 11 wsL_law RX11 none D G ad) (n : Nat) (K155 : Int32 → Int32 → Int64 → Int32 → St → Option (Unit × St))  (v1 : Int32) (v4 : Int32) (v7 : Int64)   (st : St) (res : (Unit × St)) (hK155 : ∀ (v1 : Int32) (v4 : Int32) (v7 : Int64) (v9 : Int32) (st : St), K155 v1 v4 v7 v9 st = some res → At p l e (rmK 0) s m args below meth c D G ad (MQV D G ad below args s res) 11 st [(0, .ref (ad 130)), (1, .int v1), (4, .int v4), (7, .long v7), (9, .int v9)] 155 []) (hf : fX11_shares_s167 n K155  v1 v4 v7 st = some res) : At p l e (rmK 0) s m args below meth c D G ad (MQV D G ad below args s res) 11 st [(0, .ref (ad 130)), (1, .int v1), (4, .int v4), (7, .long v7)] 167 [] := by
  obtain ⟨hx, hb, hml, hown, hts, hr, hlk, hK, had, hSt⟩ := id C
  intro H locs ls hl hP hS
  unfold fX11_shares_s167 at hf
  refine lv_iconst (v := 0) hx hb dX11_shares_167 (by decide) ?_
  refine lv_istore (lv' := [(10, .int 0), (0, .ref (ad 130)), (1, .int v1), (4, .int v4), (7, .long v7)]) hx hb dX11_shares_168 hl (by decide) rfl (fun ls hl => ?_)
  exact wX11_shares_L170 C n K155 res hK155 n v1 v4 v7 0 st hf H locs ls (lv_sub hl [1, 2, 3, 4, 0] rfl) hP hS
def fX11_shares_s160 (n : Nat) (K155 : Int32 → Int32 → Int64 → Int32 → St → Option (Unit × St))  (v1 : Int32) (v4 : Int32) (v7 : Int64) (st : St) : Option (Unit × St) := if v7 ≤ 0 then fX11_shares_s240 n st else fX11_shares_s167 n K155 v1 v4 v7 st
set_option maxHeartbeats 4000000 in
set_option maxRecDepth 100000 in
theorem wX11_shares_s160 (C : Cx p s m args meth c cX11_shares 11 wsL_law RX11 none D G ad) (n : Nat) (K155 : Int32 → Int32 → Int64 → Int32 → St → Option (Unit × St))  (v1 : Int32) (v4 : Int32) (v7 : Int64)   (st : St) (res : (Unit × St)) (hK155 : ∀ (v1 : Int32) (v4 : Int32) (v7 : Int64) (v9 : Int32) (st : St), K155 v1 v4 v7 v9 st = some res → At p l e (rmK 0) s m args below meth c D G ad (MQV D G ad below args s res) 11 st [(0, .ref (ad 130)), (1, .int v1), (4, .int v4), (7, .long v7), (9, .int v9)] 155 []) (hf : fX11_shares_s160 n K155  v1 v4 v7 st = some res) : At p l e (rmK 0) s m args below meth c D G ad (MQV D G ad below args s res) 11 st [(0, .ref (ad 130)), (1, .int v1), (4, .int v4), (7, .long v7)] 160 [] := by
  obtain ⟨hx, hb, hml, hown, hts, hr, hlk, hK, had, hSt⟩ := id C
  intro H locs ls hl hP hS
  unfold fX11_shares_s160 at hf
  refine lv_lload hx hb dX11_shares_160 (lv_at hl 3 rfl) ?_
  refine lv_lconst (v := 0) hx hb dX11_shares_162 (by decide) ?_
  refine g_lcmp_le (tgt := 240) hx hb dX11_shares_163 dX11_shares_164 (by decide) (fun q => ?_) (fun q => ?_)
  · exact wX11_shares_s240 C n st res (it hf q) H locs ls (lv_sub hl [] rfl) hP hS
  · exact wX11_shares_s167 C n K155 v1 v4 v7 st res hK155 (ie hf q) H locs ls (lv_sub hl [0, 1, 2, 3] rfl) hP hS
def fX11_shares_s155 (n : Nat) (K155 : Int32 → Int32 → Int64 → Int32 → St → Option (Unit × St))  (v1 : Int32) (v4 : Int32) (v7 : Int64) (v9 : Int32) (st : St) : Option (Unit × St) := if v9 = 0 then fX11_shares_s240 n st else fX11_shares_s160 n K155 v1 v4 v7 st
set_option maxHeartbeats 4000000 in
set_option maxRecDepth 100000 in
theorem wX11_shares_s155 (C : Cx p s m args meth c cX11_shares 11 wsL_law RX11 none D G ad) (n : Nat) (K155 : Int32 → Int32 → Int64 → Int32 → St → Option (Unit × St))  (v1 : Int32) (v4 : Int32) (v7 : Int64) (v9 : Int32)   (st : St) (res : (Unit × St)) (hK155 : ∀ (v1 : Int32) (v4 : Int32) (v7 : Int64) (v9 : Int32) (st : St), K155 v1 v4 v7 v9 st = some res → At p l e (rmK 0) s m args below meth c D G ad (MQV D G ad below args s res) 11 st [(0, .ref (ad 130)), (1, .int v1), (4, .int v4), (7, .long v7), (9, .int v9)] 155 []) (hf : fX11_shares_s155 n K155  v1 v4 v7 v9 st = some res) : At p l e (rmK 0) s m args below meth c D G ad (MQV D G ad below args s res) 11 st [(0, .ref (ad 130)), (1, .int v1), (4, .int v4), (7, .long v7), (9, .int v9)] 155 [] := by
  obtain ⟨hx, hb, hml, hown, hts, hr, hlk, hK, had, hSt⟩ := id C
  intro H locs ls hl hP hS
  unfold fX11_shares_s155 at hf
  refine lv_iload hx hb dX11_shares_155 (lv_at hl 4 rfl) ?_
  refine lv_if_eq (tgt := 240) hx hb dX11_shares_157 (by decide) (fun q => ?_) (fun q => ?_)
  · exact wX11_shares_s240 C n st res (it hf q) H locs ls (lv_sub hl [] rfl) hP hS
  · exact wX11_shares_s160 C n K155 v1 v4 v7 st res hK155 (ie hf q) H locs ls (lv_sub hl [0, 1, 2, 3] rfl) hP hS
def fX11_shares_L155 (n : Nat)   : Nat → Int32 → Int32 → Int64 → Int32 → St → Option (Unit × St)
  | 0, _, _, _, _, _ => none
  | k + 1, v1, v4, v7, v9, st => fX11_shares_s155 n (fX11_shares_L155 n k)  v1 v4 v7 v9 st
theorem wX11_shares_L155 (C : Cx p s m args meth c cX11_shares 11 wsL_law RX11 none D G ad) (n : Nat)    (res : (Unit × St))  : ∀ (k : Nat) (v1 : Int32) (v4 : Int32) (v7 : Int64) (v9 : Int32)  (st : St), fX11_shares_L155 n k v1 v4 v7 v9 st = some res → At p l e (rmK 0) s m args below meth c D G ad (MQV D G ad below args s res) 11 st [(0, .ref (ad 130)), (1, .int v1), (4, .int v4), (7, .long v7), (9, .int v9)] 155 [] := by
  intro k
  induction k with
  | zero => intro v1 v4 v7 v9  st h; exact absurd h (by intro q; cases q)
  | succ k ih => intro v1 v4 v7 v9  st h; exact wX11_shares_s155 C n (fX11_shares_L155 n k)  v1 v4 v7 v9   st res ih h
def fX11_shares_s153 (n : Nat)   (v1 : Int32) (v4 : Int32) (v7 : Int64) (k0 : Int32) (st : St) : Option (Unit × St) := fX11_shares_L155 n n v1 v4 v7 k0 st
set_option maxHeartbeats 4000000 in
set_option maxRecDepth 100000 in
theorem wX11_shares_s153 (C : Cx p s m args meth c cX11_shares 11 wsL_law RX11 none D G ad) (n : Nat)   (v1 : Int32) (v4 : Int32) (v7 : Int64) (k0 : Int32)   (st : St) (res : (Unit × St))  (hf : fX11_shares_s153 n   v1 v4 v7 k0 st = some res) : At p l e (rmK 0) s m args below meth c D G ad (MQV D G ad below args s res) 11 st [(0, .ref (ad 130)), (1, .int v1), (4, .int v4), (7, .long v7)] 153 [.int k0] := by
  obtain ⟨hx, hb, hml, hown, hts, hr, hlk, hK, had, hSt⟩ := id C
  intro H locs ls hl hP hS
  unfold fX11_shares_s153 at hf
  refine lv_istore (lv' := [(9, .int k0), (0, .ref (ad 130)), (1, .int v1), (4, .int v4), (7, .long v7)]) hx hb dX11_shares_153 hl (by decide) rfl (fun ls hl => ?_)
  exact wX11_shares_L155 C n res n v1 v4 v7 k0 st hf H locs ls (lv_sub hl [1, 2, 3, 4, 0] rfl) hP hS
def fX11_shares_s152 (n : Nat)   (v1 : Int32) (v4 : Int32) (v7 : Int64) (st : St) : Option (Unit × St) := fX11_shares_s153 n v1 v4 v7 0 st
set_option maxHeartbeats 4000000 in
set_option maxRecDepth 100000 in
theorem wX11_shares_s152 (C : Cx p s m args meth c cX11_shares 11 wsL_law RX11 none D G ad) (n : Nat)   (v1 : Int32) (v4 : Int32) (v7 : Int64)   (st : St) (res : (Unit × St))  (hf : fX11_shares_s152 n   v1 v4 v7 st = some res) : At p l e (rmK 0) s m args below meth c D G ad (MQV D G ad below args s res) 11 st [(0, .ref (ad 130)), (1, .int v1), (4, .int v4), (7, .long v7)] 152 [] := by
  obtain ⟨hx, hb, hml, hown, hts, hr, hlk, hK, had, hSt⟩ := id C
  intro H locs ls hl hP hS
  unfold fX11_shares_s152 at hf
  refine lv_iconst (v := 0) hx hb dX11_shares_152 (by decide) ?_
  exact wX11_shares_s153 C n v1 v4 v7 0 st res hf H locs ls (lv_sub hl [0, 1, 2, 3] rfl) hP hS
def fX11_shares_s148 (n : Nat)   (v1 : Int32) (v4 : Int32) (v7 : Int64) (st : St) : Option (Unit × St) := fX11_shares_s153 n v1 v4 v7 1 st
set_option maxHeartbeats 4000000 in
set_option maxRecDepth 100000 in
theorem wX11_shares_s148 (C : Cx p s m args meth c cX11_shares 11 wsL_law RX11 none D G ad) (n : Nat)   (v1 : Int32) (v4 : Int32) (v7 : Int64)   (st : St) (res : (Unit × St))  (hf : fX11_shares_s148 n   v1 v4 v7 st = some res) : At p l e (rmK 0) s m args below meth c D G ad (MQV D G ad below args s res) 11 st [(0, .ref (ad 130)), (1, .int v1), (4, .int v4), (7, .long v7)] 148 [] := by
  obtain ⟨hx, hb, hml, hown, hts, hr, hlk, hK, had, hSt⟩ := id C
  intro H locs ls hl hP hS
  unfold fX11_shares_s148 at hf
  refine lv_iconst (v := 1) hx hb dX11_shares_148 (by decide) ?_
  refine lv_goto (tgt := 153) hx hb dX11_shares_149 (by decide) ?_
  exact wX11_shares_s153 C n v1 v4 v7 1 st res hf H locs ls (lv_sub hl [0, 1, 2, 3] rfl) hP hS
def fX11_shares_s144 (n : Nat)   (v1 : Int32) (v4 : Int32) (v7 : Int64) (st : St) : Option (Unit × St) := if v1 = 0 then fX11_shares_s152 n v1 v4 v7 st else fX11_shares_s148 n v1 v4 v7 st
set_option maxHeartbeats 4000000 in
set_option maxRecDepth 100000 in
theorem wX11_shares_s144 (C : Cx p s m args meth c cX11_shares 11 wsL_law RX11 none D G ad) (n : Nat)   (v1 : Int32) (v4 : Int32) (v7 : Int64)   (st : St) (res : (Unit × St))  (hf : fX11_shares_s144 n   v1 v4 v7 st = some res) : At p l e (rmK 0) s m args below meth c D G ad (MQV D G ad below args s res) 11 st [(0, .ref (ad 130)), (1, .int v1), (4, .int v4), (7, .long v7)] 144 [] := by
  obtain ⟨hx, hb, hml, hown, hts, hr, hlk, hK, had, hSt⟩ := id C
  intro H locs ls hl hP hS
  unfold fX11_shares_s144 at hf
  refine lv_iload_n hx hb dX11_shares_144 rfl (lv_at hl 1 rfl) ?_
  refine lv_if_eq (tgt := 152) hx hb dX11_shares_145 (by decide) (fun q => ?_) (fun q => ?_)
  · exact wX11_shares_s152 C n v1 v4 v7 st res (it hf q) H locs ls (lv_sub hl [0, 1, 2, 3] rfl) hP hS
  · exact wX11_shares_s148 C n v1 v4 v7 st res (ie hf q) H locs ls (lv_sub hl [0, 1, 2, 3] rfl) hP hS
def fX11_shares_s126 (n : Nat) (K59 : Int32 → Int64 → Int32 → Int64 → Int64 → Int32 → St → Option (Unit × St))  (v1 : Int32) (v2 : Int64) (v4 : Int32) (v5 : Int64) (v7 : Int64) (v9 : Int32) (st : St) : Option (Unit × St) := if inb v9 8 = true then (K59 v1 v2 v4 v5 (v7 - (st.2 152 v9.toNatClampNeg)) (v9 + 1) st) else none
set_option maxHeartbeats 4000000 in
set_option maxRecDepth 100000 in
theorem wX11_shares_s126 (C : Cx p s m args meth c cX11_shares 11 wsL_law RX11 none D G ad) (n : Nat) (K59 : Int32 → Int64 → Int32 → Int64 → Int64 → Int32 → St → Option (Unit × St))  (v1 : Int32) (v2 : Int64) (v4 : Int32) (v5 : Int64) (v7 : Int64) (v9 : Int32)   (st : St) (res : (Unit × St)) (hK59 : ∀ (v1 : Int32) (v2 : Int64) (v4 : Int32) (v5 : Int64) (v7 : Int64) (v9 : Int32) (st : St), K59 v1 v2 v4 v5 v7 v9 st = some res → At p l e (rmK 0) s m args below meth c D G ad (MQV D G ad below args s res) 11 st [(0, .ref (ad 130)), (1, .int v1), (2, .long v2), (4, .int v4), (5, .long v5), (7, .long v7), (9, .int v9)] 59 []) (hf : fX11_shares_s126 n K59  v1 v2 v4 v5 v7 v9 st = some res) : At p l e (rmK 0) s m args below meth c D G ad (MQV D G ad below args s res) 11 st [(0, .ref (ad 130)), (1, .int v1), (2, .long v2), (4, .int v4), (5, .long v5), (7, .long v7), (9, .int v9)] 126 [] := by
  obtain ⟨hx, hb, hml, hown, hts, hr, hlk, hK, had, hSt⟩ := id C
  intro H locs ls hl hP hS
  unfold fX11_shares_s126 at hf
  refine lv_lload hx hb dX11_shares_126 (lv_at hl 5 rfl) ?_
  refine lv_aload_n hx hb dX11_shares_128 rfl (lv_at hl 0 rfl) ?_
  refine g_getR hx hb hts inlX11 hown hK hP 130 ct_130 rfl 27 (by decide) (hts _ wm_7_23) rfl dX11_shares_129 ?_
  refine lv_iload hx hb dX11_shares_132 (lv_at hl 6 rfl) ?_
  obtain ⟨g1, hf⟩ := gd hf
  refine g_lald hx hb hK hP 152 ct_152 g1 dX11_shares_134 ?_
  refine lv_lsub hx hb dX11_shares_135 ?_
  refine lv_lstore (lv' := [(7, .long (v7 - (st.2 152 v9.toNatClampNeg))), (0, .ref (ad 130)), (1, .int v1), (2, .long v2), (4, .int v4), (5, .long v5), (9, .int v9)]) hx hb dX11_shares_136 hl (by decide) rfl (fun ls hl => ?_)
  refine lv_iinc (v := v9 + 1) (lv' := [(9, .int (v9 + 1)), (7, .long (v7 - (st.2 152 v9.toNatClampNeg))), (0, .ref (ad 130)), (1, .int v1), (2, .long v2), (4, .int v4), (5, .long v5)]) hx hb dX11_shares_138 hl (k := 6) rfl rfl (by decide) rfl (fun ls hl => ?_)
  refine lv_goto (tgt := 59) hx hb dX11_shares_141 (by decide) ?_
  exact hK59 v1 v2 v4 v5 (v7 - (st.2 152 v9.toNatClampNeg)) (v9 + 1)  st hf H locs ls (lv_sub hl [2, 3, 4, 5, 6, 1, 0] rfl) hP hS
def fX11_shares_s125 (n : Nat) (K59 : Int32 → Int64 → Int32 → Int64 → Int64 → Int32 → St → Option (Unit × St))  (v1 : Int32) (v2 : Int64) (v4 : Int32) (v5 : Int64) (v7 : Int64) (v9 : Int32) (k1 : Int32) (k2 : Int64) (st : St) : Option (Unit × St) := if inb k1 8 = true then (fX11_shares_s126 n K59 v1 v2 v4 v5 v7 v9 (setJ st 152 k1.toNatClampNeg k2)) else none
set_option maxHeartbeats 4000000 in
set_option maxRecDepth 100000 in
theorem wX11_shares_s125 (C : Cx p s m args meth c cX11_shares 11 wsL_law RX11 none D G ad) (n : Nat) (K59 : Int32 → Int64 → Int32 → Int64 → Int64 → Int32 → St → Option (Unit × St))  (v1 : Int32) (v2 : Int64) (v4 : Int32) (v5 : Int64) (v7 : Int64) (v9 : Int32) (k1 : Int32) (k2 : Int64)   (st : St) (res : (Unit × St)) (hK59 : ∀ (v1 : Int32) (v2 : Int64) (v4 : Int32) (v5 : Int64) (v7 : Int64) (v9 : Int32) (st : St), K59 v1 v2 v4 v5 v7 v9 st = some res → At p l e (rmK 0) s m args below meth c D G ad (MQV D G ad below args s res) 11 st [(0, .ref (ad 130)), (1, .int v1), (2, .long v2), (4, .int v4), (5, .long v5), (7, .long v7), (9, .int v9)] 59 []) (hf : fX11_shares_s125 n K59  v1 v2 v4 v5 v7 v9 k1 k2 st = some res) : At p l e (rmK 0) s m args below meth c D G ad (MQV D G ad below args s res) 11 st [(0, .ref (ad 130)), (1, .int v1), (2, .long v2), (4, .int v4), (5, .long v5), (7, .long v7), (9, .int v9)] 125 [.long k2, .int k1, .ref (ad 152)] := by
  obtain ⟨hx, hb, hml, hown, hts, hr, hlk, hK, had, hSt⟩ := id C
  intro H locs ls hl hP hS
  unfold fX11_shares_s125 at hf
  obtain ⟨g1, hf⟩ := gd hf
  refine g_last hx hb hK had hP hS 152 ct_152 g1 dX11_shares_125 (fun H locs hP hS => ?_)
  exact wX11_shares_s126 C n K59 v1 v2 v4 v5 v7 v9 (setJ st 152 k1.toNatClampNeg k2) res hK59 hf H locs ls (lv_sub hl [0, 1, 2, 3, 4, 5, 6] rfl) hP hS
def fX11_shares_s124 (n : Nat) (K59 : Int32 → Int64 → Int32 → Int64 → Int64 → Int32 → St → Option (Unit × St))  (v1 : Int32) (v2 : Int64) (v4 : Int32) (v5 : Int64) (v7 : Int64) (v9 : Int32) (k1 : Int32) (st : St) : Option (Unit × St) := fX11_shares_s125 n K59 v1 v2 v4 v5 v7 v9 k1 0 st
set_option maxHeartbeats 4000000 in
set_option maxRecDepth 100000 in
theorem wX11_shares_s124 (C : Cx p s m args meth c cX11_shares 11 wsL_law RX11 none D G ad) (n : Nat) (K59 : Int32 → Int64 → Int32 → Int64 → Int64 → Int32 → St → Option (Unit × St))  (v1 : Int32) (v2 : Int64) (v4 : Int32) (v5 : Int64) (v7 : Int64) (v9 : Int32) (k1 : Int32)   (st : St) (res : (Unit × St)) (hK59 : ∀ (v1 : Int32) (v2 : Int64) (v4 : Int32) (v5 : Int64) (v7 : Int64) (v9 : Int32) (st : St), K59 v1 v2 v4 v5 v7 v9 st = some res → At p l e (rmK 0) s m args below meth c D G ad (MQV D G ad below args s res) 11 st [(0, .ref (ad 130)), (1, .int v1), (2, .long v2), (4, .int v4), (5, .long v5), (7, .long v7), (9, .int v9)] 59 []) (hf : fX11_shares_s124 n K59  v1 v2 v4 v5 v7 v9 k1 st = some res) : At p l e (rmK 0) s m args below meth c D G ad (MQV D G ad below args s res) 11 st [(0, .ref (ad 130)), (1, .int v1), (2, .long v2), (4, .int v4), (5, .long v5), (7, .long v7), (9, .int v9)] 124 [.int k1, .ref (ad 152)] := by
  obtain ⟨hx, hb, hml, hown, hts, hr, hlk, hK, had, hSt⟩ := id C
  intro H locs ls hl hP hS
  unfold fX11_shares_s124 at hf
  refine lv_lconst (v := 0) hx hb dX11_shares_124 (by decide) ?_
  exact wX11_shares_s125 C n K59 v1 v2 v4 v5 v7 v9 k1 0 st res hK59 hf H locs ls (lv_sub hl [0, 1, 2, 3, 4, 5, 6] rfl) hP hS
def fX11_shares_s109 (n : Nat) (K59 : Int32 → Int64 → Int32 → Int64 → Int64 → Int32 → St → Option (Unit × St))  (v1 : Int32) (v2 : Int64) (v4 : Int32) (v5 : Int64) (v7 : Int64) (v9 : Int32) (k1 : Int32) (st : St) : Option (Unit × St) := if inb v9 8 = true then (if v5 = 0 then none else (fX11_shares_s125 n K59 v1 v2 v4 v5 v7 v9 k1 ((v2 * (st.2 151 v9.toNatClampNeg)) / v5) st)) else none
set_option maxHeartbeats 4000000 in
set_option maxRecDepth 100000 in
theorem wX11_shares_s109 (C : Cx p s m args meth c cX11_shares 11 wsL_law RX11 none D G ad) (n : Nat) (K59 : Int32 → Int64 → Int32 → Int64 → Int64 → Int32 → St → Option (Unit × St))  (v1 : Int32) (v2 : Int64) (v4 : Int32) (v5 : Int64) (v7 : Int64) (v9 : Int32) (k1 : Int32)   (st : St) (res : (Unit × St)) (hK59 : ∀ (v1 : Int32) (v2 : Int64) (v4 : Int32) (v5 : Int64) (v7 : Int64) (v9 : Int32) (st : St), K59 v1 v2 v4 v5 v7 v9 st = some res → At p l e (rmK 0) s m args below meth c D G ad (MQV D G ad below args s res) 11 st [(0, .ref (ad 130)), (1, .int v1), (2, .long v2), (4, .int v4), (5, .long v5), (7, .long v7), (9, .int v9)] 59 []) (hf : fX11_shares_s109 n K59  v1 v2 v4 v5 v7 v9 k1 st = some res) : At p l e (rmK 0) s m args below meth c D G ad (MQV D G ad below args s res) 11 st [(0, .ref (ad 130)), (1, .int v1), (2, .long v2), (4, .int v4), (5, .long v5), (7, .long v7), (9, .int v9)] 109 [.int k1, .ref (ad 152)] := by
  obtain ⟨hx, hb, hml, hown, hts, hr, hlk, hK, had, hSt⟩ := id C
  intro H locs ls hl hP hS
  unfold fX11_shares_s109 at hf
  refine lv_lload_n hx hb dX11_shares_109 rfl (lv_at hl 2 rfl) ?_
  refine lv_aload_n hx hb dX11_shares_110 rfl (lv_at hl 0 rfl) ?_
  refine g_getR hx hb hts inlX11 hown hK hP 130 ct_130 rfl 26 (by decide) (hts _ wm_7_22) rfl dX11_shares_111 ?_
  refine lv_iload hx hb dX11_shares_114 (lv_at hl 6 rfl) ?_
  obtain ⟨g1, hf⟩ := gd hf
  refine g_lald hx hb hK hP 151 ct_151 g1 dX11_shares_116 ?_
  refine lv_lmul hx hb dX11_shares_117 ?_
  refine lv_lload hx hb dX11_shares_118 (lv_at hl 4 rfl) ?_
  obtain ⟨g2, hf⟩ := gn hf
  refine lv_ldiv hx hb dX11_shares_120 g2 ?_
  refine lv_goto (tgt := 125) hx hb dX11_shares_121 (by decide) ?_
  exact wX11_shares_s125 C n K59 v1 v2 v4 v5 v7 v9 k1 ((v2 * (st.2 151 v9.toNatClampNeg)) / v5) st res hK59 hf H locs ls (lv_sub hl [0, 1, 2, 3, 4, 5, 6] rfl) hP hS
def fX11_shares_s104 (n : Nat) (K59 : Int32 → Int64 → Int32 → Int64 → Int64 → Int32 → St → Option (Unit × St))  (v1 : Int32) (v2 : Int64) (v4 : Int32) (v5 : Int64) (v7 : Int64) (v9 : Int32) (k1 : Int32) (st : St) : Option (Unit × St) := if v1 = 1 then fX11_shares_s109 n K59 v1 v2 v4 v5 v7 v9 k1 st else fX11_shares_s124 n K59 v1 v2 v4 v5 v7 v9 k1 st
set_option maxHeartbeats 4000000 in
set_option maxRecDepth 100000 in
theorem wX11_shares_s104 (C : Cx p s m args meth c cX11_shares 11 wsL_law RX11 none D G ad) (n : Nat) (K59 : Int32 → Int64 → Int32 → Int64 → Int64 → Int32 → St → Option (Unit × St))  (v1 : Int32) (v2 : Int64) (v4 : Int32) (v5 : Int64) (v7 : Int64) (v9 : Int32) (k1 : Int32)   (st : St) (res : (Unit × St)) (hK59 : ∀ (v1 : Int32) (v2 : Int64) (v4 : Int32) (v5 : Int64) (v7 : Int64) (v9 : Int32) (st : St), K59 v1 v2 v4 v5 v7 v9 st = some res → At p l e (rmK 0) s m args below meth c D G ad (MQV D G ad below args s res) 11 st [(0, .ref (ad 130)), (1, .int v1), (2, .long v2), (4, .int v4), (5, .long v5), (7, .long v7), (9, .int v9)] 59 []) (hf : fX11_shares_s104 n K59  v1 v2 v4 v5 v7 v9 k1 st = some res) : At p l e (rmK 0) s m args below meth c D G ad (MQV D G ad below args s res) 11 st [(0, .ref (ad 130)), (1, .int v1), (2, .long v2), (4, .int v4), (5, .long v5), (7, .long v7), (9, .int v9)] 104 [.int k1, .ref (ad 152)] := by
  obtain ⟨hx, hb, hml, hown, hts, hr, hlk, hK, had, hSt⟩ := id C
  intro H locs ls hl hP hS
  unfold fX11_shares_s104 at hf
  refine lv_iload_n hx hb dX11_shares_104 rfl (lv_at hl 1 rfl) ?_
  refine lv_iconst (v := 1) hx hb dX11_shares_105 (by decide) ?_
  refine lv_icmp_ne (tgt := 124) hx hb dX11_shares_106 (by decide) (fun q => ?_) (fun q => ?_)
  · exact wX11_shares_s124 C n K59 v1 v2 v4 v5 v7 v9 k1 st res hK59 (ie hf q) H locs ls (lv_sub hl [0, 1, 2, 3, 4, 5, 6] rfl) hP hS
  · exact wX11_shares_s109 C n K59 v1 v2 v4 v5 v7 v9 k1 st res hK59 (it hf q) H locs ls (lv_sub hl [0, 1, 2, 3, 4, 5, 6] rfl) hP hS
def fX11_shares_s99 (n : Nat) (K59 : Int32 → Int64 → Int32 → Int64 → Int64 → Int32 → St → Option (Unit × St))  (v1 : Int32) (v2 : Int64) (v4 : Int32) (v5 : Int64) (v7 : Int64) (v9 : Int32) (k1 : Int32) (st : St) : Option (Unit × St) := fX11_shares_s125 n K59 v1 v2 v4 v5 v7 v9 k1 v7 st
set_option maxHeartbeats 4000000 in
set_option maxRecDepth 100000 in
theorem wX11_shares_s99 (C : Cx p s m args meth c cX11_shares 11 wsL_law RX11 none D G ad) (n : Nat) (K59 : Int32 → Int64 → Int32 → Int64 → Int64 → Int32 → St → Option (Unit × St))  (v1 : Int32) (v2 : Int64) (v4 : Int32) (v5 : Int64) (v7 : Int64) (v9 : Int32) (k1 : Int32)   (st : St) (res : (Unit × St)) (hK59 : ∀ (v1 : Int32) (v2 : Int64) (v4 : Int32) (v5 : Int64) (v7 : Int64) (v9 : Int32) (st : St), K59 v1 v2 v4 v5 v7 v9 st = some res → At p l e (rmK 0) s m args below meth c D G ad (MQV D G ad below args s res) 11 st [(0, .ref (ad 130)), (1, .int v1), (2, .long v2), (4, .int v4), (5, .long v5), (7, .long v7), (9, .int v9)] 59 []) (hf : fX11_shares_s99 n K59  v1 v2 v4 v5 v7 v9 k1 st = some res) : At p l e (rmK 0) s m args below meth c D G ad (MQV D G ad below args s res) 11 st [(0, .ref (ad 130)), (1, .int v1), (2, .long v2), (4, .int v4), (5, .long v5), (7, .long v7), (9, .int v9)] 99 [.int k1, .ref (ad 152)] := by
  obtain ⟨hx, hb, hml, hown, hts, hr, hlk, hK, had, hSt⟩ := id C
  intro H locs ls hl hP hS
  unfold fX11_shares_s99 at hf
  refine lv_lload hx hb dX11_shares_99 (lv_at hl 5 rfl) ?_
  refine lv_goto (tgt := 125) hx hb dX11_shares_101 (by decide) ?_
  exact wX11_shares_s125 C n K59 v1 v2 v4 v5 v7 v9 k1 v7 st res hK59 hf H locs ls (lv_sub hl [0, 1, 2, 3, 4, 5, 6] rfl) hP hS
def fX11_shares_s89 (n : Nat) (K59 : Int32 → Int64 → Int32 → Int64 → Int64 → Int32 → St → Option (Unit × St))  (v1 : Int32) (v2 : Int64) (v4 : Int32) (v5 : Int64) (v7 : Int64) (v9 : Int32) (k1 : Int32) (st : St) : Option (Unit × St) := if inb v9 8 = true then (fX11_shares_s125 n K59 v1 v2 v4 v5 v7 v9 k1 (st.2 151 v9.toNatClampNeg) st) else none
set_option maxHeartbeats 4000000 in
set_option maxRecDepth 100000 in
theorem wX11_shares_s89 (C : Cx p s m args meth c cX11_shares 11 wsL_law RX11 none D G ad) (n : Nat) (K59 : Int32 → Int64 → Int32 → Int64 → Int64 → Int32 → St → Option (Unit × St))  (v1 : Int32) (v2 : Int64) (v4 : Int32) (v5 : Int64) (v7 : Int64) (v9 : Int32) (k1 : Int32)   (st : St) (res : (Unit × St)) (hK59 : ∀ (v1 : Int32) (v2 : Int64) (v4 : Int32) (v5 : Int64) (v7 : Int64) (v9 : Int32) (st : St), K59 v1 v2 v4 v5 v7 v9 st = some res → At p l e (rmK 0) s m args below meth c D G ad (MQV D G ad below args s res) 11 st [(0, .ref (ad 130)), (1, .int v1), (2, .long v2), (4, .int v4), (5, .long v5), (7, .long v7), (9, .int v9)] 59 []) (hf : fX11_shares_s89 n K59  v1 v2 v4 v5 v7 v9 k1 st = some res) : At p l e (rmK 0) s m args below meth c D G ad (MQV D G ad below args s res) 11 st [(0, .ref (ad 130)), (1, .int v1), (2, .long v2), (4, .int v4), (5, .long v5), (7, .long v7), (9, .int v9)] 89 [.int k1, .ref (ad 152)] := by
  obtain ⟨hx, hb, hml, hown, hts, hr, hlk, hK, had, hSt⟩ := id C
  intro H locs ls hl hP hS
  unfold fX11_shares_s89 at hf
  refine lv_aload_n hx hb dX11_shares_89 rfl (lv_at hl 0 rfl) ?_
  refine g_getR hx hb hts inlX11 hown hK hP 130 ct_130 rfl 26 (by decide) (hts _ wm_7_22) rfl dX11_shares_90 ?_
  refine lv_iload hx hb dX11_shares_93 (lv_at hl 6 rfl) ?_
  obtain ⟨g1, hf⟩ := gd hf
  refine g_lald hx hb hK hP 151 ct_151 g1 dX11_shares_95 ?_
  refine lv_goto (tgt := 125) hx hb dX11_shares_96 (by decide) ?_
  exact wX11_shares_s125 C n K59 v1 v2 v4 v5 v7 v9 k1 (st.2 151 v9.toNatClampNeg) st res hK59 hf H locs ls (lv_sub hl [0, 1, 2, 3, 4, 5, 6] rfl) hP hS
def fX11_shares_s76 (n : Nat) (K59 : Int32 → Int64 → Int32 → Int64 → Int64 → Int32 → St → Option (Unit × St))  (v1 : Int32) (v2 : Int64) (v4 : Int32) (v5 : Int64) (v7 : Int64) (v9 : Int32) (k1 : Int32) (st : St) : Option (Unit × St) := if inb v9 8 = true then (if v7 ≤ (st.2 151 v9.toNatClampNeg) then fX11_shares_s99 n K59 v1 v2 v4 v5 v7 v9 k1 st else fX11_shares_s89 n K59 v1 v2 v4 v5 v7 v9 k1 st) else none
set_option maxHeartbeats 4000000 in
set_option maxRecDepth 100000 in
theorem wX11_shares_s76 (C : Cx p s m args meth c cX11_shares 11 wsL_law RX11 none D G ad) (n : Nat) (K59 : Int32 → Int64 → Int32 → Int64 → Int64 → Int32 → St → Option (Unit × St))  (v1 : Int32) (v2 : Int64) (v4 : Int32) (v5 : Int64) (v7 : Int64) (v9 : Int32) (k1 : Int32)   (st : St) (res : (Unit × St)) (hK59 : ∀ (v1 : Int32) (v2 : Int64) (v4 : Int32) (v5 : Int64) (v7 : Int64) (v9 : Int32) (st : St), K59 v1 v2 v4 v5 v7 v9 st = some res → At p l e (rmK 0) s m args below meth c D G ad (MQV D G ad below args s res) 11 st [(0, .ref (ad 130)), (1, .int v1), (2, .long v2), (4, .int v4), (5, .long v5), (7, .long v7), (9, .int v9)] 59 []) (hf : fX11_shares_s76 n K59  v1 v2 v4 v5 v7 v9 k1 st = some res) : At p l e (rmK 0) s m args below meth c D G ad (MQV D G ad below args s res) 11 st [(0, .ref (ad 130)), (1, .int v1), (2, .long v2), (4, .int v4), (5, .long v5), (7, .long v7), (9, .int v9)] 76 [.int k1, .ref (ad 152)] := by
  obtain ⟨hx, hb, hml, hown, hts, hr, hlk, hK, had, hSt⟩ := id C
  intro H locs ls hl hP hS
  unfold fX11_shares_s76 at hf
  refine lv_aload_n hx hb dX11_shares_76 rfl (lv_at hl 0 rfl) ?_
  refine g_getR hx hb hts inlX11 hown hK hP 130 ct_130 rfl 26 (by decide) (hts _ wm_7_22) rfl dX11_shares_77 ?_
  refine lv_iload hx hb dX11_shares_80 (lv_at hl 6 rfl) ?_
  obtain ⟨g1, hf⟩ := gd hf
  refine g_lald hx hb hK hP 151 ct_151 g1 dX11_shares_82 ?_
  refine lv_lload hx hb dX11_shares_83 (lv_at hl 5 rfl) ?_
  refine g_lcmp_ge (tgt := 99) hx hb dX11_shares_85 dX11_shares_86 (by decide) (fun q => ?_) (fun q => ?_)
  · exact wX11_shares_s99 C n K59 v1 v2 v4 v5 v7 v9 k1 st res hK59 (it hf q) H locs ls (lv_sub hl [0, 1, 2, 3, 4, 5, 6] rfl) hP hS
  · exact wX11_shares_s89 C n K59 v1 v2 v4 v5 v7 v9 k1 st res hK59 (ie hf q) H locs ls (lv_sub hl [0, 1, 2, 3, 4, 5, 6] rfl) hP hS
def fX11_shares_s66 (n : Nat) (K59 : Int32 → Int64 → Int32 → Int64 → Int64 → Int32 → St → Option (Unit × St))  (v1 : Int32) (v2 : Int64) (v4 : Int32) (v5 : Int64) (v7 : Int64) (v9 : Int32) (st : St) : Option (Unit × St) := if v1 = 0 then fX11_shares_s76 n K59 v1 v2 v4 v5 v7 v9 v9 st else fX11_shares_s104 n K59 v1 v2 v4 v5 v7 v9 v9 st
set_option maxHeartbeats 4000000 in
set_option maxRecDepth 100000 in
theorem wX11_shares_s66 (C : Cx p s m args meth c cX11_shares 11 wsL_law RX11 none D G ad) (n : Nat) (K59 : Int32 → Int64 → Int32 → Int64 → Int64 → Int32 → St → Option (Unit × St))  (v1 : Int32) (v2 : Int64) (v4 : Int32) (v5 : Int64) (v7 : Int64) (v9 : Int32)   (st : St) (res : (Unit × St)) (hK59 : ∀ (v1 : Int32) (v2 : Int64) (v4 : Int32) (v5 : Int64) (v7 : Int64) (v9 : Int32) (st : St), K59 v1 v2 v4 v5 v7 v9 st = some res → At p l e (rmK 0) s m args below meth c D G ad (MQV D G ad below args s res) 11 st [(0, .ref (ad 130)), (1, .int v1), (2, .long v2), (4, .int v4), (5, .long v5), (7, .long v7), (9, .int v9)] 59 []) (hf : fX11_shares_s66 n K59  v1 v2 v4 v5 v7 v9 st = some res) : At p l e (rmK 0) s m args below meth c D G ad (MQV D G ad below args s res) 11 st [(0, .ref (ad 130)), (1, .int v1), (2, .long v2), (4, .int v4), (5, .long v5), (7, .long v7), (9, .int v9)] 66 [] := by
  obtain ⟨hx, hb, hml, hown, hts, hr, hlk, hK, had, hSt⟩ := id C
  intro H locs ls hl hP hS
  unfold fX11_shares_s66 at hf
  refine lv_aload_n hx hb dX11_shares_66 rfl (lv_at hl 0 rfl) ?_
  refine g_getR hx hb hts inlX11 hown hK hP 130 ct_130 rfl 27 (by decide) (hts _ wm_7_23) rfl dX11_shares_67 ?_
  refine lv_iload hx hb dX11_shares_70 (lv_at hl 6 rfl) ?_
  refine lv_iload_n hx hb dX11_shares_72 rfl (lv_at hl 1 rfl) ?_
  refine lv_if_ne (tgt := 104) hx hb dX11_shares_73 (by decide) (fun q => ?_) (fun q => ?_)
  · exact wX11_shares_s104 C n K59 v1 v2 v4 v5 v7 v9 v9 st res hK59 (ie hf q) H locs ls (lv_sub hl [0, 1, 2, 3, 4, 5, 6] rfl) hP hS
  · exact wX11_shares_s76 C n K59 v1 v2 v4 v5 v7 v9 v9 st res hK59 (it hf q) H locs ls (lv_sub hl [0, 1, 2, 3, 4, 5, 6] rfl) hP hS
def fX11_shares_s59 (n : Nat) (K59 : Int32 → Int64 → Int32 → Int64 → Int64 → Int32 → St → Option (Unit × St))  (v1 : Int32) (v2 : Int64) (v4 : Int32) (v5 : Int64) (v7 : Int64) (v9 : Int32) (st : St) : Option (Unit × St) := if v4 ≤ v9 then fX11_shares_s144 n v1 v4 v7 st else fX11_shares_s66 n K59 v1 v2 v4 v5 v7 v9 st
set_option maxHeartbeats 4000000 in
set_option maxRecDepth 100000 in
theorem wX11_shares_s59 (C : Cx p s m args meth c cX11_shares 11 wsL_law RX11 none D G ad) (n : Nat) (K59 : Int32 → Int64 → Int32 → Int64 → Int64 → Int32 → St → Option (Unit × St))  (v1 : Int32) (v2 : Int64) (v4 : Int32) (v5 : Int64) (v7 : Int64) (v9 : Int32)   (st : St) (res : (Unit × St)) (hK59 : ∀ (v1 : Int32) (v2 : Int64) (v4 : Int32) (v5 : Int64) (v7 : Int64) (v9 : Int32) (st : St), K59 v1 v2 v4 v5 v7 v9 st = some res → At p l e (rmK 0) s m args below meth c D G ad (MQV D G ad below args s res) 11 st [(0, .ref (ad 130)), (1, .int v1), (2, .long v2), (4, .int v4), (5, .long v5), (7, .long v7), (9, .int v9)] 59 []) (hf : fX11_shares_s59 n K59  v1 v2 v4 v5 v7 v9 st = some res) : At p l e (rmK 0) s m args below meth c D G ad (MQV D G ad below args s res) 11 st [(0, .ref (ad 130)), (1, .int v1), (2, .long v2), (4, .int v4), (5, .long v5), (7, .long v7), (9, .int v9)] 59 [] := by
  obtain ⟨hx, hb, hml, hown, hts, hr, hlk, hK, had, hSt⟩ := id C
  intro H locs ls hl hP hS
  unfold fX11_shares_s59 at hf
  refine lv_iload hx hb dX11_shares_59 (lv_at hl 6 rfl) ?_
  refine lv_iload hx hb dX11_shares_61 (lv_at hl 3 rfl) ?_
  refine lv_icmp_ge (tgt := 144) hx hb dX11_shares_63 (by decide) (fun q => ?_) (fun q => ?_)
  · exact wX11_shares_s144 C n v1 v4 v7 st res (it hf q) H locs ls (lv_sub hl [0, 1, 3, 5] rfl) hP hS
  · exact wX11_shares_s66 C n K59 v1 v2 v4 v5 v7 v9 st res hK59 (ie hf q) H locs ls (lv_sub hl [0, 1, 2, 3, 4, 5, 6] rfl) hP hS
def fX11_shares_L59 (n : Nat)   : Nat → Int32 → Int64 → Int32 → Int64 → Int64 → Int32 → St → Option (Unit × St)
  | 0, _, _, _, _, _, _, _ => none
  | k + 1, v1, v2, v4, v5, v7, v9, st => fX11_shares_s59 n (fX11_shares_L59 n k)  v1 v2 v4 v5 v7 v9 st
theorem wX11_shares_L59 (C : Cx p s m args meth c cX11_shares 11 wsL_law RX11 none D G ad) (n : Nat)    (res : (Unit × St))  : ∀ (k : Nat) (v1 : Int32) (v2 : Int64) (v4 : Int32) (v5 : Int64) (v7 : Int64) (v9 : Int32)  (st : St), fX11_shares_L59 n k v1 v2 v4 v5 v7 v9 st = some res → At p l e (rmK 0) s m args below meth c D G ad (MQV D G ad below args s res) 11 st [(0, .ref (ad 130)), (1, .int v1), (2, .long v2), (4, .int v4), (5, .long v5), (7, .long v7), (9, .int v9)] 59 [] := by
  intro k
  induction k with
  | zero => intro v1 v2 v4 v5 v7 v9  st h; exact absurd h (by intro q; cases q)
  | succ k ih => intro v1 v2 v4 v5 v7 v9  st h; exact wX11_shares_s59 C n (fX11_shares_L59 n k)  v1 v2 v4 v5 v7 v9   st res ih h
def fX11_shares_s53 (n : Nat)   (v1 : Int32) (v2 : Int64) (v4 : Int32) (v5 : Int64) (st : St) : Option (Unit × St) := fX11_shares_L59 n n v1 v2 v4 v5 v2 0 st
set_option maxHeartbeats 4000000 in
set_option maxRecDepth 100000 in
theorem wX11_shares_s53 (C : Cx p s m args meth c cX11_shares 11 wsL_law RX11 none D G ad) (n : Nat)   (v1 : Int32) (v2 : Int64) (v4 : Int32) (v5 : Int64)   (st : St) (res : (Unit × St))  (hf : fX11_shares_s53 n   v1 v2 v4 v5 st = some res) : At p l e (rmK 0) s m args below meth c D G ad (MQV D G ad below args s res) 11 st [(0, .ref (ad 130)), (1, .int v1), (2, .long v2), (4, .int v4), (5, .long v5)] 53 [] := by
  obtain ⟨hx, hb, hml, hown, hts, hr, hlk, hK, had, hSt⟩ := id C
  intro H locs ls hl hP hS
  unfold fX11_shares_s53 at hf
  refine lv_lload_n hx hb dX11_shares_53 rfl (lv_at hl 2 rfl) ?_
  refine lv_lstore (lv' := [(7, .long v2), (0, .ref (ad 130)), (1, .int v1), (2, .long v2), (4, .int v4), (5, .long v5)]) hx hb dX11_shares_54 hl (by decide) rfl (fun ls hl => ?_)
  refine lv_iconst (v := 0) hx hb dX11_shares_56 (by decide) ?_
  refine lv_istore (lv' := [(9, .int 0), (7, .long v2), (0, .ref (ad 130)), (1, .int v1), (2, .long v2), (4, .int v4), (5, .long v5)]) hx hb dX11_shares_57 hl (by decide) rfl (fun ls hl => ?_)
  exact wX11_shares_L59 C n res n v1 v2 v4 v5 v2 0 st hf H locs ls (lv_sub hl [2, 3, 4, 5, 6, 1, 0] rfl) hP hS
def fX11_shares_s52 (n : Nat)    (st : St) : Option (Unit × St) := some ((), st)
set_option maxHeartbeats 4000000 in
set_option maxRecDepth 100000 in
theorem wX11_shares_s52 (C : Cx p s m args meth c cX11_shares 11 wsL_law RX11 none D G ad) (n : Nat)      (st : St) (res : (Unit × St))  (hf : fX11_shares_s52 n    st = some res) : At p l e (rmK 0) s m args below meth c D G ad (MQV D G ad below args s res) 11 st [] 52 [] := by
  obtain ⟨hx, hb, hml, hown, hts, hr, hlk, hK, had, hSt⟩ := id C
  intro H locs ls hl hP hS
  unfold fX11_shares_s52 at hf
  exact g_vret hx hb hr hlk hP hS dX11_shares_52 hf
def fX11_shares_s45 (n : Nat)   (v1 : Int32) (v2 : Int64) (v4 : Int32) (v5 : Int64) (st : St) : Option (Unit × St) := if v2 < v5 then fX11_shares_s53 n v1 v2 v4 v5 st else fX11_shares_s52 n st
set_option maxHeartbeats 4000000 in
set_option maxRecDepth 100000 in
theorem wX11_shares_s45 (C : Cx p s m args meth c cX11_shares 11 wsL_law RX11 none D G ad) (n : Nat)   (v1 : Int32) (v2 : Int64) (v4 : Int32) (v5 : Int64)   (st : St) (res : (Unit × St))  (hf : fX11_shares_s45 n   v1 v2 v4 v5 st = some res) : At p l e (rmK 0) s m args below meth c D G ad (MQV D G ad below args s res) 11 st [(0, .ref (ad 130)), (1, .int v1), (2, .long v2), (4, .int v4), (5, .long v5)] 45 [] := by
  obtain ⟨hx, hb, hml, hown, hts, hr, hlk, hK, had, hSt⟩ := id C
  intro H locs ls hl hP hS
  unfold fX11_shares_s45 at hf
  refine lv_lload_n hx hb dX11_shares_45 rfl (lv_at hl 2 rfl) ?_
  refine lv_lload hx hb dX11_shares_46 (lv_at hl 4 rfl) ?_
  refine g_lcmp_lt (tgt := 53) hx hb dX11_shares_48 dX11_shares_49 (by decide) (fun q => ?_) (fun q => ?_)
  · exact wX11_shares_s53 C n v1 v2 v4 v5 st res (it hf q) H locs ls (lv_sub hl [0, 1, 2, 3, 4] rfl) hP hS
  · exact wX11_shares_s52 C n st res (ie hf q) H locs ls (lv_sub hl [] rfl) hP hS
def fX11_shares_s39 (n : Nat) (K6 : Int32 → Int64 → Int32 → Int64 → Int32 → St → Option (Unit × St))  (v1 : Int32) (v2 : Int64) (v4 : Int32) (v5 : Int64) (v7 : Int32) (st : St) : Option (Unit × St) := K6 v1 v2 v4 v5 (v7 + 1) st
set_option maxHeartbeats 4000000 in
set_option maxRecDepth 100000 in
theorem wX11_shares_s39 (C : Cx p s m args meth c cX11_shares 11 wsL_law RX11 none D G ad) (n : Nat) (K6 : Int32 → Int64 → Int32 → Int64 → Int32 → St → Option (Unit × St))  (v1 : Int32) (v2 : Int64) (v4 : Int32) (v5 : Int64) (v7 : Int32)   (st : St) (res : (Unit × St)) (hK6 : ∀ (v1 : Int32) (v2 : Int64) (v4 : Int32) (v5 : Int64) (v7 : Int32) (st : St), K6 v1 v2 v4 v5 v7 st = some res → At p l e (rmK 0) s m args below meth c D G ad (MQV D G ad below args s res) 11 st [(0, .ref (ad 130)), (1, .int v1), (2, .long v2), (4, .int v4), (5, .long v5), (7, .int v7)] 6 []) (hf : fX11_shares_s39 n K6  v1 v2 v4 v5 v7 st = some res) : At p l e (rmK 0) s m args below meth c D G ad (MQV D G ad below args s res) 11 st [(0, .ref (ad 130)), (1, .int v1), (2, .long v2), (4, .int v4), (5, .long v5), (7, .int v7)] 39 [] := by
  obtain ⟨hx, hb, hml, hown, hts, hr, hlk, hK, had, hSt⟩ := id C
  intro H locs ls hl hP hS
  unfold fX11_shares_s39 at hf
  refine lv_iinc (v := v7 + 1) (lv' := [(7, .int (v7 + 1)), (0, .ref (ad 130)), (1, .int v1), (2, .long v2), (4, .int v4), (5, .long v5)]) hx hb dX11_shares_39 hl (k := 5) rfl rfl (by decide) rfl (fun ls hl => ?_)
  refine lv_goto (tgt := 6) hx hb dX11_shares_42 (by decide) ?_
  exact hK6 v1 v2 v4 v5 (v7 + 1)  st hf H locs ls (lv_sub hl [1, 2, 3, 4, 5, 0] rfl) hP hS
def fX11_shares_s13 (n : Nat) (K6 : Int32 → Int64 → Int32 → Int64 → Int32 → St → Option (Unit × St))  (v1 : Int32) (v2 : Int64) (v4 : Int32) (v5 : Int64) (v7 : Int32) (st : St) : Option (Unit × St) := if inb v7 8 = true then (if inb v7 8 = true then (if inb v7 8 = true then (fX11_shares_s39 n K6 v1 v2 v4 (v5 + (st.2 151 v7.toNatClampNeg)) v7 (setJ st 152 v7.toNatClampNeg (st.2 151 v7.toNatClampNeg))) else none) else none) else none
set_option maxHeartbeats 4000000 in
set_option maxRecDepth 100000 in
theorem wX11_shares_s13 (C : Cx p s m args meth c cX11_shares 11 wsL_law RX11 none D G ad) (n : Nat) (K6 : Int32 → Int64 → Int32 → Int64 → Int32 → St → Option (Unit × St))  (v1 : Int32) (v2 : Int64) (v4 : Int32) (v5 : Int64) (v7 : Int32)   (st : St) (res : (Unit × St)) (hK6 : ∀ (v1 : Int32) (v2 : Int64) (v4 : Int32) (v5 : Int64) (v7 : Int32) (st : St), K6 v1 v2 v4 v5 v7 st = some res → At p l e (rmK 0) s m args below meth c D G ad (MQV D G ad below args s res) 11 st [(0, .ref (ad 130)), (1, .int v1), (2, .long v2), (4, .int v4), (5, .long v5), (7, .int v7)] 6 []) (hf : fX11_shares_s13 n K6  v1 v2 v4 v5 v7 st = some res) : At p l e (rmK 0) s m args below meth c D G ad (MQV D G ad below args s res) 11 st [(0, .ref (ad 130)), (1, .int v1), (2, .long v2), (4, .int v4), (5, .long v5), (7, .int v7)] 13 [] := by
  obtain ⟨hx, hb, hml, hown, hts, hr, hlk, hK, had, hSt⟩ := id C
  intro H locs ls hl hP hS
  unfold fX11_shares_s13 at hf
  refine lv_lload hx hb dX11_shares_13 (lv_at hl 4 rfl) ?_
  refine lv_aload_n hx hb dX11_shares_15 rfl (lv_at hl 0 rfl) ?_
  refine g_getR hx hb hts inlX11 hown hK hP 130 ct_130 rfl 26 (by decide) (hts _ wm_7_22) rfl dX11_shares_16 ?_
  refine lv_iload hx hb dX11_shares_19 (lv_at hl 5 rfl) ?_
  obtain ⟨g1, hf⟩ := gd hf
  refine g_lald hx hb hK hP 151 ct_151 g1 dX11_shares_21 ?_
  refine lv_ladd hx hb dX11_shares_22 ?_
  refine lv_lstore (lv' := [(5, .long (v5 + (st.2 151 v7.toNatClampNeg))), (0, .ref (ad 130)), (1, .int v1), (2, .long v2), (4, .int v4), (7, .int v7)]) hx hb dX11_shares_23 hl (by decide) rfl (fun ls hl => ?_)
  refine lv_aload_n hx hb dX11_shares_25 rfl (lv_at hl 1 rfl) ?_
  refine g_getR hx hb hts inlX11 hown hK hP 130 ct_130 rfl 27 (by decide) (hts _ wm_7_23) rfl dX11_shares_26 ?_
  refine lv_iload hx hb dX11_shares_29 (lv_at hl 5 rfl) ?_
  refine lv_aload_n hx hb dX11_shares_31 rfl (lv_at hl 1 rfl) ?_
  refine g_getR hx hb hts inlX11 hown hK hP 130 ct_130 rfl 26 (by decide) (hts _ wm_7_22) rfl dX11_shares_32 ?_
  refine lv_iload hx hb dX11_shares_35 (lv_at hl 5 rfl) ?_
  obtain ⟨g2, hf⟩ := gd hf
  refine g_lald hx hb hK hP 151 ct_151 g2 dX11_shares_37 ?_
  obtain ⟨g3, hf⟩ := gd hf
  refine g_last hx hb hK had hP hS 152 ct_152 g3 dX11_shares_38 (fun H locs hP hS => ?_)
  exact wX11_shares_s39 C n K6 v1 v2 v4 (v5 + (st.2 151 v7.toNatClampNeg)) v7 (setJ st 152 v7.toNatClampNeg (st.2 151 v7.toNatClampNeg)) res hK6 hf H locs ls (lv_sub hl [1, 2, 3, 4, 0, 5] rfl) hP hS
def fX11_shares_s6 (n : Nat) (K6 : Int32 → Int64 → Int32 → Int64 → Int32 → St → Option (Unit × St))  (v1 : Int32) (v2 : Int64) (v4 : Int32) (v5 : Int64) (v7 : Int32) (st : St) : Option (Unit × St) := if v4 ≤ v7 then fX11_shares_s45 n v1 v2 v4 v5 st else fX11_shares_s13 n K6 v1 v2 v4 v5 v7 st
set_option maxHeartbeats 4000000 in
set_option maxRecDepth 100000 in
theorem wX11_shares_s6 (C : Cx p s m args meth c cX11_shares 11 wsL_law RX11 none D G ad) (n : Nat) (K6 : Int32 → Int64 → Int32 → Int64 → Int32 → St → Option (Unit × St))  (v1 : Int32) (v2 : Int64) (v4 : Int32) (v5 : Int64) (v7 : Int32)   (st : St) (res : (Unit × St)) (hK6 : ∀ (v1 : Int32) (v2 : Int64) (v4 : Int32) (v5 : Int64) (v7 : Int32) (st : St), K6 v1 v2 v4 v5 v7 st = some res → At p l e (rmK 0) s m args below meth c D G ad (MQV D G ad below args s res) 11 st [(0, .ref (ad 130)), (1, .int v1), (2, .long v2), (4, .int v4), (5, .long v5), (7, .int v7)] 6 []) (hf : fX11_shares_s6 n K6  v1 v2 v4 v5 v7 st = some res) : At p l e (rmK 0) s m args below meth c D G ad (MQV D G ad below args s res) 11 st [(0, .ref (ad 130)), (1, .int v1), (2, .long v2), (4, .int v4), (5, .long v5), (7, .int v7)] 6 [] := by
  obtain ⟨hx, hb, hml, hown, hts, hr, hlk, hK, had, hSt⟩ := id C
  intro H locs ls hl hP hS
  unfold fX11_shares_s6 at hf
  refine lv_iload hx hb dX11_shares_6 (lv_at hl 5 rfl) ?_
  refine lv_iload hx hb dX11_shares_8 (lv_at hl 3 rfl) ?_
  refine lv_icmp_ge (tgt := 45) hx hb dX11_shares_10 (by decide) (fun q => ?_) (fun q => ?_)
  · exact wX11_shares_s45 C n v1 v2 v4 v5 st res (it hf q) H locs ls (lv_sub hl [0, 1, 2, 3, 4] rfl) hP hS
  · exact wX11_shares_s13 C n K6 v1 v2 v4 v5 v7 st res hK6 (ie hf q) H locs ls (lv_sub hl [0, 1, 2, 3, 4, 5] rfl) hP hS
def fX11_shares_L6 (n : Nat)   : Nat → Int32 → Int64 → Int32 → Int64 → Int32 → St → Option (Unit × St)
  | 0, _, _, _, _, _, _ => none
  | k + 1, v1, v2, v4, v5, v7, st => fX11_shares_s6 n (fX11_shares_L6 n k)  v1 v2 v4 v5 v7 st
theorem wX11_shares_L6 (C : Cx p s m args meth c cX11_shares 11 wsL_law RX11 none D G ad) (n : Nat)    (res : (Unit × St))  : ∀ (k : Nat) (v1 : Int32) (v2 : Int64) (v4 : Int32) (v5 : Int64) (v7 : Int32)  (st : St), fX11_shares_L6 n k v1 v2 v4 v5 v7 st = some res → At p l e (rmK 0) s m args below meth c D G ad (MQV D G ad below args s res) 11 st [(0, .ref (ad 130)), (1, .int v1), (2, .long v2), (4, .int v4), (5, .long v5), (7, .int v7)] 6 [] := by
  intro k
  induction k with
  | zero => intro v1 v2 v4 v5 v7  st h; exact absurd h (by intro q; cases q)
  | succ k ih => intro v1 v2 v4 v5 v7  st h; exact wX11_shares_s6 C n (fX11_shares_L6 n k)  v1 v2 v4 v5 v7   st res ih h
def fX11_shares_s0 (n : Nat)   (v1 : Int32) (v2 : Int64) (v4 : Int32) (st : St) : Option (Unit × St) := fX11_shares_L6 n n v1 v2 v4 0 0 st
set_option maxHeartbeats 4000000 in
set_option maxRecDepth 100000 in
theorem wX11_shares_s0 (C : Cx p s m args meth c cX11_shares 11 wsL_law RX11 none D G ad) (n : Nat)   (v1 : Int32) (v2 : Int64) (v4 : Int32)   (st : St) (res : (Unit × St))  (hf : fX11_shares_s0 n   v1 v2 v4 st = some res) : At p l e (rmK 0) s m args below meth c D G ad (MQV D G ad below args s res) 11 st [(0, .ref (ad 130)), (1, .int v1), (2, .long v2), (4, .int v4)] 0 [] := by
  obtain ⟨hx, hb, hml, hown, hts, hr, hlk, hK, had, hSt⟩ := id C
  intro H locs ls hl hP hS
  unfold fX11_shares_s0 at hf
  refine lv_lconst (v := 0) hx hb dX11_shares_0 (by decide) ?_
  refine lv_lstore (lv' := [(5, .long 0), (0, .ref (ad 130)), (1, .int v1), (2, .long v2), (4, .int v4)]) hx hb dX11_shares_1 hl (by decide) rfl (fun ls hl => ?_)
  refine lv_iconst (v := 0) hx hb dX11_shares_3 (by decide) ?_
  refine lv_istore (lv' := [(7, .int 0), (5, .long 0), (0, .ref (ad 130)), (1, .int v1), (2, .long v2), (4, .int v4)]) hx hb dX11_shares_4 hl (by decide) rfl (fun ls hl => ?_)
  exact wX11_shares_L6 C n res n v1 v2 v4 0 0 st hf H locs ls (lv_sub hl [2, 3, 4, 5, 1, 0] rfl) hP hS
def fX11_shares (n : Nat)  (a1 : Int32) (a2 : Int64) (a4 : Int32) (st : St) : Option (Unit × St) := fX11_shares_s0 n a1 a2 a4 st
theorem okX11_shares : okY yX11_shares RX11 3 := by unfold okY; decide +kernel
end
set_option maxRecDepth 100000 in
theorem kX11_shares (l : Launch) (D : va_G) (G : G3) (ad : Nat → Nat) (had : Adr ad) (n : Nat)   (a1 : Int32) (a2 : Int64) (a4 : Int32) (st : St) (res : (Unit × St)) (hf : fX11_shares n  a1 a2 a4 st = some res) {sz : Nat} : CtV l yX11_shares (wsU yX11_shares cX11_shares 11 none) (rmK 0) D G ad sz [.ref (ad 130), .int a1, .long a2, .int a4] st res := by
  refine Met.ofW (cc := cX11_shares) (maxL := 11) (ret := none) (by decide) rfl ?_
  intro p e s m args below meth c s₁ B hml hv
  obtain ⟨rfl, hsz, hP, hK, hSt⟩ := hv
  have hts := atoms_spec (ws := wsU yX11_shares cX11_shares 11 none) B.pre
  have C : Cx p s m _ meth c cX11_shares 11 wsL_law RX11 none D G ad := ⟨B.exec, B.bytes, hml, findClass_of_methodNamed B.named, fun w h => hts w (List.mem_cons_of_mem _ h), B.returns, B.notSynchronized, hK, had, hSt⟩
  subst hsz
  have hl := lv_entry ([.ref (ad 130), .int a1, .long a2, .int a4]) (n := 11) (Nat.le_of_ble_eq_true rfl)
  rw [lg_entry_eq]
  generalize (lg_sl ([.ref (ad 130), .int a1, .long a2, .int a4]) ++ List.replicate (11 - (lg_sl ([.ref (ad 130), .int a1, .long a2, .int a4])).length) Slot.unset).toArray = ls at hl ⊢
  exact wX11_shares_s0 C n  a1 a2 a4   st res hf s.heap [] ls (lv_sub hl [0, 1, 2, 3] rfl) hP va_S.rf
section
variable {p : Program} {l : Launch} {e : Env} {s : State} {m : MethodId} {args : Array Value} {below : List Frame} {meth : Method} {c : Code} {D : va_G} {G : G3} {ad : Nat → Nat}
def fX11_sends_s178 (n : Nat)   (v2 : Int64) (st : St) : Option (Int64 × St) := some (v2, st)
set_option maxHeartbeats 4000000 in
set_option maxRecDepth 100000 in
theorem wX11_sends_s178 (C : Cx p s m args meth c cX11_sends 5 wsL_law RX11 (some .long) D G ad) (n : Nat)   (v2 : Int64)   (st : St) (res : (Int64 × St))  (hf : fX11_sends_s178 n   v2 st = some res) : At p l e (rmK 1) s m args below meth c D G ad (MQJ D G ad below args s res) 5 st [(2, .long v2)] 178 [] := by
  obtain ⟨hx, hb, hml, hown, hts, hr, hlk, hK, had, hSt⟩ := id C
  intro H locs ls hl hP hS
  unfold fX11_sends_s178 at hf
  refine lv_lload_n hx hb dX11_sends_178 rfl (lv_at hl 0 rfl) ?_
  exact g_lret hx hb hr hlk hP hS dX11_sends_179 hf
def fX11_sends_s172 (n : Nat) (K52 : Int32 → Int64 → Int32 → St → Option (Int64 × St))  (v1 : Int32) (v2 : Int64) (v4 : Int32) (st : St) : Option (Int64 × St) := K52 v1 v2 (v4 + 1) st
set_option maxHeartbeats 4000000 in
set_option maxRecDepth 100000 in
theorem wX11_sends_s172 (C : Cx p s m args meth c cX11_sends 5 wsL_law RX11 (some .long) D G ad) (n : Nat) (K52 : Int32 → Int64 → Int32 → St → Option (Int64 × St))  (v1 : Int32) (v2 : Int64) (v4 : Int32)   (st : St) (res : (Int64 × St)) (hK52 : ∀ (v1 : Int32) (v2 : Int64) (v4 : Int32) (st : St), K52 v1 v2 v4 st = some res → At p l e (rmK 1) s m args below meth c D G ad (MQJ D G ad below args s res) 5 st [(0, .ref (ad 130)), (1, .int v1), (2, .long v2), (4, .int v4)] 52 []) (hf : fX11_sends_s172 n K52  v1 v2 v4 st = some res) : At p l e (rmK 1) s m args below meth c D G ad (MQJ D G ad below args s res) 5 st [(0, .ref (ad 130)), (1, .int v1), (2, .long v2), (4, .int v4)] 172 [] := by
  obtain ⟨hx, hb, hml, hown, hts, hr, hlk, hK, had, hSt⟩ := id C
  intro H locs ls hl hP hS
  unfold fX11_sends_s172 at hf
  refine lv_iinc (v := v4 + 1) (lv' := [(4, .int (v4 + 1)), (0, .ref (ad 130)), (1, .int v1), (2, .long v2)]) hx hb dX11_sends_172 hl (k := 3) rfl rfl (by decide) rfl (fun ls hl => ?_)
  refine lv_goto (tgt := 52) hx hb dX11_sends_175 (by decide) ?_
  exact hK52 v1 v2 (v4 + 1)  st hf H locs ls (lv_sub hl [1, 2, 3, 0] rfl) hP hS
def fX11_sends_s144 (n : Nat) (K52 : Int32 → Int64 → Int32 → St → Option (Int64 × St))  (v1 : Int32) (v2 : Int64) (v4 : Int32) (st : St) : Option (Int64 × St) := if inb v4 8 = true then (if inb ((7 * v4) + (st.1 133 v4.toNatClampNeg)) 56 = true then (if inb v4 8 = true then (if inb ((7 * v4) + (st.1 133 v4.toNatClampNeg)) 56 = true then (fX11_sends_s172 n K52 v1 v2 v4 (setJ st 143 ((7 * v4) + (st.1 133 v4.toNatClampNeg)).toNatClampNeg ((st.2 143 ((7 * v4) + (st.1 133 v4.toNatClampNeg)).toNatClampNeg) + (st.2 152 v4.toNatClampNeg)))) else none) else none) else none) else none
set_option maxHeartbeats 4000000 in
set_option maxRecDepth 100000 in
theorem wX11_sends_s144 (C : Cx p s m args meth c cX11_sends 5 wsL_law RX11 (some .long) D G ad) (n : Nat) (K52 : Int32 → Int64 → Int32 → St → Option (Int64 × St))  (v1 : Int32) (v2 : Int64) (v4 : Int32)   (st : St) (res : (Int64 × St)) (hK52 : ∀ (v1 : Int32) (v2 : Int64) (v4 : Int32) (st : St), K52 v1 v2 v4 st = some res → At p l e (rmK 1) s m args below meth c D G ad (MQJ D G ad below args s res) 5 st [(0, .ref (ad 130)), (1, .int v1), (2, .long v2), (4, .int v4)] 52 []) (hf : fX11_sends_s144 n K52  v1 v2 v4 st = some res) : At p l e (rmK 1) s m args below meth c D G ad (MQJ D G ad below args s res) 5 st [(0, .ref (ad 130)), (1, .int v1), (2, .long v2), (4, .int v4)] 144 [] := by
  obtain ⟨hx, hb, hml, hown, hts, hr, hlk, hK, had, hSt⟩ := id C
  intro H locs ls hl hP hS
  unfold fX11_sends_s144 at hf
  refine lv_aload_n hx hb dX11_sends_144 rfl (lv_at hl 0 rfl) ?_
  refine g_getR hx hb hts inlX11 hown hK hP 130 ct_130 rfl 18 (by decide) (hts _ wm_7_14) rfl dX11_sends_145 ?_
  refine lv_bipush (v := 7) hx hb dX11_sends_148 (by decide) ?_
  refine lv_iload hx hb dX11_sends_150 (lv_at hl 3 rfl) ?_
  refine lv_imul hx hb dX11_sends_152 ?_
  refine lv_aload_n hx hb dX11_sends_153 rfl (lv_at hl 0 rfl) ?_
  refine g_getR hx hb hts inlX11 hown hK hP 130 ct_130 rfl 3 (by decide) (hts _ wm_7_4) rfl dX11_sends_154 ?_
  refine lv_iload hx hb dX11_sends_157 (lv_at hl 3 rfl) ?_
  obtain ⟨g1, hf⟩ := gd hf
  refine g_iald hx hb hK hP 133 ct_133 g1 dX11_sends_159 ?_
  refine lv_iadd hx hb dX11_sends_160 ?_
  refine lv_dup2_11 hx hb dX11_sends_161 rfl rfl ?_
  obtain ⟨g2, hf⟩ := gd hf
  refine g_lald hx hb hK hP 143 ct_143 g2 dX11_sends_162 ?_
  refine lv_aload_n hx hb dX11_sends_163 rfl (lv_at hl 0 rfl) ?_
  refine g_getR hx hb hts inlX11 hown hK hP 130 ct_130 rfl 27 (by decide) (hts _ wm_7_23) rfl dX11_sends_164 ?_
  refine lv_iload hx hb dX11_sends_167 (lv_at hl 3 rfl) ?_
  obtain ⟨g3, hf⟩ := gd hf
  refine g_lald hx hb hK hP 152 ct_152 g3 dX11_sends_169 ?_
  refine lv_ladd hx hb dX11_sends_170 ?_
  obtain ⟨g4, hf⟩ := gd hf
  refine g_last hx hb hK had hP hS 143 ct_143 g4 dX11_sends_171 (fun H locs hP hS => ?_)
  exact wX11_sends_s172 C n K52 v1 v2 v4 (setJ st 143 ((7 * v4) + (st.1 133 v4.toNatClampNeg)).toNatClampNeg ((st.2 143 ((7 * v4) + (st.1 133 v4.toNatClampNeg)).toNatClampNeg) + (st.2 152 v4.toNatClampNeg))) res hK52 hf H locs ls (lv_sub hl [0, 1, 2, 3] rfl) hP hS
def fX11_sends_s132 (n : Nat) (K52 : Int32 → Int64 → Int32 → St → Option (Int64 × St))  (v1 : Int32) (v2 : Int64) (v4 : Int32) (st : St) : Option (Int64 × St) := if inb v4 8 = true then (if (st.2 152 v4.toNatClampNeg) ≤ 0 then fX11_sends_s172 n K52 v1 v2 v4 st else fX11_sends_s144 n K52 v1 v2 v4 st) else none
set_option maxHeartbeats 4000000 in
set_option maxRecDepth 100000 in
theorem wX11_sends_s132 (C : Cx p s m args meth c cX11_sends 5 wsL_law RX11 (some .long) D G ad) (n : Nat) (K52 : Int32 → Int64 → Int32 → St → Option (Int64 × St))  (v1 : Int32) (v2 : Int64) (v4 : Int32)   (st : St) (res : (Int64 × St)) (hK52 : ∀ (v1 : Int32) (v2 : Int64) (v4 : Int32) (st : St), K52 v1 v2 v4 st = some res → At p l e (rmK 1) s m args below meth c D G ad (MQJ D G ad below args s res) 5 st [(0, .ref (ad 130)), (1, .int v1), (2, .long v2), (4, .int v4)] 52 []) (hf : fX11_sends_s132 n K52  v1 v2 v4 st = some res) : At p l e (rmK 1) s m args below meth c D G ad (MQJ D G ad below args s res) 5 st [(0, .ref (ad 130)), (1, .int v1), (2, .long v2), (4, .int v4)] 132 [] := by
  obtain ⟨hx, hb, hml, hown, hts, hr, hlk, hK, had, hSt⟩ := id C
  intro H locs ls hl hP hS
  unfold fX11_sends_s132 at hf
  refine lv_aload_n hx hb dX11_sends_132 rfl (lv_at hl 0 rfl) ?_
  refine g_getR hx hb hts inlX11 hown hK hP 130 ct_130 rfl 27 (by decide) (hts _ wm_7_23) rfl dX11_sends_133 ?_
  refine lv_iload hx hb dX11_sends_136 (lv_at hl 3 rfl) ?_
  obtain ⟨g1, hf⟩ := gd hf
  refine g_lald hx hb hK hP 152 ct_152 g1 dX11_sends_138 ?_
  refine lv_lconst (v := 0) hx hb dX11_sends_139 (by decide) ?_
  refine g_lcmp_le (tgt := 172) hx hb dX11_sends_140 dX11_sends_141 (by decide) (fun q => ?_) (fun q => ?_)
  · exact wX11_sends_s172 C n K52 v1 v2 v4 st res hK52 (it hf q) H locs ls (lv_sub hl [0, 1, 2, 3] rfl) hP hS
  · exact wX11_sends_s144 C n K52 v1 v2 v4 st res hK52 (ie hf q) H locs ls (lv_sub hl [0, 1, 2, 3] rfl) hP hS
def fX11_sends_s119 (n : Nat) (K52 : Int32 → Int64 → Int32 → St → Option (Int64 × St))  (v1 : Int32) (v2 : Int64) (v4 : Int32) (st : St) : Option (Int64 × St) := if inb v4 8 = true then (fX11_sends_s172 n K52 v1 (v2 + (st.2 152 v4.toNatClampNeg)) v4 st) else none
set_option maxHeartbeats 4000000 in
set_option maxRecDepth 100000 in
theorem wX11_sends_s119 (C : Cx p s m args meth c cX11_sends 5 wsL_law RX11 (some .long) D G ad) (n : Nat) (K52 : Int32 → Int64 → Int32 → St → Option (Int64 × St))  (v1 : Int32) (v2 : Int64) (v4 : Int32)   (st : St) (res : (Int64 × St)) (hK52 : ∀ (v1 : Int32) (v2 : Int64) (v4 : Int32) (st : St), K52 v1 v2 v4 st = some res → At p l e (rmK 1) s m args below meth c D G ad (MQJ D G ad below args s res) 5 st [(0, .ref (ad 130)), (1, .int v1), (2, .long v2), (4, .int v4)] 52 []) (hf : fX11_sends_s119 n K52  v1 v2 v4 st = some res) : At p l e (rmK 1) s m args below meth c D G ad (MQJ D G ad below args s res) 5 st [(0, .ref (ad 130)), (1, .int v1), (2, .long v2), (4, .int v4)] 119 [] := by
  obtain ⟨hx, hb, hml, hown, hts, hr, hlk, hK, had, hSt⟩ := id C
  intro H locs ls hl hP hS
  unfold fX11_sends_s119 at hf
  refine lv_lload_n hx hb dX11_sends_119 rfl (lv_at hl 2 rfl) ?_
  refine lv_aload_n hx hb dX11_sends_120 rfl (lv_at hl 0 rfl) ?_
  refine g_getR hx hb hts inlX11 hown hK hP 130 ct_130 rfl 27 (by decide) (hts _ wm_7_23) rfl dX11_sends_121 ?_
  refine lv_iload hx hb dX11_sends_124 (lv_at hl 3 rfl) ?_
  obtain ⟨g1, hf⟩ := gd hf
  refine g_lald hx hb hK hP 152 ct_152 g1 dX11_sends_126 ?_
  refine lv_ladd hx hb dX11_sends_127 ?_
  refine lv_lstore_n (lv' := [(2, .long (v2 + (st.2 152 v4.toNatClampNeg))), (0, .ref (ad 130)), (1, .int v1), (4, .int v4)]) hx hb dX11_sends_128 rfl hl (by decide) rfl (fun ls hl => ?_)
  refine lv_goto (tgt := 172) hx hb dX11_sends_129 (by decide) ?_
  exact wX11_sends_s172 C n K52 v1 (v2 + (st.2 152 v4.toNatClampNeg)) v4 st res hK52 hf H locs ls (lv_sub hl [1, 2, 0, 3] rfl) hP hS
def fX11_sends_s113 (n : Nat) (K52 : Int32 → Int64 → Int32 → St → Option (Int64 × St))  (v1 : Int32) (v2 : Int64) (v4 : Int32) (st : St) : Option (Int64 × St) := if v4 = v1 then fX11_sends_s119 n K52 v1 v2 v4 st else fX11_sends_s132 n K52 v1 v2 v4 st
set_option maxHeartbeats 4000000 in
set_option maxRecDepth 100000 in
theorem wX11_sends_s113 (C : Cx p s m args meth c cX11_sends 5 wsL_law RX11 (some .long) D G ad) (n : Nat) (K52 : Int32 → Int64 → Int32 → St → Option (Int64 × St))  (v1 : Int32) (v2 : Int64) (v4 : Int32)   (st : St) (res : (Int64 × St)) (hK52 : ∀ (v1 : Int32) (v2 : Int64) (v4 : Int32) (st : St), K52 v1 v2 v4 st = some res → At p l e (rmK 1) s m args below meth c D G ad (MQJ D G ad below args s res) 5 st [(0, .ref (ad 130)), (1, .int v1), (2, .long v2), (4, .int v4)] 52 []) (hf : fX11_sends_s113 n K52  v1 v2 v4 st = some res) : At p l e (rmK 1) s m args below meth c D G ad (MQJ D G ad below args s res) 5 st [(0, .ref (ad 130)), (1, .int v1), (2, .long v2), (4, .int v4)] 113 [] := by
  obtain ⟨hx, hb, hml, hown, hts, hr, hlk, hK, had, hSt⟩ := id C
  intro H locs ls hl hP hS
  unfold fX11_sends_s113 at hf
  refine lv_iload hx hb dX11_sends_113 (lv_at hl 3 rfl) ?_
  refine lv_iload_n hx hb dX11_sends_115 rfl (lv_at hl 1 rfl) ?_
  refine lv_icmp_ne (tgt := 132) hx hb dX11_sends_116 (by decide) (fun q => ?_) (fun q => ?_)
  · exact wX11_sends_s132 C n K52 v1 v2 v4 st res hK52 (ie hf q) H locs ls (lv_sub hl [0, 1, 2, 3] rfl) hP hS
  · exact wX11_sends_s119 C n K52 v1 v2 v4 st res hK52 (it hf q) H locs ls (lv_sub hl [0, 1, 2, 3] rfl) hP hS
def fX11_sends_s97 (n : Nat) (K52 : Int32 → Int64 → Int32 → St → Option (Int64 × St))  (v1 : Int32) (v2 : Int64) (v4 : Int32) (st : St) : Option (Int64 × St) := if inb v1 8 = true then (if inb v4 8 = true then (if inb v1 8 = true then (fX11_sends_s113 n K52 v1 v2 v4 (setJ st 146 v1.toNatClampNeg ((st.2 146 v1.toNatClampNeg) + (st.2 152 v4.toNatClampNeg)))) else none) else none) else none
set_option maxHeartbeats 4000000 in
set_option maxRecDepth 100000 in
theorem wX11_sends_s97 (C : Cx p s m args meth c cX11_sends 5 wsL_law RX11 (some .long) D G ad) (n : Nat) (K52 : Int32 → Int64 → Int32 → St → Option (Int64 × St))  (v1 : Int32) (v2 : Int64) (v4 : Int32)   (st : St) (res : (Int64 × St)) (hK52 : ∀ (v1 : Int32) (v2 : Int64) (v4 : Int32) (st : St), K52 v1 v2 v4 st = some res → At p l e (rmK 1) s m args below meth c D G ad (MQJ D G ad below args s res) 5 st [(0, .ref (ad 130)), (1, .int v1), (2, .long v2), (4, .int v4)] 52 []) (hf : fX11_sends_s97 n K52  v1 v2 v4 st = some res) : At p l e (rmK 1) s m args below meth c D G ad (MQJ D G ad below args s res) 5 st [(0, .ref (ad 130)), (1, .int v1), (2, .long v2), (4, .int v4)] 97 [] := by
  obtain ⟨hx, hb, hml, hown, hts, hr, hlk, hK, had, hSt⟩ := id C
  intro H locs ls hl hP hS
  unfold fX11_sends_s97 at hf
  refine lv_aload_n hx hb dX11_sends_97 rfl (lv_at hl 0 rfl) ?_
  refine g_getR hx hb hts inlX11 hown hK hP 130 ct_130 rfl 21 (by decide) (hts _ wm_7_17) rfl dX11_sends_98 ?_
  refine lv_iload_n hx hb dX11_sends_101 rfl (lv_at hl 1 rfl) ?_
  refine lv_dup2_11 hx hb dX11_sends_102 rfl rfl ?_
  obtain ⟨g1, hf⟩ := gd hf
  refine g_lald hx hb hK hP 146 ct_146 g1 dX11_sends_103 ?_
  refine lv_aload_n hx hb dX11_sends_104 rfl (lv_at hl 0 rfl) ?_
  refine g_getR hx hb hts inlX11 hown hK hP 130 ct_130 rfl 27 (by decide) (hts _ wm_7_23) rfl dX11_sends_105 ?_
  refine lv_iload hx hb dX11_sends_108 (lv_at hl 3 rfl) ?_
  obtain ⟨g2, hf⟩ := gd hf
  refine g_lald hx hb hK hP 152 ct_152 g2 dX11_sends_110 ?_
  refine lv_ladd hx hb dX11_sends_111 ?_
  obtain ⟨g3, hf⟩ := gd hf
  refine g_last hx hb hK had hP hS 146 ct_146 g3 dX11_sends_112 (fun H locs hP hS => ?_)
  exact wX11_sends_s113 C n K52 v1 v2 v4 (setJ st 146 v1.toNatClampNeg ((st.2 146 v1.toNatClampNeg) + (st.2 152 v4.toNatClampNeg))) res hK52 hf H locs ls (lv_sub hl [0, 1, 2, 3] rfl) hP hS
def fX11_sends_s81 (n : Nat) (K52 : Int32 → Int64 → Int32 → St → Option (Int64 × St))  (v1 : Int32) (v2 : Int64) (v4 : Int32) (st : St) : Option (Int64 × St) := if inb v1 8 = true then (if inb v4 8 = true then (if inb v1 8 = true then (fX11_sends_s97 n K52 v1 v2 v4 (setJ st 141 v1.toNatClampNeg ((st.2 141 v1.toNatClampNeg) - (st.2 152 v4.toNatClampNeg)))) else none) else none) else none
set_option maxHeartbeats 4000000 in
set_option maxRecDepth 100000 in
theorem wX11_sends_s81 (C : Cx p s m args meth c cX11_sends 5 wsL_law RX11 (some .long) D G ad) (n : Nat) (K52 : Int32 → Int64 → Int32 → St → Option (Int64 × St))  (v1 : Int32) (v2 : Int64) (v4 : Int32)   (st : St) (res : (Int64 × St)) (hK52 : ∀ (v1 : Int32) (v2 : Int64) (v4 : Int32) (st : St), K52 v1 v2 v4 st = some res → At p l e (rmK 1) s m args below meth c D G ad (MQJ D G ad below args s res) 5 st [(0, .ref (ad 130)), (1, .int v1), (2, .long v2), (4, .int v4)] 52 []) (hf : fX11_sends_s81 n K52  v1 v2 v4 st = some res) : At p l e (rmK 1) s m args below meth c D G ad (MQJ D G ad below args s res) 5 st [(0, .ref (ad 130)), (1, .int v1), (2, .long v2), (4, .int v4)] 81 [] := by
  obtain ⟨hx, hb, hml, hown, hts, hr, hlk, hK, had, hSt⟩ := id C
  intro H locs ls hl hP hS
  unfold fX11_sends_s81 at hf
  refine lv_aload_n hx hb dX11_sends_81 rfl (lv_at hl 0 rfl) ?_
  refine g_getR hx hb hts inlX11 hown hK hP 130 ct_130 rfl 16 (by decide) (hts _ wm_7_12) rfl dX11_sends_82 ?_
  refine lv_iload_n hx hb dX11_sends_85 rfl (lv_at hl 1 rfl) ?_
  refine lv_dup2_11 hx hb dX11_sends_86 rfl rfl ?_
  obtain ⟨g1, hf⟩ := gd hf
  refine g_lald hx hb hK hP 141 ct_141 g1 dX11_sends_87 ?_
  refine lv_aload_n hx hb dX11_sends_88 rfl (lv_at hl 0 rfl) ?_
  refine g_getR hx hb hts inlX11 hown hK hP 130 ct_130 rfl 27 (by decide) (hts _ wm_7_23) rfl dX11_sends_89 ?_
  refine lv_iload hx hb dX11_sends_92 (lv_at hl 3 rfl) ?_
  obtain ⟨g2, hf⟩ := gd hf
  refine g_lald hx hb hK hP 152 ct_152 g2 dX11_sends_94 ?_
  refine lv_lsub hx hb dX11_sends_95 ?_
  obtain ⟨g3, hf⟩ := gd hf
  refine g_last hx hb hK had hP hS 141 ct_141 g3 dX11_sends_96 (fun H locs hP hS => ?_)
  exact wX11_sends_s97 C n K52 v1 v2 v4 (setJ st 141 v1.toNatClampNeg ((st.2 141 v1.toNatClampNeg) - (st.2 152 v4.toNatClampNeg))) res hK52 hf H locs ls (lv_sub hl [0, 1, 2, 3] rfl) hP hS
def fX11_sends_s59 (n : Nat) (K52 : Int32 → Int64 → Int32 → St → Option (Int64 × St))  (v1 : Int32) (v2 : Int64) (v4 : Int32) (st : St) : Option (Int64 × St) := if inb ((8 * v1) + v4) 64 = true then (if inb v4 8 = true then (if inb ((8 * v1) + v4) 64 = true then (fX11_sends_s81 n K52 v1 v2 v4 (setJ st 142 ((8 * v1) + v4).toNatClampNeg ((st.2 142 ((8 * v1) + v4).toNatClampNeg) - (st.2 152 v4.toNatClampNeg)))) else none) else none) else none
set_option maxHeartbeats 4000000 in
set_option maxRecDepth 100000 in
theorem wX11_sends_s59 (C : Cx p s m args meth c cX11_sends 5 wsL_law RX11 (some .long) D G ad) (n : Nat) (K52 : Int32 → Int64 → Int32 → St → Option (Int64 × St))  (v1 : Int32) (v2 : Int64) (v4 : Int32)   (st : St) (res : (Int64 × St)) (hK52 : ∀ (v1 : Int32) (v2 : Int64) (v4 : Int32) (st : St), K52 v1 v2 v4 st = some res → At p l e (rmK 1) s m args below meth c D G ad (MQJ D G ad below args s res) 5 st [(0, .ref (ad 130)), (1, .int v1), (2, .long v2), (4, .int v4)] 52 []) (hf : fX11_sends_s59 n K52  v1 v2 v4 st = some res) : At p l e (rmK 1) s m args below meth c D G ad (MQJ D G ad below args s res) 5 st [(0, .ref (ad 130)), (1, .int v1), (2, .long v2), (4, .int v4)] 59 [] := by
  obtain ⟨hx, hb, hml, hown, hts, hr, hlk, hK, had, hSt⟩ := id C
  intro H locs ls hl hP hS
  unfold fX11_sends_s59 at hf
  refine lv_aload_n hx hb dX11_sends_59 rfl (lv_at hl 0 rfl) ?_
  refine g_getR hx hb hts inlX11 hown hK hP 130 ct_130 rfl 17 (by decide) (hts _ wm_7_13) rfl dX11_sends_60 ?_
  refine lv_bipush (v := 8) hx hb dX11_sends_63 (by decide) ?_
  refine lv_iload_n hx hb dX11_sends_65 rfl (lv_at hl 1 rfl) ?_
  refine lv_imul hx hb dX11_sends_66 ?_
  refine lv_iload hx hb dX11_sends_67 (lv_at hl 3 rfl) ?_
  refine lv_iadd hx hb dX11_sends_69 ?_
  refine lv_dup2_11 hx hb dX11_sends_70 rfl rfl ?_
  obtain ⟨g1, hf⟩ := gd hf
  refine g_lald hx hb hK hP 142 ct_142 g1 dX11_sends_71 ?_
  refine lv_aload_n hx hb dX11_sends_72 rfl (lv_at hl 0 rfl) ?_
  refine g_getR hx hb hts inlX11 hown hK hP 130 ct_130 rfl 27 (by decide) (hts _ wm_7_23) rfl dX11_sends_73 ?_
  refine lv_iload hx hb dX11_sends_76 (lv_at hl 3 rfl) ?_
  obtain ⟨g2, hf⟩ := gd hf
  refine g_lald hx hb hK hP 152 ct_152 g2 dX11_sends_78 ?_
  refine lv_lsub hx hb dX11_sends_79 ?_
  obtain ⟨g3, hf⟩ := gd hf
  refine g_last hx hb hK had hP hS 142 ct_142 g3 dX11_sends_80 (fun H locs hP hS => ?_)
  exact wX11_sends_s81 C n K52 v1 v2 v4 (setJ st 142 ((8 * v1) + v4).toNatClampNeg ((st.2 142 ((8 * v1) + v4).toNatClampNeg) - (st.2 152 v4.toNatClampNeg))) res hK52 hf H locs ls (lv_sub hl [0, 1, 2, 3] rfl) hP hS
def fX11_sends_s52 (n : Nat) (K52 : Int32 → Int64 → Int32 → St → Option (Int64 × St))  (v1 : Int32) (v2 : Int64) (v4 : Int32) (st : St) : Option (Int64 × St) := if 8 ≤ v4 then fX11_sends_s178 n v2 st else fX11_sends_s59 n K52 v1 v2 v4 st
set_option maxHeartbeats 4000000 in
set_option maxRecDepth 100000 in
theorem wX11_sends_s52 (C : Cx p s m args meth c cX11_sends 5 wsL_law RX11 (some .long) D G ad) (n : Nat) (K52 : Int32 → Int64 → Int32 → St → Option (Int64 × St))  (v1 : Int32) (v2 : Int64) (v4 : Int32)   (st : St) (res : (Int64 × St)) (hK52 : ∀ (v1 : Int32) (v2 : Int64) (v4 : Int32) (st : St), K52 v1 v2 v4 st = some res → At p l e (rmK 1) s m args below meth c D G ad (MQJ D G ad below args s res) 5 st [(0, .ref (ad 130)), (1, .int v1), (2, .long v2), (4, .int v4)] 52 []) (hf : fX11_sends_s52 n K52  v1 v2 v4 st = some res) : At p l e (rmK 1) s m args below meth c D G ad (MQJ D G ad below args s res) 5 st [(0, .ref (ad 130)), (1, .int v1), (2, .long v2), (4, .int v4)] 52 [] := by
  obtain ⟨hx, hb, hml, hown, hts, hr, hlk, hK, had, hSt⟩ := id C
  intro H locs ls hl hP hS
  unfold fX11_sends_s52 at hf
  refine lv_iload hx hb dX11_sends_52 (lv_at hl 3 rfl) ?_
  refine lv_bipush (v := 8) hx hb dX11_sends_54 (by decide) ?_
  refine lv_icmp_ge (tgt := 178) hx hb dX11_sends_56 (by decide) (fun q => ?_) (fun q => ?_)
  · exact wX11_sends_s178 C n v2 st res (it hf q) H locs ls (lv_sub hl [2] rfl) hP hS
  · exact wX11_sends_s59 C n K52 v1 v2 v4 st res hK52 (ie hf q) H locs ls (lv_sub hl [0, 1, 2, 3] rfl) hP hS
def fX11_sends_L52 (n : Nat)   : Nat → Int32 → Int64 → Int32 → St → Option (Int64 × St)
  | 0, _, _, _, _ => none
  | k + 1, v1, v2, v4, st => fX11_sends_s52 n (fX11_sends_L52 n k)  v1 v2 v4 st
theorem wX11_sends_L52 (C : Cx p s m args meth c cX11_sends 5 wsL_law RX11 (some .long) D G ad) (n : Nat)    (res : (Int64 × St))  : ∀ (k : Nat) (v1 : Int32) (v2 : Int64) (v4 : Int32)  (st : St), fX11_sends_L52 n k v1 v2 v4 st = some res → At p l e (rmK 1) s m args below meth c D G ad (MQJ D G ad below args s res) 5 st [(0, .ref (ad 130)), (1, .int v1), (2, .long v2), (4, .int v4)] 52 [] := by
  intro k
  induction k with
  | zero => intro v1 v2 v4  st h; exact absurd h (by intro q; cases q)
  | succ k ih => intro v1 v2 v4  st h; exact wX11_sends_s52 C n (fX11_sends_L52 n k)  v1 v2 v4   st res ih h
def fX11_sends_s47 (n : Nat)   (v1 : Int32) (st : St) : Option (Int64 × St) := fX11_sends_L52 n n v1 0 0 st
set_option maxHeartbeats 4000000 in
set_option maxRecDepth 100000 in
theorem wX11_sends_s47 (C : Cx p s m args meth c cX11_sends 5 wsL_law RX11 (some .long) D G ad) (n : Nat)   (v1 : Int32)   (st : St) (res : (Int64 × St))  (hf : fX11_sends_s47 n   v1 st = some res) : At p l e (rmK 1) s m args below meth c D G ad (MQJ D G ad below args s res) 5 st [(0, .ref (ad 130)), (1, .int v1)] 47 [] := by
  obtain ⟨hx, hb, hml, hown, hts, hr, hlk, hK, had, hSt⟩ := id C
  intro H locs ls hl hP hS
  unfold fX11_sends_s47 at hf
  refine lv_lconst (v := 0) hx hb dX11_sends_47 (by decide) ?_
  refine lv_lstore_n (lv' := [(2, .long 0), (0, .ref (ad 130)), (1, .int v1)]) hx hb dX11_sends_48 rfl hl (by decide) rfl (fun ls hl => ?_)
  refine lv_iconst (v := 0) hx hb dX11_sends_49 (by decide) ?_
  refine lv_istore (lv' := [(4, .int 0), (2, .long 0), (0, .ref (ad 130)), (1, .int v1)]) hx hb dX11_sends_50 hl (by decide) rfl (fun ls hl => ?_)
  exact wX11_sends_L52 C n res n v1 0 0 st hf H locs ls (lv_sub hl [2, 3, 1, 0] rfl) hP hS
def fX11_sends_s31 (n : Nat)   (v1 : Int32) (st : St) : Option (Int64 × St) := if inb v1 8 = true then ((fX11_shares n (st.1 130 10) (st.2 141 v1.toNatClampNeg) 8 st).bind (fun q => fX11_sends_s47 n v1 q.2)) else none
set_option maxHeartbeats 4000000 in
set_option maxRecDepth 100000 in
theorem wX11_sends_s31 (C : Cx p s m args meth c cX11_sends 5 wsL_law RX11 (some .long) D G ad) (n : Nat)   (v1 : Int32)   (st : St) (res : (Int64 × St))  (hf : fX11_sends_s31 n   v1 st = some res) : At p l e (rmK 1) s m args below meth c D G ad (MQJ D G ad below args s res) 5 st [(0, .ref (ad 130)), (1, .int v1)] 31 [] := by
  obtain ⟨hx, hb, hml, hown, hts, hr, hlk, hK, had, hSt⟩ := id C
  intro H locs ls hl hP hS
  unfold fX11_sends_s31 at hf
  refine lv_aload_n hx hb dX11_sends_31 rfl (lv_at hl 0 rfl) ?_
  refine lv_aload_n hx hb dX11_sends_32 rfl (lv_at hl 0 rfl) ?_
  refine g_getI hx hb hts inlX11 hown hK hP 130 ct_130 rfl 10 (by decide) (hts _ wm_12_16) rfl dX11_sends_33 ?_
  refine lv_aload_n hx hb dX11_sends_36 rfl (lv_at hl 0 rfl) ?_
  refine g_getR hx hb hts inlX11 hown hK hP 130 ct_130 rfl 16 (by decide) (hts _ wm_7_12) rfl dX11_sends_37 ?_
  refine lv_iload_n hx hb dX11_sends_40 rfl (lv_at hl 1 rfl) ?_
  obtain ⟨g1, hf⟩ := gd hf
  refine g_lald hx hb hK hP 141 ct_141 g1 dX11_sends_41 ?_
  refine lv_bipush (v := 8) hx hb dX11_sends_42 (by decide) ?_
  obtain ⟨q, hq, hf⟩ := bd hf
  refine gcV_v (k := 0) (o := 130) (As := [.int (st.1 130 10), .long (st.2 141 v1.toNatClampNeg), .int 8]) (rest := []) hx hb hml hown hts hK hSt hP hS hl.1 (goodV wm_23_3 wm_23_4 wm_23_5 wm_1_5 wm_23_6) okX11_shares ct_130 rfl rfl (Nat.le_of_ble_eq_true rfl) (Nat.le_of_ble_eq_true rfl) rfl rfl (Nat.le_of_ble_eq_true rfl) dX11_sends_44 (kX11_shares l D G ad had n  (st.1 130 10) (st.2 141 v1.toNatClampNeg) 8 st q hq) (fun H locs hP hS => ?_)
  exact wX11_sends_s47 C n v1 q.2 res hf H locs ls (lv_sub hl [0, 1] rfl) hP hS
def fX11_sends_s25 (n : Nat) (K2 : Int32 → Int32 → St → Option (Int64 × St))  (v1 : Int32) (v2 : Int32) (st : St) : Option (Int64 × St) := K2 v1 (v2 + 1) st
set_option maxHeartbeats 4000000 in
set_option maxRecDepth 100000 in
theorem wX11_sends_s25 (C : Cx p s m args meth c cX11_sends 5 wsL_law RX11 (some .long) D G ad) (n : Nat) (K2 : Int32 → Int32 → St → Option (Int64 × St))  (v1 : Int32) (v2 : Int32)   (st : St) (res : (Int64 × St)) (hK2 : ∀ (v1 : Int32) (v2 : Int32) (st : St), K2 v1 v2 st = some res → At p l e (rmK 1) s m args below meth c D G ad (MQJ D G ad below args s res) 5 st [(0, .ref (ad 130)), (1, .int v1), (2, .int v2)] 2 []) (hf : fX11_sends_s25 n K2  v1 v2 st = some res) : At p l e (rmK 1) s m args below meth c D G ad (MQJ D G ad below args s res) 5 st [(0, .ref (ad 130)), (1, .int v1), (2, .int v2)] 25 [] := by
  obtain ⟨hx, hb, hml, hown, hts, hr, hlk, hK, had, hSt⟩ := id C
  intro H locs ls hl hP hS
  unfold fX11_sends_s25 at hf
  refine lv_iinc (v := v2 + 1) (lv' := [(2, .int (v2 + 1)), (0, .ref (ad 130)), (1, .int v1)]) hx hb dX11_sends_25 hl (k := 2) rfl rfl (by decide) rfl (fun ls hl => ?_)
  refine lv_goto (tgt := 2) hx hb dX11_sends_28 (by decide) ?_
  exact hK2 v1 (v2 + 1)  st hf H locs ls (lv_sub hl [1, 2, 0] rfl) hP hS
def fX11_sends_s8 (n : Nat) (K2 : Int32 → Int32 → St → Option (Int64 × St))  (v1 : Int32) (v2 : Int32) (st : St) : Option (Int64 × St) := if inb ((8 * v1) + v2) 64 = true then (if inb v2 8 = true then (fX11_sends_s25 n K2 v1 v2 (setJ st 151 v2.toNatClampNeg (st.2 142 ((8 * v1) + v2).toNatClampNeg))) else none) else none
set_option maxHeartbeats 4000000 in
set_option maxRecDepth 100000 in
theorem wX11_sends_s8 (C : Cx p s m args meth c cX11_sends 5 wsL_law RX11 (some .long) D G ad) (n : Nat) (K2 : Int32 → Int32 → St → Option (Int64 × St))  (v1 : Int32) (v2 : Int32)   (st : St) (res : (Int64 × St)) (hK2 : ∀ (v1 : Int32) (v2 : Int32) (st : St), K2 v1 v2 st = some res → At p l e (rmK 1) s m args below meth c D G ad (MQJ D G ad below args s res) 5 st [(0, .ref (ad 130)), (1, .int v1), (2, .int v2)] 2 []) (hf : fX11_sends_s8 n K2  v1 v2 st = some res) : At p l e (rmK 1) s m args below meth c D G ad (MQJ D G ad below args s res) 5 st [(0, .ref (ad 130)), (1, .int v1), (2, .int v2)] 8 [] := by
  obtain ⟨hx, hb, hml, hown, hts, hr, hlk, hK, had, hSt⟩ := id C
  intro H locs ls hl hP hS
  unfold fX11_sends_s8 at hf
  refine lv_aload_n hx hb dX11_sends_8 rfl (lv_at hl 0 rfl) ?_
  refine g_getR hx hb hts inlX11 hown hK hP 130 ct_130 rfl 26 (by decide) (hts _ wm_7_22) rfl dX11_sends_9 ?_
  refine lv_iload_n hx hb dX11_sends_12 rfl (lv_at hl 2 rfl) ?_
  refine lv_aload_n hx hb dX11_sends_13 rfl (lv_at hl 0 rfl) ?_
  refine g_getR hx hb hts inlX11 hown hK hP 130 ct_130 rfl 17 (by decide) (hts _ wm_7_13) rfl dX11_sends_14 ?_
  refine lv_bipush (v := 8) hx hb dX11_sends_17 (by decide) ?_
  refine lv_iload_n hx hb dX11_sends_19 rfl (lv_at hl 1 rfl) ?_
  refine lv_imul hx hb dX11_sends_20 ?_
  refine lv_iload_n hx hb dX11_sends_21 rfl (lv_at hl 2 rfl) ?_
  refine lv_iadd hx hb dX11_sends_22 ?_
  obtain ⟨g1, hf⟩ := gd hf
  refine g_lald hx hb hK hP 142 ct_142 g1 dX11_sends_23 ?_
  obtain ⟨g2, hf⟩ := gd hf
  refine g_last hx hb hK had hP hS 151 ct_151 g2 dX11_sends_24 (fun H locs hP hS => ?_)
  exact wX11_sends_s25 C n K2 v1 v2 (setJ st 151 v2.toNatClampNeg (st.2 142 ((8 * v1) + v2).toNatClampNeg)) res hK2 hf H locs ls (lv_sub hl [0, 1, 2] rfl) hP hS
def fX11_sends_s2 (n : Nat) (K2 : Int32 → Int32 → St → Option (Int64 × St))  (v1 : Int32) (v2 : Int32) (st : St) : Option (Int64 × St) := if 8 ≤ v2 then fX11_sends_s31 n v1 st else fX11_sends_s8 n K2 v1 v2 st
set_option maxHeartbeats 4000000 in
set_option maxRecDepth 100000 in
theorem wX11_sends_s2 (C : Cx p s m args meth c cX11_sends 5 wsL_law RX11 (some .long) D G ad) (n : Nat) (K2 : Int32 → Int32 → St → Option (Int64 × St))  (v1 : Int32) (v2 : Int32)   (st : St) (res : (Int64 × St)) (hK2 : ∀ (v1 : Int32) (v2 : Int32) (st : St), K2 v1 v2 st = some res → At p l e (rmK 1) s m args below meth c D G ad (MQJ D G ad below args s res) 5 st [(0, .ref (ad 130)), (1, .int v1), (2, .int v2)] 2 []) (hf : fX11_sends_s2 n K2  v1 v2 st = some res) : At p l e (rmK 1) s m args below meth c D G ad (MQJ D G ad below args s res) 5 st [(0, .ref (ad 130)), (1, .int v1), (2, .int v2)] 2 [] := by
  obtain ⟨hx, hb, hml, hown, hts, hr, hlk, hK, had, hSt⟩ := id C
  intro H locs ls hl hP hS
  unfold fX11_sends_s2 at hf
  refine lv_iload_n hx hb dX11_sends_2 rfl (lv_at hl 2 rfl) ?_
  refine lv_bipush (v := 8) hx hb dX11_sends_3 (by decide) ?_
  refine lv_icmp_ge (tgt := 31) hx hb dX11_sends_5 (by decide) (fun q => ?_) (fun q => ?_)
  · exact wX11_sends_s31 C n v1 st res (it hf q) H locs ls (lv_sub hl [0, 1] rfl) hP hS
  · exact wX11_sends_s8 C n K2 v1 v2 st res hK2 (ie hf q) H locs ls (lv_sub hl [0, 1, 2] rfl) hP hS
def fX11_sends_L2 (n : Nat)   : Nat → Int32 → Int32 → St → Option (Int64 × St)
  | 0, _, _, _ => none
  | k + 1, v1, v2, st => fX11_sends_s2 n (fX11_sends_L2 n k)  v1 v2 st
theorem wX11_sends_L2 (C : Cx p s m args meth c cX11_sends 5 wsL_law RX11 (some .long) D G ad) (n : Nat)    (res : (Int64 × St))  : ∀ (k : Nat) (v1 : Int32) (v2 : Int32)  (st : St), fX11_sends_L2 n k v1 v2 st = some res → At p l e (rmK 1) s m args below meth c D G ad (MQJ D G ad below args s res) 5 st [(0, .ref (ad 130)), (1, .int v1), (2, .int v2)] 2 [] := by
  intro k
  induction k with
  | zero => intro v1 v2  st h; exact absurd h (by intro q; cases q)
  | succ k ih => intro v1 v2  st h; exact wX11_sends_s2 C n (fX11_sends_L2 n k)  v1 v2   st res ih h
def fX11_sends_s0 (n : Nat)   (v1 : Int32) (st : St) : Option (Int64 × St) := fX11_sends_L2 n n v1 0 st
set_option maxHeartbeats 4000000 in
set_option maxRecDepth 100000 in
theorem wX11_sends_s0 (C : Cx p s m args meth c cX11_sends 5 wsL_law RX11 (some .long) D G ad) (n : Nat)   (v1 : Int32)   (st : St) (res : (Int64 × St))  (hf : fX11_sends_s0 n   v1 st = some res) : At p l e (rmK 1) s m args below meth c D G ad (MQJ D G ad below args s res) 5 st [(0, .ref (ad 130)), (1, .int v1)] 0 [] := by
  obtain ⟨hx, hb, hml, hown, hts, hr, hlk, hK, had, hSt⟩ := id C
  intro H locs ls hl hP hS
  unfold fX11_sends_s0 at hf
  refine lv_iconst (v := 0) hx hb dX11_sends_0 (by decide) ?_
  refine lv_istore_n (lv' := [(2, .int 0), (0, .ref (ad 130)), (1, .int v1)]) hx hb dX11_sends_1 rfl hl (by decide) rfl (fun ls hl => ?_)
  exact wX11_sends_L2 C n res n v1 0 st hf H locs ls (lv_sub hl [1, 2, 0] rfl) hP hS
def fX11_sends (n : Nat)  (a1 : Int32) (st : St) : Option (Int64 × St) := fX11_sends_s0 n a1 st
theorem okX11_sends : okY yX11_sends RX11 1 := by unfold okY; decide +kernel
end
set_option maxRecDepth 100000 in
theorem kX11_sends (l : Launch) (D : va_G) (G : G3) (ad : Nat → Nat) (had : Adr ad) (n : Nat)   (a1 : Int32) (st : St) (res : (Int64 × St)) (hf : fX11_sends n  a1 st = some res) {sz : Nat} : CtJ l yX11_sends (wsU yX11_sends cX11_sends 5 (some .long)) (rmK 1) D G ad sz [.ref (ad 130), .int a1] st res := by
  refine Met.ofW (cc := cX11_sends) (maxL := 5) (ret := (some .long)) (by decide) rfl ?_
  intro p e s m args below meth c s₁ B hml hv
  obtain ⟨rfl, hsz, hP, hK, hSt⟩ := hv
  have hts := atoms_spec (ws := wsU yX11_sends cX11_sends 5 (some .long)) B.pre
  have C : Cx p s m _ meth c cX11_sends 5 wsL_law RX11 (some .long) D G ad := ⟨B.exec, B.bytes, hml, findClass_of_methodNamed B.named, fun w h => hts w (List.mem_cons_of_mem _ h), B.returns, B.notSynchronized, hK, had, hSt⟩
  subst hsz
  have hl := lv_entry ([.ref (ad 130), .int a1]) (n := 5) (Nat.le_of_ble_eq_true rfl)
  rw [lg_entry_eq]
  generalize (lg_sl ([.ref (ad 130), .int a1]) ++ List.replicate (5 - (lg_sl ([.ref (ad 130), .int a1])).length) Slot.unset).toArray = ls at hl ⊢
  exact wX11_sends_s0 C n  a1   st res hf s.heap [] ls (lv_sub hl [0, 1] rfl) hP va_S.rf
section
variable {p : Program} {l : Launch} {e : Env} {s : State} {m : MethodId} {args : Array Value} {below : List Frame} {meth : Method} {c : Code} {D : va_G} {G : G3} {ad : Nat → Nat}
def fX11_mean_s60 (n : Nat)   (k0 : Int64) (st : St) : Option (Int64 × St) := some (k0, st)
set_option maxHeartbeats 4000000 in
set_option maxRecDepth 100000 in
theorem wX11_mean_s60 (C : Cx p s m args meth c cX11_mean 7 wsL_law RX11 (some .long) D G ad) (n : Nat)   (k0 : Int64)   (st : St) (res : (Int64 × St))  (hf : fX11_mean_s60 n   k0 st = some res) : At p l e (rmK 0) s m args below meth c D G ad (MQJ D G ad below args s res) 7 st [] 60 [.long k0] := by
  obtain ⟨hx, hb, hml, hown, hts, hr, hlk, hK, had, hSt⟩ := id C
  intro H locs ls hl hP hS
  unfold fX11_mean_s60 at hf
  exact g_lret hx hb hr hlk hP hS dX11_mean_60 hf
def fX11_mean_s55 (n : Nat)   (v3 : Int64) (v5 : Int32) (st : St) : Option (Int64 × St) := if v5.toInt64 = 0 then none else (fX11_mean_s60 n (v3 / v5.toInt64) st)
set_option maxHeartbeats 4000000 in
set_option maxRecDepth 100000 in
theorem wX11_mean_s55 (C : Cx p s m args meth c cX11_mean 7 wsL_law RX11 (some .long) D G ad) (n : Nat)   (v3 : Int64) (v5 : Int32)   (st : St) (res : (Int64 × St))  (hf : fX11_mean_s55 n   v3 v5 st = some res) : At p l e (rmK 0) s m args below meth c D G ad (MQJ D G ad below args s res) 7 st [(3, .long v3), (5, .int v5)] 55 [] := by
  obtain ⟨hx, hb, hml, hown, hts, hr, hlk, hK, had, hSt⟩ := id C
  intro H locs ls hl hP hS
  unfold fX11_mean_s55 at hf
  refine lv_lload_n hx hb dX11_mean_55 rfl (lv_at hl 0 rfl) ?_
  refine lv_iload hx hb dX11_mean_56 (lv_at hl 1 rfl) ?_
  refine lv_i2l hx hb dX11_mean_58 rfl ?_
  obtain ⟨g1, hf⟩ := gn hf
  refine lv_ldiv hx hb dX11_mean_59 g1 ?_
  exact wX11_mean_s60 C n (v3 / v5.toInt64) st res hf H locs ls (lv_sub hl [] rfl) hP hS
def fX11_mean_s51 (n : Nat)    (st : St) : Option (Int64 × St) := fX11_mean_s60 n 0 st
set_option maxHeartbeats 4000000 in
set_option maxRecDepth 100000 in
theorem wX11_mean_s51 (C : Cx p s m args meth c cX11_mean 7 wsL_law RX11 (some .long) D G ad) (n : Nat)      (st : St) (res : (Int64 × St))  (hf : fX11_mean_s51 n    st = some res) : At p l e (rmK 0) s m args below meth c D G ad (MQJ D G ad below args s res) 7 st [] 51 [] := by
  obtain ⟨hx, hb, hml, hown, hts, hr, hlk, hK, had, hSt⟩ := id C
  intro H locs ls hl hP hS
  unfold fX11_mean_s51 at hf
  refine lv_lconst (v := 0) hx hb dX11_mean_51 (by decide) ?_
  refine lv_goto (tgt := 60) hx hb dX11_mean_52 (by decide) ?_
  exact wX11_mean_s60 C n 0 st res hf H locs ls (lv_sub hl [] rfl) hP hS
def fX11_mean_s46 (n : Nat)   (v3 : Int64) (v5 : Int32) (st : St) : Option (Int64 × St) := if v5 = 0 then fX11_mean_s51 n st else fX11_mean_s55 n v3 v5 st
set_option maxHeartbeats 4000000 in
set_option maxRecDepth 100000 in
theorem wX11_mean_s46 (C : Cx p s m args meth c cX11_mean 7 wsL_law RX11 (some .long) D G ad) (n : Nat)   (v3 : Int64) (v5 : Int32)   (st : St) (res : (Int64 × St))  (hf : fX11_mean_s46 n   v3 v5 st = some res) : At p l e (rmK 0) s m args below meth c D G ad (MQJ D G ad below args s res) 7 st [(3, .long v3), (5, .int v5)] 46 [] := by
  obtain ⟨hx, hb, hml, hown, hts, hr, hlk, hK, had, hSt⟩ := id C
  intro H locs ls hl hP hS
  unfold fX11_mean_s46 at hf
  refine lv_iload hx hb dX11_mean_46 (lv_at hl 1 rfl) ?_
  refine lv_if_ne (tgt := 55) hx hb dX11_mean_48 (by decide) (fun q => ?_) (fun q => ?_)
  · exact wX11_mean_s55 C n v3 v5 st res (ie hf q) H locs ls (lv_sub hl [0, 1] rfl) hP hS
  · exact wX11_mean_s51 C n st res (it hf q) H locs ls (lv_sub hl [] rfl) hP hS
def fX11_mean_s19 (n : Nat) (K8 : Int32 → Int64 → Int32 → Int32 → St → Option (Int64 × St))  (v1 : Int32) (v3 : Int64) (v5 : Int32) (v6 : Int32) (st : St) : Option (Int64 × St) := if inb ((40 * v1) + (v6 - v6 / 40 * 40)) 320 = true then (K8 v1 (v3 + (st.2 149 ((40 * v1) + (v6 - v6 / 40 * 40)).toNatClampNeg)) (v5 + 1) (v6 + (-1)) st) else none
set_option maxHeartbeats 4000000 in
set_option maxRecDepth 100000 in
theorem wX11_mean_s19 (C : Cx p s m args meth c cX11_mean 7 wsL_law RX11 (some .long) D G ad) (n : Nat) (K8 : Int32 → Int64 → Int32 → Int32 → St → Option (Int64 × St))  (v1 : Int32) (v3 : Int64) (v5 : Int32) (v6 : Int32)   (st : St) (res : (Int64 × St)) (hK8 : ∀ (v1 : Int32) (v3 : Int64) (v5 : Int32) (v6 : Int32) (st : St), K8 v1 v3 v5 v6 st = some res → At p l e (rmK 0) s m args below meth c D G ad (MQJ D G ad below args s res) 7 st [(0, .ref (ad 130)), (1, .int v1), (3, .long v3), (5, .int v5), (6, .int v6)] 8 []) (hf : fX11_mean_s19 n K8  v1 v3 v5 v6 st = some res) : At p l e (rmK 0) s m args below meth c D G ad (MQJ D G ad below args s res) 7 st [(0, .ref (ad 130)), (1, .int v1), (3, .long v3), (5, .int v5), (6, .int v6)] 19 [] := by
  obtain ⟨hx, hb, hml, hown, hts, hr, hlk, hK, had, hSt⟩ := id C
  intro H locs ls hl hP hS
  unfold fX11_mean_s19 at hf
  refine lv_lload_n hx hb dX11_mean_19 rfl (lv_at hl 2 rfl) ?_
  refine lv_aload_n hx hb dX11_mean_20 rfl (lv_at hl 0 rfl) ?_
  refine g_getR hx hb hts inlX11 hown hK hP 130 ct_130 rfl 24 (by decide) (hts _ wm_7_20) rfl dX11_mean_21 ?_
  refine lv_bipush (v := 40) hx hb dX11_mean_24 (by decide) ?_
  refine lv_iload_n hx hb dX11_mean_26 rfl (lv_at hl 1 rfl) ?_
  refine lv_imul hx hb dX11_mean_27 ?_
  refine lv_iload hx hb dX11_mean_28 (lv_at hl 4 rfl) ?_
  refine lv_bipush (v := 40) hx hb dX11_mean_30 (by decide) ?_
  refine lv_irem hx hb dX11_mean_32 (by decide) ?_
  refine lv_iadd hx hb dX11_mean_33 ?_
  obtain ⟨g1, hf⟩ := gd hf
  refine g_lald hx hb hK hP 149 ct_149 g1 dX11_mean_34 ?_
  refine lv_ladd hx hb dX11_mean_35 ?_
  refine lv_lstore_n (lv' := [(3, .long (v3 + (st.2 149 ((40 * v1) + (v6 - v6 / 40 * 40)).toNatClampNeg))), (0, .ref (ad 130)), (1, .int v1), (5, .int v5), (6, .int v6)]) hx hb dX11_mean_36 rfl hl (by decide) rfl (fun ls hl => ?_)
  refine lv_iinc (v := v5 + 1) (lv' := [(5, .int (v5 + 1)), (3, .long (v3 + (st.2 149 ((40 * v1) + (v6 - v6 / 40 * 40)).toNatClampNeg))), (0, .ref (ad 130)), (1, .int v1), (6, .int v6)]) hx hb dX11_mean_37 hl (k := 3) rfl rfl (by decide) rfl (fun ls hl => ?_)
  refine lv_iinc (v := v6 + (-1)) (lv' := [(6, .int (v6 + (-1))), (5, .int (v5 + 1)), (3, .long (v3 + (st.2 149 ((40 * v1) + (v6 - v6 / 40 * 40)).toNatClampNeg))), (0, .ref (ad 130)), (1, .int v1)]) hx hb dX11_mean_40 hl (k := 4) rfl rfl (by decide) rfl (fun ls hl => ?_)
  refine lv_goto (tgt := 8) hx hb dX11_mean_43 (by decide) ?_
  exact hK8 v1 (v3 + (st.2 149 ((40 * v1) + (v6 - v6 / 40 * 40)).toNatClampNeg)) (v5 + 1) (v6 + (-1))  st hf H locs ls (lv_sub hl [3, 4, 2, 1, 0] rfl) hP hS
def fX11_mean_s13 (n : Nat) (K8 : Int32 → Int64 → Int32 → Int32 → St → Option (Int64 × St))  (v1 : Int32) (v3 : Int64) (v5 : Int32) (v6 : Int32) (st : St) : Option (Int64 × St) := if 4 ≤ v5 then fX11_mean_s46 n v3 v5 st else fX11_mean_s19 n K8 v1 v3 v5 v6 st
set_option maxHeartbeats 4000000 in
set_option maxRecDepth 100000 in
theorem wX11_mean_s13 (C : Cx p s m args meth c cX11_mean 7 wsL_law RX11 (some .long) D G ad) (n : Nat) (K8 : Int32 → Int64 → Int32 → Int32 → St → Option (Int64 × St))  (v1 : Int32) (v3 : Int64) (v5 : Int32) (v6 : Int32)   (st : St) (res : (Int64 × St)) (hK8 : ∀ (v1 : Int32) (v3 : Int64) (v5 : Int32) (v6 : Int32) (st : St), K8 v1 v3 v5 v6 st = some res → At p l e (rmK 0) s m args below meth c D G ad (MQJ D G ad below args s res) 7 st [(0, .ref (ad 130)), (1, .int v1), (3, .long v3), (5, .int v5), (6, .int v6)] 8 []) (hf : fX11_mean_s13 n K8  v1 v3 v5 v6 st = some res) : At p l e (rmK 0) s m args below meth c D G ad (MQJ D G ad below args s res) 7 st [(0, .ref (ad 130)), (1, .int v1), (3, .long v3), (5, .int v5), (6, .int v6)] 13 [] := by
  obtain ⟨hx, hb, hml, hown, hts, hr, hlk, hK, had, hSt⟩ := id C
  intro H locs ls hl hP hS
  unfold fX11_mean_s13 at hf
  refine lv_iload hx hb dX11_mean_13 (lv_at hl 3 rfl) ?_
  refine lv_iconst (v := 4) hx hb dX11_mean_15 (by decide) ?_
  refine lv_icmp_ge (tgt := 46) hx hb dX11_mean_16 (by decide) (fun q => ?_) (fun q => ?_)
  · exact wX11_mean_s46 C n v3 v5 st res (it hf q) H locs ls (lv_sub hl [2, 3] rfl) hP hS
  · exact wX11_mean_s19 C n K8 v1 v3 v5 v6 st res hK8 (ie hf q) H locs ls (lv_sub hl [0, 1, 2, 3, 4] rfl) hP hS
def fX11_mean_s8 (n : Nat) (K8 : Int32 → Int64 → Int32 → Int32 → St → Option (Int64 × St))  (v1 : Int32) (v3 : Int64) (v5 : Int32) (v6 : Int32) (st : St) : Option (Int64 × St) := if v6 < 0 then fX11_mean_s46 n v3 v5 st else fX11_mean_s13 n K8 v1 v3 v5 v6 st
set_option maxHeartbeats 4000000 in
set_option maxRecDepth 100000 in
theorem wX11_mean_s8 (C : Cx p s m args meth c cX11_mean 7 wsL_law RX11 (some .long) D G ad) (n : Nat) (K8 : Int32 → Int64 → Int32 → Int32 → St → Option (Int64 × St))  (v1 : Int32) (v3 : Int64) (v5 : Int32) (v6 : Int32)   (st : St) (res : (Int64 × St)) (hK8 : ∀ (v1 : Int32) (v3 : Int64) (v5 : Int32) (v6 : Int32) (st : St), K8 v1 v3 v5 v6 st = some res → At p l e (rmK 0) s m args below meth c D G ad (MQJ D G ad below args s res) 7 st [(0, .ref (ad 130)), (1, .int v1), (3, .long v3), (5, .int v5), (6, .int v6)] 8 []) (hf : fX11_mean_s8 n K8  v1 v3 v5 v6 st = some res) : At p l e (rmK 0) s m args below meth c D G ad (MQJ D G ad below args s res) 7 st [(0, .ref (ad 130)), (1, .int v1), (3, .long v3), (5, .int v5), (6, .int v6)] 8 [] := by
  obtain ⟨hx, hb, hml, hown, hts, hr, hlk, hK, had, hSt⟩ := id C
  intro H locs ls hl hP hS
  unfold fX11_mean_s8 at hf
  refine lv_iload hx hb dX11_mean_8 (lv_at hl 4 rfl) ?_
  refine lv_if_lt (tgt := 46) hx hb dX11_mean_10 (by decide) (fun q => ?_) (fun q => ?_)
  · exact wX11_mean_s46 C n v3 v5 st res (it hf q) H locs ls (lv_sub hl [2, 3] rfl) hP hS
  · exact wX11_mean_s13 C n K8 v1 v3 v5 v6 st res hK8 (ie hf q) H locs ls (lv_sub hl [0, 1, 2, 3, 4] rfl) hP hS
def fX11_mean_L8 (n : Nat)   : Nat → Int32 → Int64 → Int32 → Int32 → St → Option (Int64 × St)
  | 0, _, _, _, _, _ => none
  | k + 1, v1, v3, v5, v6, st => fX11_mean_s8 n (fX11_mean_L8 n k)  v1 v3 v5 v6 st
theorem wX11_mean_L8 (C : Cx p s m args meth c cX11_mean 7 wsL_law RX11 (some .long) D G ad) (n : Nat)    (res : (Int64 × St))  : ∀ (k : Nat) (v1 : Int32) (v3 : Int64) (v5 : Int32) (v6 : Int32)  (st : St), fX11_mean_L8 n k v1 v3 v5 v6 st = some res → At p l e (rmK 0) s m args below meth c D G ad (MQJ D G ad below args s res) 7 st [(0, .ref (ad 130)), (1, .int v1), (3, .long v3), (5, .int v5), (6, .int v6)] 8 [] := by
  intro k
  induction k with
  | zero => intro v1 v3 v5 v6  st h; exact absurd h (by intro q; cases q)
  | succ k ih => intro v1 v3 v5 v6  st h; exact wX11_mean_s8 C n (fX11_mean_L8 n k)  v1 v3 v5 v6   st res ih h
def fX11_mean_s0 (n : Nat)   (v1 : Int32) (v2 : Int32) (st : St) : Option (Int64 × St) := fX11_mean_L8 n n v1 0 0 v2 st
set_option maxHeartbeats 4000000 in
set_option maxRecDepth 100000 in
theorem wX11_mean_s0 (C : Cx p s m args meth c cX11_mean 7 wsL_law RX11 (some .long) D G ad) (n : Nat)   (v1 : Int32) (v2 : Int32)   (st : St) (res : (Int64 × St))  (hf : fX11_mean_s0 n   v1 v2 st = some res) : At p l e (rmK 0) s m args below meth c D G ad (MQJ D G ad below args s res) 7 st [(0, .ref (ad 130)), (1, .int v1), (2, .int v2)] 0 [] := by
  obtain ⟨hx, hb, hml, hown, hts, hr, hlk, hK, had, hSt⟩ := id C
  intro H locs ls hl hP hS
  unfold fX11_mean_s0 at hf
  refine lv_lconst (v := 0) hx hb dX11_mean_0 (by decide) ?_
  refine lv_lstore_n (lv' := [(3, .long 0), (0, .ref (ad 130)), (1, .int v1), (2, .int v2)]) hx hb dX11_mean_1 rfl hl (by decide) rfl (fun ls hl => ?_)
  refine lv_iconst (v := 0) hx hb dX11_mean_2 (by decide) ?_
  refine lv_istore (lv' := [(5, .int 0), (3, .long 0), (0, .ref (ad 130)), (1, .int v1), (2, .int v2)]) hx hb dX11_mean_3 hl (by decide) rfl (fun ls hl => ?_)
  refine lv_iload_n hx hb dX11_mean_5 rfl (lv_at hl 4 rfl) ?_
  refine lv_istore (lv' := [(6, .int v2), (5, .int 0), (3, .long 0), (0, .ref (ad 130)), (1, .int v1), (2, .int v2)]) hx hb dX11_mean_6 hl (by decide) rfl (fun ls hl => ?_)
  exact wX11_mean_L8 C n res n v1 0 0 v2 st hf H locs ls (lv_sub hl [3, 4, 2, 1, 0] rfl) hP hS
def fX11_mean (n : Nat)  (a1 : Int32) (a2 : Int32) (st : St) : Option (Int64 × St) := fX11_mean_s0 n a1 a2 st
theorem okX11_mean : okY yX11_mean RX11 2 := by unfold okY; decide +kernel
end
set_option maxRecDepth 100000 in
theorem kX11_mean (l : Launch) (D : va_G) (G : G3) (ad : Nat → Nat) (had : Adr ad) (n : Nat)   (a1 : Int32) (a2 : Int32) (st : St) (res : (Int64 × St)) (hf : fX11_mean n  a1 a2 st = some res) {sz : Nat} : CtJ l yX11_mean (wsU yX11_mean cX11_mean 7 (some .long)) (rmK 0) D G ad sz [.ref (ad 130), .int a1, .int a2] st res := by
  refine Met.ofW (cc := cX11_mean) (maxL := 7) (ret := (some .long)) (by decide) rfl ?_
  intro p e s m args below meth c s₁ B hml hv
  obtain ⟨rfl, hsz, hP, hK, hSt⟩ := hv
  have hts := atoms_spec (ws := wsU yX11_mean cX11_mean 7 (some .long)) B.pre
  have C : Cx p s m _ meth c cX11_mean 7 wsL_law RX11 (some .long) D G ad := ⟨B.exec, B.bytes, hml, findClass_of_methodNamed B.named, fun w h => hts w (List.mem_cons_of_mem _ h), B.returns, B.notSynchronized, hK, had, hSt⟩
  subst hsz
  have hl := lv_entry ([.ref (ad 130), .int a1, .int a2]) (n := 7) (Nat.le_of_ble_eq_true rfl)
  rw [lg_entry_eq]
  generalize (lg_sl ([.ref (ad 130), .int a1, .int a2]) ++ List.replicate (7 - (lg_sl ([.ref (ad 130), .int a1, .int a2])).length) Slot.unset).toArray = ls at hl ⊢
  exact wX11_mean_s0 C n  a1 a2   st res hf s.heap [] ls (lv_sub hl [0, 1, 2] rfl) hP va_S.rf
section
variable {p : Program} {l : Launch} {e : Env} {s : State} {m : MethodId} {args : Array Value} {below : List Frame} {meth : Method} {c : Code} {D : va_G} {G : G3} {ad : Nat → Nat}
def fX11_field_s40 (n : Nat)   (v2 : Int32) (st : St) : Option (Int64 × St) := if inb v2 8 = true then (some (st.2 141 v2.toNatClampNeg, st)) else none
set_option maxHeartbeats 4000000 in
set_option maxRecDepth 100000 in
theorem wX11_field_s40 (C : Cx p s m args meth c cX11_field 4 wsL_law RX11 (some .long) D G ad) (n : Nat)   (v2 : Int32)   (st : St) (res : (Int64 × St))  (hf : fX11_field_s40 n   v2 st = some res) : At p l e (rmK 2) s m args below meth c D G ad (MQJ D G ad below args s res) 4 st [(0, .ref (ad 130)), (2, .int v2)] 40 [] := by
  obtain ⟨hx, hb, hml, hown, hts, hr, hlk, hK, had, hSt⟩ := id C
  intro H locs ls hl hP hS
  unfold fX11_field_s40 at hf
  refine lv_aload_n hx hb dX11_field_40 rfl (lv_at hl 0 rfl) ?_
  refine g_getR hx hb hts inlX11 hown hK hP 130 ct_130 rfl 16 (by decide) (hts _ wm_7_12) rfl dX11_field_41 ?_
  refine lv_iload_n hx hb dX11_field_44 rfl (lv_at hl 1 rfl) ?_
  obtain ⟨g1, hf⟩ := gd hf
  refine g_lald hx hb hK hP 141 ct_141 g1 dX11_field_45 ?_
  exact g_lret hx hb hr hlk hP hS dX11_field_46 hf
def fX11_field_s52 (n : Nat)   (k0 : Int64) (st : St) : Option (Int64 × St) := some (k0, st)
set_option maxHeartbeats 4000000 in
set_option maxRecDepth 100000 in
theorem wX11_field_s52 (C : Cx p s m args meth c cX11_field 4 wsL_law RX11 (some .long) D G ad) (n : Nat)   (k0 : Int64)   (st : St) (res : (Int64 × St))  (hf : fX11_field_s52 n   k0 st = some res) : At p l e (rmK 2) s m args below meth c D G ad (MQJ D G ad below args s res) 4 st [] 52 [.long k0] := by
  obtain ⟨hx, hb, hml, hown, hts, hr, hlk, hK, had, hSt⟩ := id C
  intro H locs ls hl hP hS
  unfold fX11_field_s52 at hf
  exact g_lret hx hb hr hlk hP hS dX11_field_52 hf
def fX11_field_s47 (n : Nat)   (v2 : Int32) (st : St) : Option (Int64 × St) := (fX11_owes n v2 st).bind (fun q => fX11_field_s52 n q.1 q.2)
set_option maxHeartbeats 4000000 in
set_option maxRecDepth 100000 in
theorem wX11_field_s47 (C : Cx p s m args meth c cX11_field 4 wsL_law RX11 (some .long) D G ad) (n : Nat)   (v2 : Int32)   (st : St) (res : (Int64 × St))  (hf : fX11_field_s47 n   v2 st = some res) : At p l e (rmK 2) s m args below meth c D G ad (MQJ D G ad below args s res) 4 st [(0, .ref (ad 130)), (2, .int v2)] 47 [] := by
  obtain ⟨hx, hb, hml, hown, hts, hr, hlk, hK, had, hSt⟩ := id C
  intro H locs ls hl hP hS
  unfold fX11_field_s47 at hf
  refine lv_aload_n hx hb dX11_field_47 rfl (lv_at hl 0 rfl) ?_
  refine lv_iload_n hx hb dX11_field_48 rfl (lv_at hl 1 rfl) ?_
  obtain ⟨q, hq, hf⟩ := bd hf
  refine gcV_j (k := 0) (o := 130) (As := [.int v2]) (rest := []) hx hb hml hown hts hK hSt hP hS hl.1 (goodV wm_13_18 wm_13_19 wm_13_20 wm_1_5 wm_13_21) okX11_owes ct_130 rfl rfl (Nat.le_of_ble_eq_true rfl) (Nat.le_of_ble_eq_true rfl) rfl rfl (Nat.le_of_ble_eq_true rfl) dX11_field_49 (kX11_owes l D G ad had n  v2 st q hq) (fun H locs hP hS => ?_)
  exact wX11_field_s52 C n q.1 q.2 res hf H locs ls (lv_sub hl [] rfl) hP hS
def fX11_field_s58 (n : Nat)   (k0 : Int64) (st : St) : Option (Int64 × St) := some (k0, st)
set_option maxHeartbeats 4000000 in
set_option maxRecDepth 100000 in
theorem wX11_field_s58 (C : Cx p s m args meth c cX11_field 4 wsL_law RX11 (some .long) D G ad) (n : Nat)   (k0 : Int64)   (st : St) (res : (Int64 × St))  (hf : fX11_field_s58 n   k0 st = some res) : At p l e (rmK 2) s m args below meth c D G ad (MQJ D G ad below args s res) 4 st [] 58 [.long k0] := by
  obtain ⟨hx, hb, hml, hown, hts, hr, hlk, hK, had, hSt⟩ := id C
  intro H locs ls hl hP hS
  unfold fX11_field_s58 at hf
  exact g_lret hx hb hr hlk hP hS dX11_field_58 hf
def fX11_field_s53 (n : Nat)   (v2 : Int32) (st : St) : Option (Int64 × St) := (fX11_onWay n v2 st).bind (fun q => fX11_field_s58 n q.1 q.2)
set_option maxHeartbeats 4000000 in
set_option maxRecDepth 100000 in
theorem wX11_field_s53 (C : Cx p s m args meth c cX11_field 4 wsL_law RX11 (some .long) D G ad) (n : Nat)   (v2 : Int32)   (st : St) (res : (Int64 × St))  (hf : fX11_field_s53 n   v2 st = some res) : At p l e (rmK 2) s m args below meth c D G ad (MQJ D G ad below args s res) 4 st [(0, .ref (ad 130)), (2, .int v2)] 53 [] := by
  obtain ⟨hx, hb, hml, hown, hts, hr, hlk, hK, had, hSt⟩ := id C
  intro H locs ls hl hP hS
  unfold fX11_field_s53 at hf
  refine lv_aload_n hx hb dX11_field_53 rfl (lv_at hl 0 rfl) ?_
  refine lv_iload_n hx hb dX11_field_54 rfl (lv_at hl 1 rfl) ?_
  obtain ⟨q, hq, hf⟩ := bd hf
  refine gcV_j (k := 0) (o := 130) (As := [.int v2]) (rest := []) hx hb hml hown hts hK hSt hP hS hl.1 (goodV wm_13_22 wm_13_23 wm_14_0 wm_1_5 wm_14_1) okX11_onWay ct_130 rfl rfl (Nat.le_of_ble_eq_true rfl) (Nat.le_of_ble_eq_true rfl) rfl rfl (Nat.le_of_ble_eq_true rfl) dX11_field_55 (kX11_onWay l D G ad had n  v2 st q hq) (fun H locs hP hS => ?_)
  exact wX11_field_s58 C n q.1 q.2 res hf H locs ls (lv_sub hl [] rfl) hP hS
def fX11_field_s59 (n : Nat)   (v2 : Int32) (st : St) : Option (Int64 × St) := if inb v2 8 = true then (some (st.2 147 v2.toNatClampNeg, st)) else none
set_option maxHeartbeats 4000000 in
set_option maxRecDepth 100000 in
theorem wX11_field_s59 (C : Cx p s m args meth c cX11_field 4 wsL_law RX11 (some .long) D G ad) (n : Nat)   (v2 : Int32)   (st : St) (res : (Int64 × St))  (hf : fX11_field_s59 n   v2 st = some res) : At p l e (rmK 2) s m args below meth c D G ad (MQJ D G ad below args s res) 4 st [(0, .ref (ad 130)), (2, .int v2)] 59 [] := by
  obtain ⟨hx, hb, hml, hown, hts, hr, hlk, hK, had, hSt⟩ := id C
  intro H locs ls hl hP hS
  unfold fX11_field_s59 at hf
  refine lv_aload_n hx hb dX11_field_59 rfl (lv_at hl 0 rfl) ?_
  refine g_getR hx hb hts inlX11 hown hK hP 130 ct_130 rfl 22 (by decide) (hts _ wm_7_18) rfl dX11_field_60 ?_
  refine lv_iload_n hx hb dX11_field_63 rfl (lv_at hl 1 rfl) ?_
  obtain ⟨g1, hf⟩ := gd hf
  refine g_lald hx hb hK hP 147 ct_147 g1 dX11_field_64 ?_
  exact g_lret hx hb hr hlk hP hS dX11_field_65 hf
def fX11_field_s72 (n : Nat)   (k0 : Int64) (st : St) : Option (Int64 × St) := some (k0, st)
set_option maxHeartbeats 4000000 in
set_option maxRecDepth 100000 in
theorem wX11_field_s72 (C : Cx p s m args meth c cX11_field 4 wsL_law RX11 (some .long) D G ad) (n : Nat)   (k0 : Int64)   (st : St) (res : (Int64 × St))  (hf : fX11_field_s72 n   k0 st = some res) : At p l e (rmK 2) s m args below meth c D G ad (MQJ D G ad below args s res) 4 st [] 72 [.long k0] := by
  obtain ⟨hx, hb, hml, hown, hts, hr, hlk, hK, had, hSt⟩ := id C
  intro H locs ls hl hP hS
  unfold fX11_field_s72 at hf
  exact g_lret hx hb hr hlk hP hS dX11_field_72 hf
def fX11_field_s66 (n : Nat)   (v2 : Int32) (v3 : Int32) (st : St) : Option (Int64 × St) := (fX11_mean n v2 v3 st).bind (fun q => fX11_field_s72 n q.1 q.2)
set_option maxHeartbeats 4000000 in
set_option maxRecDepth 100000 in
theorem wX11_field_s66 (C : Cx p s m args meth c cX11_field 4 wsL_law RX11 (some .long) D G ad) (n : Nat)   (v2 : Int32) (v3 : Int32)   (st : St) (res : (Int64 × St))  (hf : fX11_field_s66 n   v2 v3 st = some res) : At p l e (rmK 2) s m args below meth c D G ad (MQJ D G ad below args s res) 4 st [(0, .ref (ad 130)), (2, .int v2), (3, .int v3)] 66 [] := by
  obtain ⟨hx, hb, hml, hown, hts, hr, hlk, hK, had, hSt⟩ := id C
  intro H locs ls hl hP hS
  unfold fX11_field_s66 at hf
  refine lv_aload_n hx hb dX11_field_66 rfl (lv_at hl 0 rfl) ?_
  refine lv_iload_n hx hb dX11_field_67 rfl (lv_at hl 1 rfl) ?_
  refine lv_iload_n hx hb dX11_field_68 rfl (lv_at hl 2 rfl) ?_
  obtain ⟨q, hq, hf⟩ := bd hf
  refine gcV_j (k := 0) (o := 130) (As := [.int v2, .int v3]) (rest := []) hx hb hml hown hts hK hSt hP hS hl.1 (goodV wm_23_19 wm_23_20 wm_23_21 wm_1_5 wm_23_22) okX11_mean ct_130 rfl rfl (Nat.le_of_ble_eq_true rfl) (Nat.le_of_ble_eq_true rfl) rfl rfl (Nat.le_of_ble_eq_true rfl) dX11_field_69 (kX11_mean l D G ad had n  v2 v3 st q hq) (fun H locs hP hS => ?_)
  exact wX11_field_s72 C n q.1 q.2 res hf H locs ls (lv_sub hl [] rfl) hP hS
def fX11_field_s83 (n : Nat)   (k0 : Int64) (st : St) : Option (Int64 × St) := some (k0, st)
set_option maxHeartbeats 4000000 in
set_option maxRecDepth 100000 in
theorem wX11_field_s83 (C : Cx p s m args meth c cX11_field 4 wsL_law RX11 (some .long) D G ad) (n : Nat)   (k0 : Int64)   (st : St) (res : (Int64 × St))  (hf : fX11_field_s83 n   k0 st = some res) : At p l e (rmK 2) s m args below meth c D G ad (MQJ D G ad below args s res) 4 st [] 83 [.long k0] := by
  obtain ⟨hx, hb, hml, hown, hts, hr, hlk, hK, had, hSt⟩ := id C
  intro H locs ls hl hP hS
  unfold fX11_field_s83 at hf
  exact g_lret hx hb hr hlk hP hS dX11_field_83 hf
def fX11_field_s81 (n : Nat)   (v3 : Int32) (st : St) : Option (Int64 × St) := fX11_field_s83 n v3.toInt64 st
set_option maxHeartbeats 4000000 in
set_option maxRecDepth 100000 in
theorem wX11_field_s81 (C : Cx p s m args meth c cX11_field 4 wsL_law RX11 (some .long) D G ad) (n : Nat)   (v3 : Int32)   (st : St) (res : (Int64 × St))  (hf : fX11_field_s81 n   v3 st = some res) : At p l e (rmK 2) s m args below meth c D G ad (MQJ D G ad below args s res) 4 st [(3, .int v3)] 81 [] := by
  obtain ⟨hx, hb, hml, hown, hts, hr, hlk, hK, had, hSt⟩ := id C
  intro H locs ls hl hP hS
  unfold fX11_field_s81 at hf
  refine lv_iload_n hx hb dX11_field_81 rfl (lv_at hl 0 rfl) ?_
  refine lv_i2l hx hb dX11_field_82 rfl ?_
  exact wX11_field_s83 C n v3.toInt64 st res hf H locs ls (lv_sub hl [] rfl) hP hS
def fX11_field_s77 (n : Nat)    (st : St) : Option (Int64 × St) := fX11_field_s83 n 0 st
set_option maxHeartbeats 4000000 in
set_option maxRecDepth 100000 in
theorem wX11_field_s77 (C : Cx p s m args meth c cX11_field 4 wsL_law RX11 (some .long) D G ad) (n : Nat)      (st : St) (res : (Int64 × St))  (hf : fX11_field_s77 n    st = some res) : At p l e (rmK 2) s m args below meth c D G ad (MQJ D G ad below args s res) 4 st [] 77 [] := by
  obtain ⟨hx, hb, hml, hown, hts, hr, hlk, hK, had, hSt⟩ := id C
  intro H locs ls hl hP hS
  unfold fX11_field_s77 at hf
  refine lv_lconst (v := 0) hx hb dX11_field_77 (by decide) ?_
  refine lv_goto (tgt := 83) hx hb dX11_field_78 (by decide) ?_
  exact wX11_field_s83 C n 0 st res hf H locs ls (lv_sub hl [] rfl) hP hS
def fX11_field_s73 (n : Nat)   (v3 : Int32) (st : St) : Option (Int64 × St) := if 0 ≤ v3 then fX11_field_s81 n v3 st else fX11_field_s77 n st
set_option maxHeartbeats 4000000 in
set_option maxRecDepth 100000 in
theorem wX11_field_s73 (C : Cx p s m args meth c cX11_field 4 wsL_law RX11 (some .long) D G ad) (n : Nat)   (v3 : Int32)   (st : St) (res : (Int64 × St))  (hf : fX11_field_s73 n   v3 st = some res) : At p l e (rmK 2) s m args below meth c D G ad (MQJ D G ad below args s res) 4 st [(3, .int v3)] 73 [] := by
  obtain ⟨hx, hb, hml, hown, hts, hr, hlk, hK, had, hSt⟩ := id C
  intro H locs ls hl hP hS
  unfold fX11_field_s73 at hf
  refine lv_iload_n hx hb dX11_field_73 rfl (lv_at hl 0 rfl) ?_
  refine lv_if_ge (tgt := 81) hx hb dX11_field_74 (by decide) (fun q => ?_) (fun q => ?_)
  · exact wX11_field_s81 C n v3 st res (it hf q) H locs ls (lv_sub hl [0] rfl) hP hS
  · exact wX11_field_s77 C n st res (ie hf q) H locs ls (lv_sub hl [] rfl) hP hS
def fX11_field_s89 (n : Nat)   (k0 : Int64) (st : St) : Option (Int64 × St) := some (k0, st)
set_option maxHeartbeats 4000000 in
set_option maxRecDepth 100000 in
theorem wX11_field_s89 (C : Cx p s m args meth c cX11_field 4 wsL_law RX11 (some .long) D G ad) (n : Nat)   (k0 : Int64)   (st : St) (res : (Int64 × St))  (hf : fX11_field_s89 n   k0 st = some res) : At p l e (rmK 2) s m args below meth c D G ad (MQJ D G ad below args s res) 4 st [] 89 [.long k0] := by
  obtain ⟨hx, hb, hml, hown, hts, hr, hlk, hK, had, hSt⟩ := id C
  intro H locs ls hl hP hS
  unfold fX11_field_s89 at hf
  exact g_lret hx hb hr hlk hP hS dX11_field_89 hf
def fX11_field_s84 (n : Nat)   (v2 : Int32) (st : St) : Option (Int64 × St) := (fX11_position n v2 st).bind (fun q => fX11_field_s89 n q.1 q.2)
set_option maxHeartbeats 4000000 in
set_option maxRecDepth 100000 in
theorem wX11_field_s84 (C : Cx p s m args meth c cX11_field 4 wsL_law RX11 (some .long) D G ad) (n : Nat)   (v2 : Int32)   (st : St) (res : (Int64 × St))  (hf : fX11_field_s84 n   v2 st = some res) : At p l e (rmK 2) s m args below meth c D G ad (MQJ D G ad below args s res) 4 st [(0, .ref (ad 130)), (2, .int v2)] 84 [] := by
  obtain ⟨hx, hb, hml, hown, hts, hr, hlk, hK, had, hSt⟩ := id C
  intro H locs ls hl hP hS
  unfold fX11_field_s84 at hf
  refine lv_aload_n hx hb dX11_field_84 rfl (lv_at hl 0 rfl) ?_
  refine lv_iload_n hx hb dX11_field_85 rfl (lv_at hl 1 rfl) ?_
  obtain ⟨q, hq, hf⟩ := bd hf
  refine gcV_j (k := 1) (o := 130) (As := [.int v2]) (rest := []) hx hb hml hown hts hK hSt hP hS hl.1 (goodV wm_14_16 wm_14_17 wm_14_18 wm_1_5 wm_14_19) okX11_position ct_130 rfl rfl (Nat.le_of_ble_eq_true rfl) (Nat.le_of_ble_eq_true rfl) rfl rfl (Nat.le_of_ble_eq_true rfl) dX11_field_86 (kX11_position l D G ad had n  v2 st q hq) (fun H locs hP hS => ?_)
  exact wX11_field_s89 C n q.1 q.2 res hf H locs ls (lv_sub hl [] rfl) hP hS
def fX11_field_s0 (n : Nat)   (v1 : Int32) (v2 : Int32) (v3 : Int32) (st : St) : Option (Int64 × St) := if v1 = 0 then fX11_field_s40 n v2 st else if v1 = 1 then fX11_field_s47 n v2 st else if v1 = 2 then fX11_field_s53 n v2 st else if v1 = 3 then fX11_field_s59 n v2 st else if v1 = 4 then fX11_field_s66 n v2 v3 st else if v1 = 5 then fX11_field_s73 n v3 st else fX11_field_s84 n v2 st
set_option maxHeartbeats 4000000 in
set_option maxRecDepth 100000 in
theorem wX11_field_s0 (C : Cx p s m args meth c cX11_field 4 wsL_law RX11 (some .long) D G ad) (n : Nat)   (v1 : Int32) (v2 : Int32) (v3 : Int32)   (st : St) (res : (Int64 × St))  (hf : fX11_field_s0 n   v1 v2 v3 st = some res) : At p l e (rmK 2) s m args below meth c D G ad (MQJ D G ad below args s res) 4 st [(0, .ref (ad 130)), (1, .int v1), (2, .int v2), (3, .int v3)] 0 [] := by
  obtain ⟨hx, hb, hml, hown, hts, hr, hlk, hK, had, hSt⟩ := id C
  intro H locs ls hl hP hS
  unfold fX11_field_s0 at hf
  refine lv_iload_n hx hb dX11_field_0 rfl (lv_at hl 1 rfl) ?_
  by_cases q : v1 = 0
  · rw [q]
    refine lv_tableIn (tgt := 40) hx hb dX11_field_1 (by decide) (by decide) rfl (by decide) ?_
    exact wX11_field_s40 C n v2 st res (it hf q) H locs ls (lv_sub hl [0, 2] rfl) hP hS
  replace hf := ie hf q
  have q0 := q
  clear q
  by_cases q : v1 = 1
  · rw [q]
    refine lv_tableIn (tgt := 47) hx hb dX11_field_1 (by decide) (by decide) rfl (by decide) ?_
    exact wX11_field_s47 C n v2 st res (it hf q) H locs ls (lv_sub hl [0, 2] rfl) hP hS
  replace hf := ie hf q
  have q1 := q
  clear q
  by_cases q : v1 = 2
  · rw [q]
    refine lv_tableIn (tgt := 53) hx hb dX11_field_1 (by decide) (by decide) rfl (by decide) ?_
    exact wX11_field_s53 C n v2 st res (it hf q) H locs ls (lv_sub hl [0, 2] rfl) hP hS
  replace hf := ie hf q
  have q2 := q
  clear q
  by_cases q : v1 = 3
  · rw [q]
    refine lv_tableIn (tgt := 59) hx hb dX11_field_1 (by decide) (by decide) rfl (by decide) ?_
    exact wX11_field_s59 C n v2 st res (it hf q) H locs ls (lv_sub hl [0, 2] rfl) hP hS
  replace hf := ie hf q
  have q3 := q
  clear q
  by_cases q : v1 = 4
  · rw [q]
    refine lv_tableIn (tgt := 66) hx hb dX11_field_1 (by decide) (by decide) rfl (by decide) ?_
    exact wX11_field_s66 C n v2 v3 st res (it hf q) H locs ls (lv_sub hl [0, 2, 3] rfl) hP hS
  replace hf := ie hf q
  have q4 := q
  clear q
  by_cases q : v1 = 5
  · rw [q]
    refine lv_tableIn (tgt := 73) hx hb dX11_field_1 (by decide) (by decide) rfl (by decide) ?_
    exact wX11_field_s73 C n v3 st res (it hf q) H locs ls (lv_sub hl [3] rfl) hP hS
  replace hf := ie hf q
  have q5 := q
  clear q
  have qo : v1.toInt < 0 ∨ 5 < v1.toInt := by
    refine Classical.byContradiction (fun w => ?_)
    have w : v1.toInt = 0 ∨ v1.toInt = 1 ∨ v1.toInt = 2 ∨ v1.toInt = 3 ∨ v1.toInt = 4 ∨ v1.toInt = 5 := by omega
    rcases w with w | w | w | w | w | w
    · exact q0 (Int32.toInt_inj.mp (w.trans (by decide)))
    · exact q1 (Int32.toInt_inj.mp (w.trans (by decide)))
    · exact q2 (Int32.toInt_inj.mp (w.trans (by decide)))
    · exact q3 (Int32.toInt_inj.mp (w.trans (by decide)))
    · exact q4 (Int32.toInt_inj.mp (w.trans (by decide)))
    · exact q5 (Int32.toInt_inj.mp (w.trans (by decide)))
  refine lv_tableOut (tgt := 84) hx hb dX11_field_1 qo (by decide) ?_
  exact wX11_field_s84 C n v2 st res hf H locs ls (lv_sub hl [0, 2] rfl) hP hS
def fX11_field (n : Nat)  (a1 : Int32) (a2 : Int32) (a3 : Int32) (st : St) : Option (Int64 × St) := fX11_field_s0 n a1 a2 a3 st
theorem okX11_field : okY yX11_field RX11 3 := by unfold okY; decide +kernel
end
set_option maxRecDepth 100000 in
theorem kX11_field (l : Launch) (D : va_G) (G : G3) (ad : Nat → Nat) (had : Adr ad) (n : Nat)   (a1 : Int32) (a2 : Int32) (a3 : Int32) (st : St) (res : (Int64 × St)) (hf : fX11_field n  a1 a2 a3 st = some res) {sz : Nat} : CtJ l yX11_field (wsU yX11_field cX11_field 4 (some .long)) (rmK 2) D G ad sz [.ref (ad 130), .int a1, .int a2, .int a3] st res := by
  refine Met.ofW (cc := cX11_field) (maxL := 4) (ret := (some .long)) (by decide) rfl ?_
  intro p e s m args below meth c s₁ B hml hv
  obtain ⟨rfl, hsz, hP, hK, hSt⟩ := hv
  have hts := atoms_spec (ws := wsU yX11_field cX11_field 4 (some .long)) B.pre
  have C : Cx p s m _ meth c cX11_field 4 wsL_law RX11 (some .long) D G ad := ⟨B.exec, B.bytes, hml, findClass_of_methodNamed B.named, fun w h => hts w (List.mem_cons_of_mem _ h), B.returns, B.notSynchronized, hK, had, hSt⟩
  subst hsz
  have hl := lv_entry ([.ref (ad 130), .int a1, .int a2, .int a3]) (n := 4) (Nat.le_of_ble_eq_true rfl)
  rw [lg_entry_eq]
  generalize (lg_sl ([.ref (ad 130), .int a1, .int a2, .int a3]) ++ List.replicate (4 - (lg_sl ([.ref (ad 130), .int a1, .int a2, .int a3])).length) Slot.unset).toArray = ls at hl ⊢
  exact wX11_field_s0 C n  a1 a2 a3   st res hf s.heap [] ls (lv_sub hl [0, 1, 2, 3] rfl) hP va_S.rf
section
variable {p : Program} {l : Launch} {e : Env} {s : State} {m : MethodId} {args : Array Value} {below : List Frame} {meth : Method} {c : Code} {D : va_G} {G : G3} {ad : Nat → Nat}
def fX11_kept0_s29 (n : Nat)   (k0 : Int64) (st : St) : Option (Int64 × St) := some (k0, st)
set_option maxHeartbeats 4000000 in
set_option maxRecDepth 100000 in
theorem wX11_kept0_s29 (C : Cx p s m args meth c cX11_kept0 2 wsL_law RX11 (some .long) D G ad) (n : Nat)   (k0 : Int64)   (st : St) (res : (Int64 × St))  (hf : fX11_kept0_s29 n   k0 st = some res) : At p l e (rmK 0) s m args below meth c D G ad (MQJ D G ad below args s res) 2 st [] 29 [.long k0] := by
  obtain ⟨hx, hb, hml, hown, hts, hr, hlk, hK, had, hSt⟩ := id C
  intro H locs ls hl hP hS
  unfold fX11_kept0_s29 at hf
  exact g_lret hx hb hr hlk hP hS dX11_kept0_29 hf
def fX11_kept0_s28 (n : Nat)   (v0 : Int64) (st : St) : Option (Int64 × St) := fX11_kept0_s29 n v0 st
set_option maxHeartbeats 4000000 in
set_option maxRecDepth 100000 in
theorem wX11_kept0_s28 (C : Cx p s m args meth c cX11_kept0 2 wsL_law RX11 (some .long) D G ad) (n : Nat)   (v0 : Int64)   (st : St) (res : (Int64 × St))  (hf : fX11_kept0_s28 n   v0 st = some res) : At p l e (rmK 0) s m args below meth c D G ad (MQJ D G ad below args s res) 2 st [(0, .long v0)] 28 [] := by
  obtain ⟨hx, hb, hml, hown, hts, hr, hlk, hK, had, hSt⟩ := id C
  intro H locs ls hl hP hS
  unfold fX11_kept0_s28 at hf
  refine lv_lload_n hx hb dX11_kept0_28 rfl (lv_at hl 0 rfl) ?_
  exact wX11_kept0_s29 C n v0 st res hf H locs ls (lv_sub hl [] rfl) hP hS
def fX11_kept0_s22 (n : Nat)    (st : St) : Option (Int64 × St) := fX11_kept0_s29 n (-1000000000) st
set_option maxHeartbeats 4000000 in
set_option maxRecDepth 100000 in
theorem wX11_kept0_s22 (C : Cx p s m args meth c cX11_kept0 2 wsL_law RX11 (some .long) D G ad) (n : Nat)      (st : St) (res : (Int64 × St))  (hf : fX11_kept0_s22 n    st = some res) : At p l e (rmK 0) s m args below meth c D G ad (MQJ D G ad below args s res) 2 st [] 22 [] := by
  obtain ⟨hx, hb, hml, hown, hts, hr, hlk, hK, had, hSt⟩ := id C
  intro H locs ls hl hP hS
  unfold fX11_kept0_s22 at hf
  refine lv_ldc2 hx hb hown (hts _ wm_24_3) dX11_kept0_22 ?_
  refine lv_goto (tgt := 29) hx hb dX11_kept0_25 (by decide) ?_
  exact wX11_kept0_s29 C n (-1000000000) st res hf H locs ls (lv_sub hl [] rfl) hP hS
def fX11_kept0_s14 (n : Nat)   (v0 : Int64) (st : St) : Option (Int64 × St) := if (-1000000000) ≤ v0 then fX11_kept0_s28 n v0 st else fX11_kept0_s22 n st
set_option maxHeartbeats 4000000 in
set_option maxRecDepth 100000 in
theorem wX11_kept0_s14 (C : Cx p s m args meth c cX11_kept0 2 wsL_law RX11 (some .long) D G ad) (n : Nat)   (v0 : Int64)   (st : St) (res : (Int64 × St))  (hf : fX11_kept0_s14 n   v0 st = some res) : At p l e (rmK 0) s m args below meth c D G ad (MQJ D G ad below args s res) 2 st [(0, .long v0)] 14 [] := by
  obtain ⟨hx, hb, hml, hown, hts, hr, hlk, hK, had, hSt⟩ := id C
  intro H locs ls hl hP hS
  unfold fX11_kept0_s14 at hf
  refine lv_lload_n hx hb dX11_kept0_14 rfl (lv_at hl 0 rfl) ?_
  refine lv_ldc2 hx hb hown (hts _ wm_24_3) dX11_kept0_15 ?_
  refine g_lcmp_ge (tgt := 28) hx hb dX11_kept0_18 dX11_kept0_19 (by decide) (fun q => ?_) (fun q => ?_)
  · exact wX11_kept0_s28 C n v0 st res (it hf q) H locs ls (lv_sub hl [0] rfl) hP hS
  · exact wX11_kept0_s22 C n st res (ie hf q) H locs ls (lv_sub hl [] rfl) hP hS
def fX11_kept0_s8 (n : Nat)    (st : St) : Option (Int64 × St) := fX11_kept0_s29 n 1000000000 st
set_option maxHeartbeats 4000000 in
set_option maxRecDepth 100000 in
theorem wX11_kept0_s8 (C : Cx p s m args meth c cX11_kept0 2 wsL_law RX11 (some .long) D G ad) (n : Nat)      (st : St) (res : (Int64 × St))  (hf : fX11_kept0_s8 n    st = some res) : At p l e (rmK 0) s m args below meth c D G ad (MQJ D G ad below args s res) 2 st [] 8 [] := by
  obtain ⟨hx, hb, hml, hown, hts, hr, hlk, hK, had, hSt⟩ := id C
  intro H locs ls hl hP hS
  unfold fX11_kept0_s8 at hf
  refine lv_ldc2 hx hb hown (hts _ wm_24_2) dX11_kept0_8 ?_
  refine lv_goto (tgt := 29) hx hb dX11_kept0_11 (by decide) ?_
  exact wX11_kept0_s29 C n 1000000000 st res hf H locs ls (lv_sub hl [] rfl) hP hS
def fX11_kept0_s0 (n : Nat)   (v0 : Int64) (st : St) : Option (Int64 × St) := if v0 ≤ 1000000000 then fX11_kept0_s14 n v0 st else fX11_kept0_s8 n st
set_option maxHeartbeats 4000000 in
set_option maxRecDepth 100000 in
theorem wX11_kept0_s0 (C : Cx p s m args meth c cX11_kept0 2 wsL_law RX11 (some .long) D G ad) (n : Nat)   (v0 : Int64)   (st : St) (res : (Int64 × St))  (hf : fX11_kept0_s0 n   v0 st = some res) : At p l e (rmK 0) s m args below meth c D G ad (MQJ D G ad below args s res) 2 st [(0, .long v0)] 0 [] := by
  obtain ⟨hx, hb, hml, hown, hts, hr, hlk, hK, had, hSt⟩ := id C
  intro H locs ls hl hP hS
  unfold fX11_kept0_s0 at hf
  refine lv_lload_n hx hb dX11_kept0_0 rfl (lv_at hl 0 rfl) ?_
  refine lv_ldc2 hx hb hown (hts _ wm_24_2) dX11_kept0_1 ?_
  refine g_lcmp_le (tgt := 14) hx hb dX11_kept0_4 dX11_kept0_5 (by decide) (fun q => ?_) (fun q => ?_)
  · exact wX11_kept0_s14 C n v0 st res (it hf q) H locs ls (lv_sub hl [0] rfl) hP hS
  · exact wX11_kept0_s8 C n st res (ie hf q) H locs ls (lv_sub hl [] rfl) hP hS
def fX11_kept0 (n : Nat)  (a0 : Int64) (st : St) : Option (Int64 × St) := fX11_kept0_s0 n a0 st
theorem okX11_kept0 : okY yX11_kept0 RX11 1 := by unfold okY; decide +kernel
end
set_option maxRecDepth 100000 in
theorem kX11_kept0 (l : Launch) (D : va_G) (G : G3) (ad : Nat → Nat) (had : Adr ad) (n : Nat)   (a0 : Int64) (st : St) (res : (Int64 × St)) (hf : fX11_kept0 n  a0 st = some res) {sz : Nat} : CtJ l yX11_kept0 (wsU yX11_kept0 cX11_kept0 2 (some .long)) (rmK 0) D G ad sz [.long a0] st res := by
  refine Met.ofW (cc := cX11_kept0) (maxL := 2) (ret := (some .long)) (by decide) rfl ?_
  intro p e s m args below meth c s₁ B hml hv
  obtain ⟨rfl, hsz, hP, hK, hSt⟩ := hv
  have hts := atoms_spec (ws := wsU yX11_kept0 cX11_kept0 2 (some .long)) B.pre
  have C : Cx p s m _ meth c cX11_kept0 2 wsL_law RX11 (some .long) D G ad := ⟨B.exec, B.bytes, hml, findClass_of_methodNamed B.named, fun w h => hts w (List.mem_cons_of_mem _ h), B.returns, B.notSynchronized, hK, had, hSt⟩
  subst hsz
  have hl := lv_entry ([.long a0]) (n := 2) (Nat.le_of_ble_eq_true rfl)
  rw [lg_entry_eq]
  generalize (lg_sl ([.long a0]) ++ List.replicate (2 - (lg_sl ([.long a0])).length) Slot.unset).toArray = ls at hl ⊢
  exact wX11_kept0_s0 C n  a0   st res hf s.heap [] ls (lv_sub hl [0] rfl) hP va_S.rf
section
variable {p : Program} {l : Launch} {e : Env} {s : State} {m : MethodId} {args : Array Value} {below : List Frame} {meth : Method} {c : Code} {D : va_G} {G : G3} {ad : Nat → Nat}
def fX11_stepOf_s60 (n : Nat)   (v1 : Int64) (v3 : Int64) (st : St) : Option (Int64 × St) := some (v1 * v3, st)
set_option maxHeartbeats 4000000 in
set_option maxRecDepth 100000 in
theorem wX11_stepOf_s60 (C : Cx p s m args meth c cX11_stepOf 5 wsL_law RX11 (some .long) D G ad) (n : Nat)   (v1 : Int64) (v3 : Int64)   (st : St) (res : (Int64 × St))  (hf : fX11_stepOf_s60 n   v1 v3 st = some res) : At p l e (rmK 0) s m args below meth c D G ad (MQJ D G ad below args s res) 5 st [(1, .long v1), (3, .long v3)] 60 [] := by
  obtain ⟨hx, hb, hml, hown, hts, hr, hlk, hK, had, hSt⟩ := id C
  intro H locs ls hl hP hS
  unfold fX11_stepOf_s60 at hf
  refine lv_lload_n hx hb dX11_stepOf_60 rfl (lv_at hl 0 rfl) ?_
  refine lv_lload_n hx hb dX11_stepOf_61 rfl (lv_at hl 1 rfl) ?_
  refine lv_lmul hx hb dX11_stepOf_62 ?_
  exact g_lret hx hb hr hlk hP hS dX11_stepOf_63 hf
def fX11_stepOf_s52 (n : Nat)   (v1 : Int64) (v3 : Int64) (st : St) : Option (Int64 × St) := some (v1 + v3, st)
set_option maxHeartbeats 4000000 in
set_option maxRecDepth 100000 in
theorem wX11_stepOf_s52 (C : Cx p s m args meth c cX11_stepOf 5 wsL_law RX11 (some .long) D G ad) (n : Nat)   (v1 : Int64) (v3 : Int64)   (st : St) (res : (Int64 × St))  (hf : fX11_stepOf_s52 n   v1 v3 st = some res) : At p l e (rmK 0) s m args below meth c D G ad (MQJ D G ad below args s res) 5 st [(1, .long v1), (3, .long v3)] 52 [] := by
  obtain ⟨hx, hb, hml, hown, hts, hr, hlk, hK, had, hSt⟩ := id C
  intro H locs ls hl hP hS
  unfold fX11_stepOf_s52 at hf
  refine lv_lload_n hx hb dX11_stepOf_52 rfl (lv_at hl 0 rfl) ?_
  refine lv_lload_n hx hb dX11_stepOf_53 rfl (lv_at hl 1 rfl) ?_
  refine lv_ladd hx hb dX11_stepOf_54 ?_
  exact g_lret hx hb hr hlk hP hS dX11_stepOf_55 hf
def fX11_stepOf_s56 (n : Nat)   (v1 : Int64) (v3 : Int64) (st : St) : Option (Int64 × St) := some (v1 - v3, st)
set_option maxHeartbeats 4000000 in
set_option maxRecDepth 100000 in
theorem wX11_stepOf_s56 (C : Cx p s m args meth c cX11_stepOf 5 wsL_law RX11 (some .long) D G ad) (n : Nat)   (v1 : Int64) (v3 : Int64)   (st : St) (res : (Int64 × St))  (hf : fX11_stepOf_s56 n   v1 v3 st = some res) : At p l e (rmK 0) s m args below meth c D G ad (MQJ D G ad below args s res) 5 st [(1, .long v1), (3, .long v3)] 56 [] := by
  obtain ⟨hx, hb, hml, hown, hts, hr, hlk, hK, had, hSt⟩ := id C
  intro H locs ls hl hP hS
  unfold fX11_stepOf_s56 at hf
  refine lv_lload_n hx hb dX11_stepOf_56 rfl (lv_at hl 0 rfl) ?_
  refine lv_lload_n hx hb dX11_stepOf_57 rfl (lv_at hl 1 rfl) ?_
  refine lv_lsub hx hb dX11_stepOf_58 ?_
  exact g_lret hx hb hr hlk hP hS dX11_stepOf_59 hf
def fX11_stepOf_s77 (n : Nat)   (k0 : Int64) (st : St) : Option (Int64 × St) := some (k0, st)
set_option maxHeartbeats 4000000 in
set_option maxRecDepth 100000 in
theorem wX11_stepOf_s77 (C : Cx p s m args meth c cX11_stepOf 5 wsL_law RX11 (some .long) D G ad) (n : Nat)   (k0 : Int64)   (st : St) (res : (Int64 × St))  (hf : fX11_stepOf_s77 n   k0 st = some res) : At p l e (rmK 0) s m args below meth c D G ad (MQJ D G ad below args s res) 5 st [] 77 [.long k0] := by
  obtain ⟨hx, hb, hml, hown, hts, hr, hlk, hK, had, hSt⟩ := id C
  intro H locs ls hl hP hS
  unfold fX11_stepOf_s77 at hf
  exact g_lret hx hb hr hlk hP hS dX11_stepOf_77 hf
def fX11_stepOf_s74 (n : Nat)   (v1 : Int64) (v3 : Int64) (st : St) : Option (Int64 × St) := if v3 = 0 then none else (fX11_stepOf_s77 n (v1 / v3) st)
set_option maxHeartbeats 4000000 in
set_option maxRecDepth 100000 in
theorem wX11_stepOf_s74 (C : Cx p s m args meth c cX11_stepOf 5 wsL_law RX11 (some .long) D G ad) (n : Nat)   (v1 : Int64) (v3 : Int64)   (st : St) (res : (Int64 × St))  (hf : fX11_stepOf_s74 n   v1 v3 st = some res) : At p l e (rmK 0) s m args below meth c D G ad (MQJ D G ad below args s res) 5 st [(1, .long v1), (3, .long v3)] 74 [] := by
  obtain ⟨hx, hb, hml, hown, hts, hr, hlk, hK, had, hSt⟩ := id C
  intro H locs ls hl hP hS
  unfold fX11_stepOf_s74 at hf
  refine lv_lload_n hx hb dX11_stepOf_74 rfl (lv_at hl 0 rfl) ?_
  refine lv_lload_n hx hb dX11_stepOf_75 rfl (lv_at hl 1 rfl) ?_
  obtain ⟨g1, hf⟩ := gn hf
  refine lv_ldiv hx hb dX11_stepOf_76 g1 ?_
  exact wX11_stepOf_s77 C n (v1 / v3) st res hf H locs ls (lv_sub hl [] rfl) hP hS
def fX11_stepOf_s70 (n : Nat)    (st : St) : Option (Int64 × St) := fX11_stepOf_s77 n 0 st
set_option maxHeartbeats 4000000 in
set_option maxRecDepth 100000 in
theorem wX11_stepOf_s70 (C : Cx p s m args meth c cX11_stepOf 5 wsL_law RX11 (some .long) D G ad) (n : Nat)      (st : St) (res : (Int64 × St))  (hf : fX11_stepOf_s70 n    st = some res) : At p l e (rmK 0) s m args below meth c D G ad (MQJ D G ad below args s res) 5 st [] 70 [] := by
  obtain ⟨hx, hb, hml, hown, hts, hr, hlk, hK, had, hSt⟩ := id C
  intro H locs ls hl hP hS
  unfold fX11_stepOf_s70 at hf
  refine lv_lconst (v := 0) hx hb dX11_stepOf_70 (by decide) ?_
  refine lv_goto (tgt := 77) hx hb dX11_stepOf_71 (by decide) ?_
  exact wX11_stepOf_s77 C n 0 st res hf H locs ls (lv_sub hl [] rfl) hP hS
def fX11_stepOf_s64 (n : Nat)   (v1 : Int64) (v3 : Int64) (st : St) : Option (Int64 × St) := if v3 = 0 then fX11_stepOf_s70 n st else fX11_stepOf_s74 n v1 v3 st
set_option maxHeartbeats 4000000 in
set_option maxRecDepth 100000 in
theorem wX11_stepOf_s64 (C : Cx p s m args meth c cX11_stepOf 5 wsL_law RX11 (some .long) D G ad) (n : Nat)   (v1 : Int64) (v3 : Int64)   (st : St) (res : (Int64 × St))  (hf : fX11_stepOf_s64 n   v1 v3 st = some res) : At p l e (rmK 0) s m args below meth c D G ad (MQJ D G ad below args s res) 5 st [(1, .long v1), (3, .long v3)] 64 [] := by
  obtain ⟨hx, hb, hml, hown, hts, hr, hlk, hK, had, hSt⟩ := id C
  intro H locs ls hl hP hS
  unfold fX11_stepOf_s64 at hf
  refine lv_lload_n hx hb dX11_stepOf_64 rfl (lv_at hl 1 rfl) ?_
  refine lv_lconst (v := 0) hx hb dX11_stepOf_65 (by decide) ?_
  refine g_lcmp_ne (tgt := 74) hx hb dX11_stepOf_66 dX11_stepOf_67 (by decide) (fun q => ?_) (fun q => ?_)
  · exact wX11_stepOf_s74 C n v1 v3 st res (ie hf q) H locs ls (lv_sub hl [0, 1] rfl) hP hS
  · exact wX11_stepOf_s70 C n st res (it hf q) H locs ls (lv_sub hl [] rfl) hP hS
def fX11_stepOf_s89 (n : Nat)   (k0 : Int64) (st : St) : Option (Int64 × St) := some (k0, st)
set_option maxHeartbeats 4000000 in
set_option maxRecDepth 100000 in
theorem wX11_stepOf_s89 (C : Cx p s m args meth c cX11_stepOf 5 wsL_law RX11 (some .long) D G ad) (n : Nat)   (k0 : Int64)   (st : St) (res : (Int64 × St))  (hf : fX11_stepOf_s89 n   k0 st = some res) : At p l e (rmK 0) s m args below meth c D G ad (MQJ D G ad below args s res) 5 st [] 89 [.long k0] := by
  obtain ⟨hx, hb, hml, hown, hts, hr, hlk, hK, had, hSt⟩ := id C
  intro H locs ls hl hP hS
  unfold fX11_stepOf_s89 at hf
  exact g_lret hx hb hr hlk hP hS dX11_stepOf_89 hf
def fX11_stepOf_s88 (n : Nat)   (v3 : Int64) (st : St) : Option (Int64 × St) := fX11_stepOf_s89 n v3 st
set_option maxHeartbeats 4000000 in
set_option maxRecDepth 100000 in
theorem wX11_stepOf_s88 (C : Cx p s m args meth c cX11_stepOf 5 wsL_law RX11 (some .long) D G ad) (n : Nat)   (v3 : Int64)   (st : St) (res : (Int64 × St))  (hf : fX11_stepOf_s88 n   v3 st = some res) : At p l e (rmK 0) s m args below meth c D G ad (MQJ D G ad below args s res) 5 st [(3, .long v3)] 88 [] := by
  obtain ⟨hx, hb, hml, hown, hts, hr, hlk, hK, had, hSt⟩ := id C
  intro H locs ls hl hP hS
  unfold fX11_stepOf_s88 at hf
  refine lv_lload_n hx hb dX11_stepOf_88 rfl (lv_at hl 0 rfl) ?_
  exact wX11_stepOf_s89 C n v3 st res hf H locs ls (lv_sub hl [] rfl) hP hS
def fX11_stepOf_s84 (n : Nat)   (v1 : Int64) (st : St) : Option (Int64 × St) := fX11_stepOf_s89 n v1 st
set_option maxHeartbeats 4000000 in
set_option maxRecDepth 100000 in
theorem wX11_stepOf_s84 (C : Cx p s m args meth c cX11_stepOf 5 wsL_law RX11 (some .long) D G ad) (n : Nat)   (v1 : Int64)   (st : St) (res : (Int64 × St))  (hf : fX11_stepOf_s84 n   v1 st = some res) : At p l e (rmK 0) s m args below meth c D G ad (MQJ D G ad below args s res) 5 st [(1, .long v1)] 84 [] := by
  obtain ⟨hx, hb, hml, hown, hts, hr, hlk, hK, had, hSt⟩ := id C
  intro H locs ls hl hP hS
  unfold fX11_stepOf_s84 at hf
  refine lv_lload_n hx hb dX11_stepOf_84 rfl (lv_at hl 0 rfl) ?_
  refine lv_goto (tgt := 89) hx hb dX11_stepOf_85 (by decide) ?_
  exact wX11_stepOf_s89 C n v1 st res hf H locs ls (lv_sub hl [] rfl) hP hS
def fX11_stepOf_s78 (n : Nat)   (v1 : Int64) (v3 : Int64) (st : St) : Option (Int64 × St) := if v3 ≤ v1 then fX11_stepOf_s88 n v3 st else fX11_stepOf_s84 n v1 st
set_option maxHeartbeats 4000000 in
set_option maxRecDepth 100000 in
theorem wX11_stepOf_s78 (C : Cx p s m args meth c cX11_stepOf 5 wsL_law RX11 (some .long) D G ad) (n : Nat)   (v1 : Int64) (v3 : Int64)   (st : St) (res : (Int64 × St))  (hf : fX11_stepOf_s78 n   v1 v3 st = some res) : At p l e (rmK 0) s m args below meth c D G ad (MQJ D G ad below args s res) 5 st [(1, .long v1), (3, .long v3)] 78 [] := by
  obtain ⟨hx, hb, hml, hown, hts, hr, hlk, hK, had, hSt⟩ := id C
  intro H locs ls hl hP hS
  unfold fX11_stepOf_s78 at hf
  refine lv_lload_n hx hb dX11_stepOf_78 rfl (lv_at hl 0 rfl) ?_
  refine lv_lload_n hx hb dX11_stepOf_79 rfl (lv_at hl 1 rfl) ?_
  refine g_lcmp_ge (tgt := 88) hx hb dX11_stepOf_80 dX11_stepOf_81 (by decide) (fun q => ?_) (fun q => ?_)
  · exact wX11_stepOf_s88 C n v3 st res (it hf q) H locs ls (lv_sub hl [1] rfl) hP hS
  · exact wX11_stepOf_s84 C n v1 st res (ie hf q) H locs ls (lv_sub hl [0] rfl) hP hS
def fX11_stepOf_s101 (n : Nat)   (k0 : Int64) (st : St) : Option (Int64 × St) := some (k0, st)
set_option maxHeartbeats 4000000 in
set_option maxRecDepth 100000 in
theorem wX11_stepOf_s101 (C : Cx p s m args meth c cX11_stepOf 5 wsL_law RX11 (some .long) D G ad) (n : Nat)   (k0 : Int64)   (st : St) (res : (Int64 × St))  (hf : fX11_stepOf_s101 n   k0 st = some res) : At p l e (rmK 0) s m args below meth c D G ad (MQJ D G ad below args s res) 5 st [] 101 [.long k0] := by
  obtain ⟨hx, hb, hml, hown, hts, hr, hlk, hK, had, hSt⟩ := id C
  intro H locs ls hl hP hS
  unfold fX11_stepOf_s101 at hf
  exact g_lret hx hb hr hlk hP hS dX11_stepOf_101 hf
def fX11_stepOf_s100 (n : Nat)   (v3 : Int64) (st : St) : Option (Int64 × St) := fX11_stepOf_s101 n v3 st
set_option maxHeartbeats 4000000 in
set_option maxRecDepth 100000 in
theorem wX11_stepOf_s100 (C : Cx p s m args meth c cX11_stepOf 5 wsL_law RX11 (some .long) D G ad) (n : Nat)   (v3 : Int64)   (st : St) (res : (Int64 × St))  (hf : fX11_stepOf_s100 n   v3 st = some res) : At p l e (rmK 0) s m args below meth c D G ad (MQJ D G ad below args s res) 5 st [(3, .long v3)] 100 [] := by
  obtain ⟨hx, hb, hml, hown, hts, hr, hlk, hK, had, hSt⟩ := id C
  intro H locs ls hl hP hS
  unfold fX11_stepOf_s100 at hf
  refine lv_lload_n hx hb dX11_stepOf_100 rfl (lv_at hl 0 rfl) ?_
  exact wX11_stepOf_s101 C n v3 st res hf H locs ls (lv_sub hl [] rfl) hP hS
def fX11_stepOf_s96 (n : Nat)   (v1 : Int64) (st : St) : Option (Int64 × St) := fX11_stepOf_s101 n v1 st
set_option maxHeartbeats 4000000 in
set_option maxRecDepth 100000 in
theorem wX11_stepOf_s96 (C : Cx p s m args meth c cX11_stepOf 5 wsL_law RX11 (some .long) D G ad) (n : Nat)   (v1 : Int64)   (st : St) (res : (Int64 × St))  (hf : fX11_stepOf_s96 n   v1 st = some res) : At p l e (rmK 0) s m args below meth c D G ad (MQJ D G ad below args s res) 5 st [(1, .long v1)] 96 [] := by
  obtain ⟨hx, hb, hml, hown, hts, hr, hlk, hK, had, hSt⟩ := id C
  intro H locs ls hl hP hS
  unfold fX11_stepOf_s96 at hf
  refine lv_lload_n hx hb dX11_stepOf_96 rfl (lv_at hl 0 rfl) ?_
  refine lv_goto (tgt := 101) hx hb dX11_stepOf_97 (by decide) ?_
  exact wX11_stepOf_s101 C n v1 st res hf H locs ls (lv_sub hl [] rfl) hP hS
def fX11_stepOf_s90 (n : Nat)   (v1 : Int64) (v3 : Int64) (st : St) : Option (Int64 × St) := if v1 ≤ v3 then fX11_stepOf_s100 n v3 st else fX11_stepOf_s96 n v1 st
set_option maxHeartbeats 4000000 in
set_option maxRecDepth 100000 in
theorem wX11_stepOf_s90 (C : Cx p s m args meth c cX11_stepOf 5 wsL_law RX11 (some .long) D G ad) (n : Nat)   (v1 : Int64) (v3 : Int64)   (st : St) (res : (Int64 × St))  (hf : fX11_stepOf_s90 n   v1 v3 st = some res) : At p l e (rmK 0) s m args below meth c D G ad (MQJ D G ad below args s res) 5 st [(1, .long v1), (3, .long v3)] 90 [] := by
  obtain ⟨hx, hb, hml, hown, hts, hr, hlk, hK, had, hSt⟩ := id C
  intro H locs ls hl hP hS
  unfold fX11_stepOf_s90 at hf
  refine lv_lload_n hx hb dX11_stepOf_90 rfl (lv_at hl 0 rfl) ?_
  refine lv_lload_n hx hb dX11_stepOf_91 rfl (lv_at hl 1 rfl) ?_
  refine g_lcmp_le (tgt := 100) hx hb dX11_stepOf_92 dX11_stepOf_93 (by decide) (fun q => ?_) (fun q => ?_)
  · exact wX11_stepOf_s100 C n v3 st res (it hf q) H locs ls (lv_sub hl [1] rfl) hP hS
  · exact wX11_stepOf_s96 C n v1 st res (ie hf q) H locs ls (lv_sub hl [0] rfl) hP hS
def fX11_stepOf_s0 (n : Nat)   (v0 : Int32) (v1 : Int64) (v3 : Int64) (st : St) : Option (Int64 × St) := if v0 = 42 then fX11_stepOf_s60 n v1 v3 st else if v0 = 43 then fX11_stepOf_s52 n v1 v3 st else if v0 = 45 then fX11_stepOf_s56 n v1 v3 st else if v0 = 47 then fX11_stepOf_s64 n v1 v3 st else if v0 = 77 then fX11_stepOf_s78 n v1 v3 st else fX11_stepOf_s90 n v1 v3 st
set_option maxHeartbeats 4000000 in
set_option maxRecDepth 100000 in
theorem wX11_stepOf_s0 (C : Cx p s m args meth c cX11_stepOf 5 wsL_law RX11 (some .long) D G ad) (n : Nat)   (v0 : Int32) (v1 : Int64) (v3 : Int64)   (st : St) (res : (Int64 × St))  (hf : fX11_stepOf_s0 n   v0 v1 v3 st = some res) : At p l e (rmK 0) s m args below meth c D G ad (MQJ D G ad below args s res) 5 st [(0, .int v0), (1, .long v1), (3, .long v3)] 0 [] := by
  obtain ⟨hx, hb, hml, hown, hts, hr, hlk, hK, had, hSt⟩ := id C
  intro H locs ls hl hP hS
  unfold fX11_stepOf_s0 at hf
  refine lv_iload_n hx hb dX11_stepOf_0 rfl (lv_at hl 0 rfl) ?_
  by_cases q : v0 = 42
  · rw [q]
    refine lv_lookup (tgt := 60) hx hb dX11_stepOf_1 (by decide) (off := 59) (by decide) (by decide) ?_
    exact wX11_stepOf_s60 C n v1 v3 st res (it hf q) H locs ls (lv_sub hl [1, 2] rfl) hP hS
  replace hf := ie hf q
  have q0 := q
  clear q
  by_cases q : v0 = 43
  · rw [q]
    refine lv_lookup (tgt := 52) hx hb dX11_stepOf_1 (by decide) (off := 51) (by decide) (by decide) ?_
    exact wX11_stepOf_s52 C n v1 v3 st res (it hf q) H locs ls (lv_sub hl [1, 2] rfl) hP hS
  replace hf := ie hf q
  have q1 := q
  clear q
  by_cases q : v0 = 45
  · rw [q]
    refine lv_lookup (tgt := 56) hx hb dX11_stepOf_1 (by decide) (off := 55) (by decide) (by decide) ?_
    exact wX11_stepOf_s56 C n v1 v3 st res (it hf q) H locs ls (lv_sub hl [1, 2] rfl) hP hS
  replace hf := ie hf q
  have q2 := q
  clear q
  by_cases q : v0 = 47
  · rw [q]
    refine lv_lookup (tgt := 64) hx hb dX11_stepOf_1 (by decide) (off := 63) (by decide) (by decide) ?_
    exact wX11_stepOf_s64 C n v1 v3 st res (it hf q) H locs ls (lv_sub hl [1, 2] rfl) hP hS
  replace hf := ie hf q
  have q3 := q
  clear q
  by_cases q : v0 = 77
  · rw [q]
    refine lv_lookup (tgt := 78) hx hb dX11_stepOf_1 (by decide) (off := 77) (by decide) (by decide) ?_
    exact wX11_stepOf_s78 C n v1 v3 st res (it hf q) H locs ls (lv_sub hl [1, 2] rfl) hP hS
  replace hf := ie hf q
  have q4 := q
  clear q
  have z0 : ¬ (42 : Int) = v0.toInt := fun w => q0 (Int32.toInt_inj.mp (w.symm.trans (by decide)))
  have z1 : ¬ (43 : Int) = v0.toInt := fun w => q1 (Int32.toInt_inj.mp (w.symm.trans (by decide)))
  have z2 : ¬ (45 : Int) = v0.toInt := fun w => q2 (Int32.toInt_inj.mp (w.symm.trans (by decide)))
  have z3 : ¬ (47 : Int) = v0.toInt := fun w => q3 (Int32.toInt_inj.mp (w.symm.trans (by decide)))
  have z4 : ¬ (77 : Int) = v0.toInt := fun w => q4 (Int32.toInt_inj.mp (w.symm.trans (by decide)))
  refine lv_lookup (tgt := 90) hx hb dX11_stepOf_1 (by decide) (off := 89) (by simp [Op.lookupswitch.offset, z0, z1, z2, z3, z4]) (by decide) ?_
  exact wX11_stepOf_s90 C n v1 v3 st res hf H locs ls (lv_sub hl [1, 2] rfl) hP hS
def fX11_stepOf (n : Nat)  (a0 : Int32) (a1 : Int64) (a3 : Int64) (st : St) : Option (Int64 × St) := fX11_stepOf_s0 n a0 a1 a3 st
theorem okX11_stepOf : okY yX11_stepOf RX11 3 := by unfold okY; decide +kernel
end
set_option maxRecDepth 100000 in
theorem kX11_stepOf (l : Launch) (D : va_G) (G : G3) (ad : Nat → Nat) (had : Adr ad) (n : Nat)   (a0 : Int32) (a1 : Int64) (a3 : Int64) (st : St) (res : (Int64 × St)) (hf : fX11_stepOf n  a0 a1 a3 st = some res) {sz : Nat} : CtJ l yX11_stepOf (wsU yX11_stepOf cX11_stepOf 5 (some .long)) (rmK 0) D G ad sz [.int a0, .long a1, .long a3] st res := by
  refine Met.ofW (cc := cX11_stepOf) (maxL := 5) (ret := (some .long)) (by decide) rfl ?_
  intro p e s m args below meth c s₁ B hml hv
  obtain ⟨rfl, hsz, hP, hK, hSt⟩ := hv
  have hts := atoms_spec (ws := wsU yX11_stepOf cX11_stepOf 5 (some .long)) B.pre
  have C : Cx p s m _ meth c cX11_stepOf 5 wsL_law RX11 (some .long) D G ad := ⟨B.exec, B.bytes, hml, findClass_of_methodNamed B.named, fun w h => hts w (List.mem_cons_of_mem _ h), B.returns, B.notSynchronized, hK, had, hSt⟩
  subst hsz
  have hl := lv_entry ([.int a0, .long a1, .long a3]) (n := 5) (Nat.le_of_ble_eq_true rfl)
  rw [lg_entry_eq]
  generalize (lg_sl ([.int a0, .long a1, .long a3]) ++ List.replicate (5 - (lg_sl ([.int a0, .long a1, .long a3])).length) Slot.unset).toArray = ls at hl ⊢
  exact wX11_stepOf_s0 C n  a0 a1 a3   st res hf s.heap [] ls (lv_sub hl [0, 1, 2] rfl) hP va_S.rf
section
variable {p : Program} {l : Launch} {e : Env} {s : State} {m : MethodId} {args : Array Value} {below : List Frame} {meth : Method} {c : Code} {D : va_G} {G : G3} {ad : Nat → Nat}
def fX11_worthOf_s127 (n : Nat)    (st : St) : Option (Int64 × St) := if inb 0 130 = true then (some (st.2 158 (0 : Int32).toNatClampNeg, st)) else none
set_option maxHeartbeats 4000000 in
set_option maxRecDepth 100000 in
theorem wX11_worthOf_s127 (C : Cx p s m args meth c cX11_worthOf 7 wsL_law RX11 (some .long) D G ad) (n : Nat)      (st : St) (res : (Int64 × St))  (hf : fX11_worthOf_s127 n    st = some res) : At p l e (rmK 3) s m args below meth c D G ad (MQJ D G ad below args s res) 7 st [(0, .ref (ad 130))] 127 [] := by
  obtain ⟨hx, hb, hml, hown, hts, hr, hlk, hK, had, hSt⟩ := id C
  intro H locs ls hl hP hS
  unfold fX11_worthOf_s127 at hf
  refine lv_aload_n hx hb dX11_worthOf_127 rfl (lv_at hl 0 rfl) ?_
  refine g_getR hx hb hts inlX11 hown hK hP 130 ct_130 rfl 39 (by decide) (hts _ wm_8_5) rfl dX11_worthOf_128 ?_
  refine lv_iconst (v := 0) hx hb dX11_worthOf_131 (by decide) ?_
  obtain ⟨g1, hf⟩ := gd hf
  refine g_lald hx hb hK hP 158 ct_158 g1 dX11_worthOf_132 ?_
  exact g_lret hx hb hr hlk hP hS dX11_worthOf_133 hf
def fX11_worthOf_s121 (n : Nat) (K6 : Int32 → Int32 → Int32 → Int32 → Int32 → St → Option (Int64 × St))  (v1 : Int32) (v2 : Int32) (v3 : Int32) (v4 : Int32) (v5 : Int32) (st : St) : Option (Int64 × St) := K6 v1 v2 v3 v4 (v5 + 1) st
set_option maxHeartbeats 4000000 in
set_option maxRecDepth 100000 in
theorem wX11_worthOf_s121 (C : Cx p s m args meth c cX11_worthOf 7 wsL_law RX11 (some .long) D G ad) (n : Nat) (K6 : Int32 → Int32 → Int32 → Int32 → Int32 → St → Option (Int64 × St))  (v1 : Int32) (v2 : Int32) (v3 : Int32) (v4 : Int32) (v5 : Int32)   (st : St) (res : (Int64 × St)) (hK6 : ∀ (v1 : Int32) (v2 : Int32) (v3 : Int32) (v4 : Int32) (v5 : Int32) (st : St), K6 v1 v2 v3 v4 v5 st = some res → At p l e (rmK 3) s m args below meth c D G ad (MQJ D G ad below args s res) 7 st [(0, .ref (ad 130)), (1, .int v1), (2, .int v2), (3, .int v3), (4, .int v4), (5, .int v5)] 6 []) (hf : fX11_worthOf_s121 n K6  v1 v2 v3 v4 v5 st = some res) : At p l e (rmK 3) s m args below meth c D G ad (MQJ D G ad below args s res) 7 st [(0, .ref (ad 130)), (1, .int v1), (2, .int v2), (3, .int v3), (4, .int v4), (5, .int v5)] 121 [] := by
  obtain ⟨hx, hb, hml, hown, hts, hr, hlk, hK, had, hSt⟩ := id C
  intro H locs ls hl hP hS
  unfold fX11_worthOf_s121 at hf
  refine lv_iinc (v := v5 + 1) (lv' := [(5, .int (v5 + 1)), (0, .ref (ad 130)), (1, .int v1), (2, .int v2), (3, .int v3), (4, .int v4)]) hx hb dX11_worthOf_121 hl (k := 5) rfl rfl (by decide) rfl (fun ls hl => ?_)
  refine lv_goto (tgt := 6) hx hb dX11_worthOf_124 (by decide) ?_
  exact hK6 v1 v2 v3 v4 (v5 + 1)  st hf H locs ls (lv_sub hl [1, 2, 3, 4, 5, 0] rfl) hP hS
def fX11_worthOf_s120 (n : Nat) (K6 : Int32 → Int32 → Int32 → Int32 → Int32 → St → Option (Int64 × St))  (v1 : Int32) (v2 : Int32) (v3 : Int32) (v4 : Int32) (v5 : Int32) (k1 : Int32) (k2 : Int64) (st : St) : Option (Int64 × St) := if inb k1 130 = true then (fX11_worthOf_s121 n K6 v1 v2 v3 v4 v5 (setJ st 158 k1.toNatClampNeg k2)) else none
set_option maxHeartbeats 4000000 in
set_option maxRecDepth 100000 in
theorem wX11_worthOf_s120 (C : Cx p s m args meth c cX11_worthOf 7 wsL_law RX11 (some .long) D G ad) (n : Nat) (K6 : Int32 → Int32 → Int32 → Int32 → Int32 → St → Option (Int64 × St))  (v1 : Int32) (v2 : Int32) (v3 : Int32) (v4 : Int32) (v5 : Int32) (k1 : Int32) (k2 : Int64)   (st : St) (res : (Int64 × St)) (hK6 : ∀ (v1 : Int32) (v2 : Int32) (v3 : Int32) (v4 : Int32) (v5 : Int32) (st : St), K6 v1 v2 v3 v4 v5 st = some res → At p l e (rmK 3) s m args below meth c D G ad (MQJ D G ad below args s res) 7 st [(0, .ref (ad 130)), (1, .int v1), (2, .int v2), (3, .int v3), (4, .int v4), (5, .int v5)] 6 []) (hf : fX11_worthOf_s120 n K6  v1 v2 v3 v4 v5 k1 k2 st = some res) : At p l e (rmK 3) s m args below meth c D G ad (MQJ D G ad below args s res) 7 st [(0, .ref (ad 130)), (1, .int v1), (2, .int v2), (3, .int v3), (4, .int v4), (5, .int v5)] 120 [.long k2, .int k1, .ref (ad 158)] := by
  obtain ⟨hx, hb, hml, hown, hts, hr, hlk, hK, had, hSt⟩ := id C
  intro H locs ls hl hP hS
  unfold fX11_worthOf_s120 at hf
  obtain ⟨g1, hf⟩ := gd hf
  refine g_last hx hb hK had hP hS 158 ct_158 g1 dX11_worthOf_120 (fun H locs hP hS => ?_)
  exact wX11_worthOf_s121 C n K6 v1 v2 v3 v4 v5 (setJ st 158 k1.toNatClampNeg k2) res hK6 hf H locs ls (lv_sub hl [0, 1, 2, 3, 4, 5] rfl) hP hS
def fX11_worthOf_s117 (n : Nat) (K6 : Int32 → Int32 → Int32 → Int32 → Int32 → St → Option (Int64 × St))  (v1 : Int32) (v2 : Int32) (v3 : Int32) (v4 : Int32) (v5 : Int32) (k1 : Int32) (k2 : Int64) (st : St) : Option (Int64 × St) := (fX11_kept0 n k2 st).bind (fun q => fX11_worthOf_s120 n K6 v1 v2 v3 v4 v5 k1 q.1 q.2)
set_option maxHeartbeats 4000000 in
set_option maxRecDepth 100000 in
theorem wX11_worthOf_s117 (C : Cx p s m args meth c cX11_worthOf 7 wsL_law RX11 (some .long) D G ad) (n : Nat) (K6 : Int32 → Int32 → Int32 → Int32 → Int32 → St → Option (Int64 × St))  (v1 : Int32) (v2 : Int32) (v3 : Int32) (v4 : Int32) (v5 : Int32) (k1 : Int32) (k2 : Int64)   (st : St) (res : (Int64 × St)) (hK6 : ∀ (v1 : Int32) (v2 : Int32) (v3 : Int32) (v4 : Int32) (v5 : Int32) (st : St), K6 v1 v2 v3 v4 v5 st = some res → At p l e (rmK 3) s m args below meth c D G ad (MQJ D G ad below args s res) 7 st [(0, .ref (ad 130)), (1, .int v1), (2, .int v2), (3, .int v3), (4, .int v4), (5, .int v5)] 6 []) (hf : fX11_worthOf_s117 n K6  v1 v2 v3 v4 v5 k1 k2 st = some res) : At p l e (rmK 3) s m args below meth c D G ad (MQJ D G ad below args s res) 7 st [(0, .ref (ad 130)), (1, .int v1), (2, .int v2), (3, .int v3), (4, .int v4), (5, .int v5)] 117 [.long k2, .int k1, .ref (ad 158)] := by
  obtain ⟨hx, hb, hml, hown, hts, hr, hlk, hK, had, hSt⟩ := id C
  intro H locs ls hl hP hS
  unfold fX11_worthOf_s117 at hf
  obtain ⟨q, hq, hf⟩ := bd hf
  refine gcS_j (k := 0) (As := [.long k2]) (rest := [.int k1, .ref (ad 158)]) hx hb hml hown hts hK hSt hP hS hl.1 (goodS wm_23_23 wm_24_0 wm_1_5 wm_24_1) okX11_kept0 (Nat.le_of_ble_eq_true rfl) (Nat.le_of_ble_eq_true rfl) rfl rfl (Nat.le_of_ble_eq_true rfl) dX11_worthOf_117 (kX11_kept0 l D G ad had n  k2 st q hq) (fun H locs hP hS => ?_)
  exact wX11_worthOf_s120 C n K6 v1 v2 v3 v4 v5 k1 q.1 q.2 res hK6 hf H locs ls (lv_sub hl [0, 1, 2, 3, 4, 5] rfl) hP hS
def fX11_worthOf_s81 (n : Nat) (K6 : Int32 → Int32 → Int32 → Int32 → Int32 → St → Option (Int64 × St))  (v1 : Int32) (v2 : Int32) (v3 : Int32) (v4 : Int32) (v5 : Int32) (v6 : Int32) (st : St) : Option (Int64 × St) := if inb ((v4 + (-1)) - 1) 130 = true then (if inb (v4 + (-1)) 130 = true then ((fX11_stepOf n (v6 - 20000) (st.2 158 ((v4 + (-1)) - 1).toNatClampNeg) (st.2 158 (v4 + (-1)).toNatClampNeg) st).bind (fun q => fX11_worthOf_s117 n K6 v1 v2 v3 (v4 + (-1)) v5 ((v4 + (-1)) - 1) q.1 q.2)) else none) else none
set_option maxHeartbeats 4000000 in
set_option maxRecDepth 100000 in
theorem wX11_worthOf_s81 (C : Cx p s m args meth c cX11_worthOf 7 wsL_law RX11 (some .long) D G ad) (n : Nat) (K6 : Int32 → Int32 → Int32 → Int32 → Int32 → St → Option (Int64 × St))  (v1 : Int32) (v2 : Int32) (v3 : Int32) (v4 : Int32) (v5 : Int32) (v6 : Int32)   (st : St) (res : (Int64 × St)) (hK6 : ∀ (v1 : Int32) (v2 : Int32) (v3 : Int32) (v4 : Int32) (v5 : Int32) (st : St), K6 v1 v2 v3 v4 v5 st = some res → At p l e (rmK 3) s m args below meth c D G ad (MQJ D G ad below args s res) 7 st [(0, .ref (ad 130)), (1, .int v1), (2, .int v2), (3, .int v3), (4, .int v4), (5, .int v5)] 6 []) (hf : fX11_worthOf_s81 n K6  v1 v2 v3 v4 v5 v6 st = some res) : At p l e (rmK 3) s m args below meth c D G ad (MQJ D G ad below args s res) 7 st [(0, .ref (ad 130)), (1, .int v1), (2, .int v2), (3, .int v3), (4, .int v4), (5, .int v5), (6, .int v6)] 81 [] := by
  obtain ⟨hx, hb, hml, hown, hts, hr, hlk, hK, had, hSt⟩ := id C
  intro H locs ls hl hP hS
  unfold fX11_worthOf_s81 at hf
  refine lv_iinc (v := v4 + (-1)) (lv' := [(4, .int (v4 + (-1))), (0, .ref (ad 130)), (1, .int v1), (2, .int v2), (3, .int v3), (5, .int v5), (6, .int v6)]) hx hb dX11_worthOf_81 hl (k := 4) rfl rfl (by decide) rfl (fun ls hl => ?_)
  refine lv_aload_n hx hb dX11_worthOf_84 rfl (lv_at hl 1 rfl) ?_
  refine g_getR hx hb hts inlX11 hown hK hP 130 ct_130 rfl 39 (by decide) (hts _ wm_8_5) rfl dX11_worthOf_85 ?_
  refine lv_iload hx hb dX11_worthOf_88 (lv_at hl 0 rfl) ?_
  refine lv_iconst (v := 1) hx hb dX11_worthOf_90 (by decide) ?_
  refine lv_isub hx hb dX11_worthOf_91 ?_
  refine lv_iload hx hb dX11_worthOf_92 (lv_at hl 6 rfl) ?_
  refine lv_sipush (v := 20000) hx hb dX11_worthOf_94 (by decide) ?_
  refine lv_isub hx hb dX11_worthOf_97 ?_
  refine lv_aload_n hx hb dX11_worthOf_98 rfl (lv_at hl 1 rfl) ?_
  refine g_getR hx hb hts inlX11 hown hK hP 130 ct_130 rfl 39 (by decide) (hts _ wm_8_5) rfl dX11_worthOf_99 ?_
  refine lv_iload hx hb dX11_worthOf_102 (lv_at hl 0 rfl) ?_
  refine lv_iconst (v := 1) hx hb dX11_worthOf_104 (by decide) ?_
  refine lv_isub hx hb dX11_worthOf_105 ?_
  obtain ⟨g1, hf⟩ := gd hf
  refine g_lald hx hb hK hP 158 ct_158 g1 dX11_worthOf_106 ?_
  refine lv_aload_n hx hb dX11_worthOf_107 rfl (lv_at hl 1 rfl) ?_
  refine g_getR hx hb hts inlX11 hown hK hP 130 ct_130 rfl 39 (by decide) (hts _ wm_8_5) rfl dX11_worthOf_108 ?_
  refine lv_iload hx hb dX11_worthOf_111 (lv_at hl 0 rfl) ?_
  obtain ⟨g2, hf⟩ := gd hf
  refine g_lald hx hb hK hP 158 ct_158 g2 dX11_worthOf_113 ?_
  obtain ⟨q, hq, hf⟩ := bd hf
  refine gcS_j (k := 0) (As := [.int (v6 - 20000), .long (st.2 158 ((v4 + (-1)) - 1).toNatClampNeg), .long (st.2 158 (v4 + (-1)).toNatClampNeg)]) (rest := [.int ((v4 + (-1)) - 1), .ref (ad 158)]) hx hb hml hown hts hK hSt hP hS hl.1 (goodS wm_24_4 wm_24_5 wm_1_5 wm_24_6) okX11_stepOf (Nat.le_of_ble_eq_true rfl) (Nat.le_of_ble_eq_true rfl) rfl rfl (Nat.le_of_ble_eq_true rfl) dX11_worthOf_114 (kX11_stepOf l D G ad had n  (v6 - 20000) (st.2 158 ((v4 + (-1)) - 1).toNatClampNeg) (st.2 158 (v4 + (-1)).toNatClampNeg) st q hq) (fun H locs hP hS => ?_)
  exact wX11_worthOf_s117 C n K6 v1 v2 v3 (v4 + (-1)) v5 ((v4 + (-1)) - 1) q.1 q.2 res hK6 hf H locs ls (lv_sub hl [1, 2, 3, 4, 0, 5] rfl) hP hS
def fX11_worthOf_s75 (n : Nat) (K6 : Int32 → Int32 → Int32 → Int32 → Int32 → St → Option (Int64 × St))  (v1 : Int32) (v2 : Int32) (v3 : Int32) (v4 : Int32) (v5 : Int32) (st : St) : Option (Int64 × St) := fX11_worthOf_s121 n K6 v1 v2 v3 (v4 + 1) v5 st
set_option maxHeartbeats 4000000 in
set_option maxRecDepth 100000 in
theorem wX11_worthOf_s75 (C : Cx p s m args meth c cX11_worthOf 7 wsL_law RX11 (some .long) D G ad) (n : Nat) (K6 : Int32 → Int32 → Int32 → Int32 → Int32 → St → Option (Int64 × St))  (v1 : Int32) (v2 : Int32) (v3 : Int32) (v4 : Int32) (v5 : Int32)   (st : St) (res : (Int64 × St)) (hK6 : ∀ (v1 : Int32) (v2 : Int32) (v3 : Int32) (v4 : Int32) (v5 : Int32) (st : St), K6 v1 v2 v3 v4 v5 st = some res → At p l e (rmK 3) s m args below meth c D G ad (MQJ D G ad below args s res) 7 st [(0, .ref (ad 130)), (1, .int v1), (2, .int v2), (3, .int v3), (4, .int v4), (5, .int v5)] 6 []) (hf : fX11_worthOf_s75 n K6  v1 v2 v3 v4 v5 st = some res) : At p l e (rmK 3) s m args below meth c D G ad (MQJ D G ad below args s res) 7 st [(0, .ref (ad 130)), (1, .int v1), (2, .int v2), (3, .int v3), (4, .int v4), (5, .int v5)] 75 [] := by
  obtain ⟨hx, hb, hml, hown, hts, hr, hlk, hK, had, hSt⟩ := id C
  intro H locs ls hl hP hS
  unfold fX11_worthOf_s75 at hf
  refine lv_iinc (v := v4 + 1) (lv' := [(4, .int (v4 + 1)), (0, .ref (ad 130)), (1, .int v1), (2, .int v2), (3, .int v3), (5, .int v5)]) hx hb dX11_worthOf_75 hl (k := 4) rfl rfl (by decide) rfl (fun ls hl => ?_)
  refine lv_goto (tgt := 121) hx hb dX11_worthOf_78 (by decide) ?_
  exact wX11_worthOf_s121 C n K6 v1 v2 v3 (v4 + 1) v5 st res hK6 hf H locs ls (lv_sub hl [1, 2, 3, 4, 0, 5] rfl) hP hS
def fX11_worthOf_s74 (n : Nat) (K6 : Int32 → Int32 → Int32 → Int32 → Int32 → St → Option (Int64 × St))  (v1 : Int32) (v2 : Int32) (v3 : Int32) (v4 : Int32) (v5 : Int32) (k1 : Int32) (k2 : Int64) (st : St) : Option (Int64 × St) := if inb k1 130 = true then (fX11_worthOf_s75 n K6 v1 v2 v3 v4 v5 (setJ st 158 k1.toNatClampNeg k2)) else none
set_option maxHeartbeats 4000000 in
set_option maxRecDepth 100000 in
theorem wX11_worthOf_s74 (C : Cx p s m args meth c cX11_worthOf 7 wsL_law RX11 (some .long) D G ad) (n : Nat) (K6 : Int32 → Int32 → Int32 → Int32 → Int32 → St → Option (Int64 × St))  (v1 : Int32) (v2 : Int32) (v3 : Int32) (v4 : Int32) (v5 : Int32) (k1 : Int32) (k2 : Int64)   (st : St) (res : (Int64 × St)) (hK6 : ∀ (v1 : Int32) (v2 : Int32) (v3 : Int32) (v4 : Int32) (v5 : Int32) (st : St), K6 v1 v2 v3 v4 v5 st = some res → At p l e (rmK 3) s m args below meth c D G ad (MQJ D G ad below args s res) 7 st [(0, .ref (ad 130)), (1, .int v1), (2, .int v2), (3, .int v3), (4, .int v4), (5, .int v5)] 6 []) (hf : fX11_worthOf_s74 n K6  v1 v2 v3 v4 v5 k1 k2 st = some res) : At p l e (rmK 3) s m args below meth c D G ad (MQJ D G ad below args s res) 7 st [(0, .ref (ad 130)), (1, .int v1), (2, .int v2), (3, .int v3), (4, .int v4), (5, .int v5)] 74 [.long k2, .int k1, .ref (ad 158)] := by
  obtain ⟨hx, hb, hml, hown, hts, hr, hlk, hK, had, hSt⟩ := id C
  intro H locs ls hl hP hS
  unfold fX11_worthOf_s74 at hf
  obtain ⟨g1, hf⟩ := gd hf
  refine g_last hx hb hK had hP hS 158 ct_158 g1 dX11_worthOf_74 (fun H locs hP hS => ?_)
  exact wX11_worthOf_s75 C n K6 v1 v2 v3 v4 v5 (setJ st 158 k1.toNatClampNeg k2) res hK6 hf H locs ls (lv_sub hl [0, 1, 2, 3, 4, 5] rfl) hP hS
def fX11_worthOf_s71 (n : Nat) (K6 : Int32 → Int32 → Int32 → Int32 → Int32 → St → Option (Int64 × St))  (v1 : Int32) (v2 : Int32) (v3 : Int32) (v4 : Int32) (v5 : Int32) (k1 : Int32) (k2 : Int64) (st : St) : Option (Int64 × St) := (fX11_kept0 n k2 st).bind (fun q => fX11_worthOf_s74 n K6 v1 v2 v3 v4 v5 k1 q.1 q.2)
set_option maxHeartbeats 4000000 in
set_option maxRecDepth 100000 in
theorem wX11_worthOf_s71 (C : Cx p s m args meth c cX11_worthOf 7 wsL_law RX11 (some .long) D G ad) (n : Nat) (K6 : Int32 → Int32 → Int32 → Int32 → Int32 → St → Option (Int64 × St))  (v1 : Int32) (v2 : Int32) (v3 : Int32) (v4 : Int32) (v5 : Int32) (k1 : Int32) (k2 : Int64)   (st : St) (res : (Int64 × St)) (hK6 : ∀ (v1 : Int32) (v2 : Int32) (v3 : Int32) (v4 : Int32) (v5 : Int32) (st : St), K6 v1 v2 v3 v4 v5 st = some res → At p l e (rmK 3) s m args below meth c D G ad (MQJ D G ad below args s res) 7 st [(0, .ref (ad 130)), (1, .int v1), (2, .int v2), (3, .int v3), (4, .int v4), (5, .int v5)] 6 []) (hf : fX11_worthOf_s71 n K6  v1 v2 v3 v4 v5 k1 k2 st = some res) : At p l e (rmK 3) s m args below meth c D G ad (MQJ D G ad below args s res) 7 st [(0, .ref (ad 130)), (1, .int v1), (2, .int v2), (3, .int v3), (4, .int v4), (5, .int v5)] 71 [.long k2, .int k1, .ref (ad 158)] := by
  obtain ⟨hx, hb, hml, hown, hts, hr, hlk, hK, had, hSt⟩ := id C
  intro H locs ls hl hP hS
  unfold fX11_worthOf_s71 at hf
  obtain ⟨q, hq, hf⟩ := bd hf
  refine gcS_j (k := 0) (As := [.long k2]) (rest := [.int k1, .ref (ad 158)]) hx hb hml hown hts hK hSt hP hS hl.1 (goodS wm_23_23 wm_24_0 wm_1_5 wm_24_1) okX11_kept0 (Nat.le_of_ble_eq_true rfl) (Nat.le_of_ble_eq_true rfl) rfl rfl (Nat.le_of_ble_eq_true rfl) dX11_worthOf_71 (kX11_kept0 l D G ad had n  k2 st q hq) (fun H locs hP hS => ?_)
  exact wX11_worthOf_s74 C n K6 v1 v2 v3 v4 v5 k1 q.1 q.2 res hK6 hf H locs ls (lv_sub hl [0, 1, 2, 3, 4, 5] rfl) hP hS
def fX11_worthOf_s59 (n : Nat) (K6 : Int32 → Int32 → Int32 → Int32 → Int32 → St → Option (Int64 × St))  (v1 : Int32) (v2 : Int32) (v3 : Int32) (v4 : Int32) (v5 : Int32) (v6 : Int32) (k1 : Int32) (st : St) : Option (Int64 × St) := (fX11_field n (v6 - 10000) v2 v3 st).bind (fun q => fX11_worthOf_s71 n K6 v1 v2 v3 v4 v5 k1 q.1 q.2)
set_option maxHeartbeats 4000000 in
set_option maxRecDepth 100000 in
theorem wX11_worthOf_s59 (C : Cx p s m args meth c cX11_worthOf 7 wsL_law RX11 (some .long) D G ad) (n : Nat) (K6 : Int32 → Int32 → Int32 → Int32 → Int32 → St → Option (Int64 × St))  (v1 : Int32) (v2 : Int32) (v3 : Int32) (v4 : Int32) (v5 : Int32) (v6 : Int32) (k1 : Int32)   (st : St) (res : (Int64 × St)) (hK6 : ∀ (v1 : Int32) (v2 : Int32) (v3 : Int32) (v4 : Int32) (v5 : Int32) (st : St), K6 v1 v2 v3 v4 v5 st = some res → At p l e (rmK 3) s m args below meth c D G ad (MQJ D G ad below args s res) 7 st [(0, .ref (ad 130)), (1, .int v1), (2, .int v2), (3, .int v3), (4, .int v4), (5, .int v5)] 6 []) (hf : fX11_worthOf_s59 n K6  v1 v2 v3 v4 v5 v6 k1 st = some res) : At p l e (rmK 3) s m args below meth c D G ad (MQJ D G ad below args s res) 7 st [(0, .ref (ad 130)), (1, .int v1), (2, .int v2), (3, .int v3), (4, .int v4), (5, .int v5), (6, .int v6)] 59 [.int k1, .ref (ad 158)] := by
  obtain ⟨hx, hb, hml, hown, hts, hr, hlk, hK, had, hSt⟩ := id C
  intro H locs ls hl hP hS
  unfold fX11_worthOf_s59 at hf
  refine lv_aload_n hx hb dX11_worthOf_59 rfl (lv_at hl 0 rfl) ?_
  refine lv_iload hx hb dX11_worthOf_60 (lv_at hl 6 rfl) ?_
  refine lv_sipush (v := 10000) hx hb dX11_worthOf_62 (by decide) ?_
  refine lv_isub hx hb dX11_worthOf_65 ?_
  refine lv_iload_n hx hb dX11_worthOf_66 rfl (lv_at hl 2 rfl) ?_
  refine lv_iload_n hx hb dX11_worthOf_67 rfl (lv_at hl 3 rfl) ?_
  obtain ⟨q, hq, hf⟩ := bd hf
  refine gcV_j (k := 2) (o := 130) (As := [.int (v6 - 10000), .int v2, .int v3]) (rest := [.int k1, .ref (ad 158)]) hx hb hml hown hts hK hSt hP hS hl.1 (goodV wm_23_15 wm_23_16 wm_23_17 wm_1_5 wm_23_18) okX11_field ct_130 rfl rfl (Nat.le_of_ble_eq_true rfl) (Nat.le_of_ble_eq_true rfl) rfl rfl (Nat.le_of_ble_eq_true rfl) dX11_worthOf_68 (kX11_field l D G ad had n  (v6 - 10000) v2 v3 st q hq) (fun H locs hP hS => ?_)
  exact wX11_worthOf_s71 C n K6 v1 v2 v3 v4 v5 k1 q.1 q.2 res hK6 hf H locs ls (lv_sub hl [0, 1, 2, 3, 4, 5] rfl) hP hS
def fX11_worthOf_s53 (n : Nat) (K6 : Int32 → Int32 → Int32 → Int32 → Int32 → St → Option (Int64 × St))  (v1 : Int32) (v2 : Int32) (v3 : Int32) (v4 : Int32) (v5 : Int32) (v6 : Int32) (k1 : Int32) (st : St) : Option (Int64 × St) := fX11_worthOf_s71 n K6 v1 v2 v3 v4 v5 k1 v6.toInt64 st
set_option maxHeartbeats 4000000 in
set_option maxRecDepth 100000 in
theorem wX11_worthOf_s53 (C : Cx p s m args meth c cX11_worthOf 7 wsL_law RX11 (some .long) D G ad) (n : Nat) (K6 : Int32 → Int32 → Int32 → Int32 → Int32 → St → Option (Int64 × St))  (v1 : Int32) (v2 : Int32) (v3 : Int32) (v4 : Int32) (v5 : Int32) (v6 : Int32) (k1 : Int32)   (st : St) (res : (Int64 × St)) (hK6 : ∀ (v1 : Int32) (v2 : Int32) (v3 : Int32) (v4 : Int32) (v5 : Int32) (st : St), K6 v1 v2 v3 v4 v5 st = some res → At p l e (rmK 3) s m args below meth c D G ad (MQJ D G ad below args s res) 7 st [(0, .ref (ad 130)), (1, .int v1), (2, .int v2), (3, .int v3), (4, .int v4), (5, .int v5)] 6 []) (hf : fX11_worthOf_s53 n K6  v1 v2 v3 v4 v5 v6 k1 st = some res) : At p l e (rmK 3) s m args below meth c D G ad (MQJ D G ad below args s res) 7 st [(0, .ref (ad 130)), (1, .int v1), (2, .int v2), (3, .int v3), (4, .int v4), (5, .int v5), (6, .int v6)] 53 [.int k1, .ref (ad 158)] := by
  obtain ⟨hx, hb, hml, hown, hts, hr, hlk, hK, had, hSt⟩ := id C
  intro H locs ls hl hP hS
  unfold fX11_worthOf_s53 at hf
  refine lv_iload hx hb dX11_worthOf_53 (lv_at hl 6 rfl) ?_
  refine lv_i2l hx hb dX11_worthOf_55 rfl ?_
  refine lv_goto (tgt := 71) hx hb dX11_worthOf_56 (by decide) ?_
  exact wX11_worthOf_s71 C n K6 v1 v2 v3 v4 v5 k1 v6.toInt64 st res hK6 hf H locs ls (lv_sub hl [0, 1, 2, 3, 4, 5] rfl) hP hS
def fX11_worthOf_s39 (n : Nat) (K6 : Int32 → Int32 → Int32 → Int32 → Int32 → St → Option (Int64 × St))  (v1 : Int32) (v2 : Int32) (v3 : Int32) (v4 : Int32) (v5 : Int32) (v6 : Int32) (st : St) : Option (Int64 × St) := if 10000 ≤ v6 then fX11_worthOf_s59 n K6 v1 v2 v3 v4 v5 v6 v4 st else fX11_worthOf_s53 n K6 v1 v2 v3 v4 v5 v6 v4 st
set_option maxHeartbeats 4000000 in
set_option maxRecDepth 100000 in
theorem wX11_worthOf_s39 (C : Cx p s m args meth c cX11_worthOf 7 wsL_law RX11 (some .long) D G ad) (n : Nat) (K6 : Int32 → Int32 → Int32 → Int32 → Int32 → St → Option (Int64 × St))  (v1 : Int32) (v2 : Int32) (v3 : Int32) (v4 : Int32) (v5 : Int32) (v6 : Int32)   (st : St) (res : (Int64 × St)) (hK6 : ∀ (v1 : Int32) (v2 : Int32) (v3 : Int32) (v4 : Int32) (v5 : Int32) (st : St), K6 v1 v2 v3 v4 v5 st = some res → At p l e (rmK 3) s m args below meth c D G ad (MQJ D G ad below args s res) 7 st [(0, .ref (ad 130)), (1, .int v1), (2, .int v2), (3, .int v3), (4, .int v4), (5, .int v5)] 6 []) (hf : fX11_worthOf_s39 n K6  v1 v2 v3 v4 v5 v6 st = some res) : At p l e (rmK 3) s m args below meth c D G ad (MQJ D G ad below args s res) 7 st [(0, .ref (ad 130)), (1, .int v1), (2, .int v2), (3, .int v3), (4, .int v4), (5, .int v5), (6, .int v6)] 39 [] := by
  obtain ⟨hx, hb, hml, hown, hts, hr, hlk, hK, had, hSt⟩ := id C
  intro H locs ls hl hP hS
  unfold fX11_worthOf_s39 at hf
  refine lv_aload_n hx hb dX11_worthOf_39 rfl (lv_at hl 0 rfl) ?_
  refine g_getR hx hb hts inlX11 hown hK hP 130 ct_130 rfl 39 (by decide) (hts _ wm_8_5) rfl dX11_worthOf_40 ?_
  refine lv_iload hx hb dX11_worthOf_43 (lv_at hl 4 rfl) ?_
  refine lv_iload hx hb dX11_worthOf_45 (lv_at hl 6 rfl) ?_
  refine lv_sipush (v := 10000) hx hb dX11_worthOf_47 (by decide) ?_
  refine lv_icmp_ge (tgt := 59) hx hb dX11_worthOf_50 (by decide) (fun q => ?_) (fun q => ?_)
  · exact wX11_worthOf_s59 C n K6 v1 v2 v3 v4 v5 v6 v4 st res hK6 (it hf q) H locs ls (lv_sub hl [0, 1, 2, 3, 4, 5, 6] rfl) hP hS
  · exact wX11_worthOf_s53 C n K6 v1 v2 v3 v4 v5 v6 v4 st res hK6 (ie hf q) H locs ls (lv_sub hl [0, 1, 2, 3, 4, 5, 6] rfl) hP hS
def fX11_worthOf_s17 (n : Nat) (K6 : Int32 → Int32 → Int32 → Int32 → Int32 → St → Option (Int64 × St))  (v1 : Int32) (v2 : Int32) (v3 : Int32) (v4 : Int32) (v5 : Int32) (st : St) : Option (Int64 × St) := if inb ((120 * v1) + v5) 1440 = true then (if 20000 ≤ (st.1 154 ((120 * v1) + v5).toNatClampNeg) then fX11_worthOf_s81 n K6 v1 v2 v3 v4 v5 (st.1 154 ((120 * v1) + v5).toNatClampNeg) st else fX11_worthOf_s39 n K6 v1 v2 v3 v4 v5 (st.1 154 ((120 * v1) + v5).toNatClampNeg) st) else none
set_option maxHeartbeats 4000000 in
set_option maxRecDepth 100000 in
theorem wX11_worthOf_s17 (C : Cx p s m args meth c cX11_worthOf 7 wsL_law RX11 (some .long) D G ad) (n : Nat) (K6 : Int32 → Int32 → Int32 → Int32 → Int32 → St → Option (Int64 × St))  (v1 : Int32) (v2 : Int32) (v3 : Int32) (v4 : Int32) (v5 : Int32)   (st : St) (res : (Int64 × St)) (hK6 : ∀ (v1 : Int32) (v2 : Int32) (v3 : Int32) (v4 : Int32) (v5 : Int32) (st : St), K6 v1 v2 v3 v4 v5 st = some res → At p l e (rmK 3) s m args below meth c D G ad (MQJ D G ad below args s res) 7 st [(0, .ref (ad 130)), (1, .int v1), (2, .int v2), (3, .int v3), (4, .int v4), (5, .int v5)] 6 []) (hf : fX11_worthOf_s17 n K6  v1 v2 v3 v4 v5 st = some res) : At p l e (rmK 3) s m args below meth c D G ad (MQJ D G ad below args s res) 7 st [(0, .ref (ad 130)), (1, .int v1), (2, .int v2), (3, .int v3), (4, .int v4), (5, .int v5)] 17 [] := by
  obtain ⟨hx, hb, hml, hown, hts, hr, hlk, hK, had, hSt⟩ := id C
  intro H locs ls hl hP hS
  unfold fX11_worthOf_s17 at hf
  refine lv_aload_n hx hb dX11_worthOf_17 rfl (lv_at hl 0 rfl) ?_
  refine g_getR hx hb hts inlX11 hown hK hP 130 ct_130 rfl 30 (by decide) (hts _ wm_8_1) rfl dX11_worthOf_18 ?_
  refine lv_bipush (v := 120) hx hb dX11_worthOf_21 (by decide) ?_
  refine lv_iload_n hx hb dX11_worthOf_23 rfl (lv_at hl 1 rfl) ?_
  refine lv_imul hx hb dX11_worthOf_24 ?_
  refine lv_iload hx hb dX11_worthOf_25 (lv_at hl 5 rfl) ?_
  refine lv_iadd hx hb dX11_worthOf_27 ?_
  obtain ⟨g1, hf⟩ := gd hf
  refine g_iald hx hb hK hP 154 ct_154 g1 dX11_worthOf_28 ?_
  refine lv_istore (lv' := [(6, .int (st.1 154 ((120 * v1) + v5).toNatClampNeg)), (0, .ref (ad 130)), (1, .int v1), (2, .int v2), (3, .int v3), (4, .int v4), (5, .int v5)]) hx hb dX11_worthOf_29 hl (by decide) rfl (fun ls hl => ?_)
  refine lv_iload hx hb dX11_worthOf_31 (lv_at hl 0 rfl) ?_
  refine lv_sipush (v := 20000) hx hb dX11_worthOf_33 (by decide) ?_
  refine lv_icmp_ge (tgt := 81) hx hb dX11_worthOf_36 (by decide) (fun q => ?_) (fun q => ?_)
  · exact wX11_worthOf_s81 C n K6 v1 v2 v3 v4 v5 (st.1 154 ((120 * v1) + v5).toNatClampNeg) st res hK6 (it hf q) H locs ls (lv_sub hl [1, 2, 3, 4, 5, 6, 0] rfl) hP hS
  · exact wX11_worthOf_s39 C n K6 v1 v2 v3 v4 v5 (st.1 154 ((120 * v1) + v5).toNatClampNeg) st res hK6 (ie hf q) H locs ls (lv_sub hl [1, 2, 3, 4, 5, 6, 0] rfl) hP hS
def fX11_worthOf_s6 (n : Nat) (K6 : Int32 → Int32 → Int32 → Int32 → Int32 → St → Option (Int64 × St))  (v1 : Int32) (v2 : Int32) (v3 : Int32) (v4 : Int32) (v5 : Int32) (st : St) : Option (Int64 × St) := if inb v1 12 = true then (if (st.1 153 v1.toNatClampNeg) ≤ v5 then fX11_worthOf_s127 n st else fX11_worthOf_s17 n K6 v1 v2 v3 v4 v5 st) else none
set_option maxHeartbeats 4000000 in
set_option maxRecDepth 100000 in
theorem wX11_worthOf_s6 (C : Cx p s m args meth c cX11_worthOf 7 wsL_law RX11 (some .long) D G ad) (n : Nat) (K6 : Int32 → Int32 → Int32 → Int32 → Int32 → St → Option (Int64 × St))  (v1 : Int32) (v2 : Int32) (v3 : Int32) (v4 : Int32) (v5 : Int32)   (st : St) (res : (Int64 × St)) (hK6 : ∀ (v1 : Int32) (v2 : Int32) (v3 : Int32) (v4 : Int32) (v5 : Int32) (st : St), K6 v1 v2 v3 v4 v5 st = some res → At p l e (rmK 3) s m args below meth c D G ad (MQJ D G ad below args s res) 7 st [(0, .ref (ad 130)), (1, .int v1), (2, .int v2), (3, .int v3), (4, .int v4), (5, .int v5)] 6 []) (hf : fX11_worthOf_s6 n K6  v1 v2 v3 v4 v5 st = some res) : At p l e (rmK 3) s m args below meth c D G ad (MQJ D G ad below args s res) 7 st [(0, .ref (ad 130)), (1, .int v1), (2, .int v2), (3, .int v3), (4, .int v4), (5, .int v5)] 6 [] := by
  obtain ⟨hx, hb, hml, hown, hts, hr, hlk, hK, had, hSt⟩ := id C
  intro H locs ls hl hP hS
  unfold fX11_worthOf_s6 at hf
  refine lv_iload hx hb dX11_worthOf_6 (lv_at hl 5 rfl) ?_
  refine lv_aload_n hx hb dX11_worthOf_8 rfl (lv_at hl 0 rfl) ?_
  refine g_getR hx hb hts inlX11 hown hK hP 130 ct_130 rfl 29 (by decide) (hts _ wm_8_0) rfl dX11_worthOf_9 ?_
  refine lv_iload_n hx hb dX11_worthOf_12 rfl (lv_at hl 1 rfl) ?_
  obtain ⟨g1, hf⟩ := gd hf
  refine g_iald hx hb hK hP 153 ct_153 g1 dX11_worthOf_13 ?_
  refine lv_icmp_ge (tgt := 127) hx hb dX11_worthOf_14 (by decide) (fun q => ?_) (fun q => ?_)
  · exact wX11_worthOf_s127 C n st res (it hf q) H locs ls (lv_sub hl [0] rfl) hP hS
  · exact wX11_worthOf_s17 C n K6 v1 v2 v3 v4 v5 st res hK6 (ie hf q) H locs ls (lv_sub hl [0, 1, 2, 3, 4, 5] rfl) hP hS
def fX11_worthOf_L6 (n : Nat)   : Nat → Int32 → Int32 → Int32 → Int32 → Int32 → St → Option (Int64 × St)
  | 0, _, _, _, _, _, _ => none
  | k + 1, v1, v2, v3, v4, v5, st => fX11_worthOf_s6 n (fX11_worthOf_L6 n k)  v1 v2 v3 v4 v5 st
theorem wX11_worthOf_L6 (C : Cx p s m args meth c cX11_worthOf 7 wsL_law RX11 (some .long) D G ad) (n : Nat)    (res : (Int64 × St))  : ∀ (k : Nat) (v1 : Int32) (v2 : Int32) (v3 : Int32) (v4 : Int32) (v5 : Int32)  (st : St), fX11_worthOf_L6 n k v1 v2 v3 v4 v5 st = some res → At p l e (rmK 3) s m args below meth c D G ad (MQJ D G ad below args s res) 7 st [(0, .ref (ad 130)), (1, .int v1), (2, .int v2), (3, .int v3), (4, .int v4), (5, .int v5)] 6 [] := by
  intro k
  induction k with
  | zero => intro v1 v2 v3 v4 v5  st h; exact absurd h (by intro q; cases q)
  | succ k ih => intro v1 v2 v3 v4 v5  st h; exact wX11_worthOf_s6 C n (fX11_worthOf_L6 n k)  v1 v2 v3 v4 v5   st res ih h
def fX11_worthOf_s0 (n : Nat)   (v1 : Int32) (v2 : Int32) (v3 : Int32) (st : St) : Option (Int64 × St) := fX11_worthOf_L6 n n v1 v2 v3 0 0 st
set_option maxHeartbeats 4000000 in
set_option maxRecDepth 100000 in
theorem wX11_worthOf_s0 (C : Cx p s m args meth c cX11_worthOf 7 wsL_law RX11 (some .long) D G ad) (n : Nat)   (v1 : Int32) (v2 : Int32) (v3 : Int32)   (st : St) (res : (Int64 × St))  (hf : fX11_worthOf_s0 n   v1 v2 v3 st = some res) : At p l e (rmK 3) s m args below meth c D G ad (MQJ D G ad below args s res) 7 st [(0, .ref (ad 130)), (1, .int v1), (2, .int v2), (3, .int v3)] 0 [] := by
  obtain ⟨hx, hb, hml, hown, hts, hr, hlk, hK, had, hSt⟩ := id C
  intro H locs ls hl hP hS
  unfold fX11_worthOf_s0 at hf
  refine lv_iconst (v := 0) hx hb dX11_worthOf_0 (by decide) ?_
  refine lv_istore (lv' := [(4, .int 0), (0, .ref (ad 130)), (1, .int v1), (2, .int v2), (3, .int v3)]) hx hb dX11_worthOf_1 hl (by decide) rfl (fun ls hl => ?_)
  refine lv_iconst (v := 0) hx hb dX11_worthOf_3 (by decide) ?_
  refine lv_istore (lv' := [(5, .int 0), (4, .int 0), (0, .ref (ad 130)), (1, .int v1), (2, .int v2), (3, .int v3)]) hx hb dX11_worthOf_4 hl (by decide) rfl (fun ls hl => ?_)
  exact wX11_worthOf_L6 C n res n v1 v2 v3 0 0 st hf H locs ls (lv_sub hl [2, 3, 4, 5, 1, 0] rfl) hP hS
def fX11_worthOf (n : Nat)  (a1 : Int32) (a2 : Int32) (a3 : Int32) (st : St) : Option (Int64 × St) := fX11_worthOf_s0 n a1 a2 a3 st
theorem okX11_worthOf : okY yX11_worthOf RX11 3 := by unfold okY; decide +kernel
end
set_option maxRecDepth 100000 in
theorem kX11_worthOf (l : Launch) (D : va_G) (G : G3) (ad : Nat → Nat) (had : Adr ad) (n : Nat)   (a1 : Int32) (a2 : Int32) (a3 : Int32) (st : St) (res : (Int64 × St)) (hf : fX11_worthOf n  a1 a2 a3 st = some res) {sz : Nat} : CtJ l yX11_worthOf (wsU yX11_worthOf cX11_worthOf 7 (some .long)) (rmK 3) D G ad sz [.ref (ad 130), .int a1, .int a2, .int a3] st res := by
  refine Met.ofW (cc := cX11_worthOf) (maxL := 7) (ret := (some .long)) (by decide) rfl ?_
  intro p e s m args below meth c s₁ B hml hv
  obtain ⟨rfl, hsz, hP, hK, hSt⟩ := hv
  have hts := atoms_spec (ws := wsU yX11_worthOf cX11_worthOf 7 (some .long)) B.pre
  have C : Cx p s m _ meth c cX11_worthOf 7 wsL_law RX11 (some .long) D G ad := ⟨B.exec, B.bytes, hml, findClass_of_methodNamed B.named, fun w h => hts w (List.mem_cons_of_mem _ h), B.returns, B.notSynchronized, hK, had, hSt⟩
  subst hsz
  have hl := lv_entry ([.ref (ad 130), .int a1, .int a2, .int a3]) (n := 7) (Nat.le_of_ble_eq_true rfl)
  rw [lg_entry_eq]
  generalize (lg_sl ([.ref (ad 130), .int a1, .int a2, .int a3]) ++ List.replicate (7 - (lg_sl ([.ref (ad 130), .int a1, .int a2, .int a3])).length) Slot.unset).toArray = ls at hl ⊢
  exact wX11_worthOf_s0 C n  a1 a2 a3   st res hf s.heap [] ls (lv_sub hl [0, 1, 2, 3] rfl) hP va_S.rf
section
variable {p : Program} {l : Launch} {e : Env} {s : State} {m : MethodId} {args : Array Value} {below : List Frame} {meth : Method} {c : Code} {D : va_G} {G : G3} {ad : Nat → Nat}
def fX11_orders_s160 (n : Nat)    (st : St) : Option (Unit × St) := some ((), st)
set_option maxHeartbeats 4000000 in
set_option maxRecDepth 100000 in
theorem wX11_orders_s160 (C : Cx p s m args meth c cX11_orders 4 wsL_law RX11 none D G ad) (n : Nat)      (st : St) (res : (Unit × St))  (hf : fX11_orders_s160 n    st = some res) : At p l e (rmK 4) s m args below meth c D G ad (MQV D G ad below args s res) 4 st [] 160 [] := by
  obtain ⟨hx, hb, hml, hown, hts, hr, hlk, hK, had, hSt⟩ := id C
  intro H locs ls hl hP hS
  unfold fX11_orders_s160 at hf
  exact g_vret hx hb hr hlk hP hS dX11_orders_160 hf
def fX11_orders_s141 (n : Nat)   (v1 : Int32) (v2 : Int64) (st : St) : Option (Unit × St) := if inb v1 8 = true then (if inb ((4 * v1) + (st.1 134 v1.toNatClampNeg)) 32 = true then (if inb ((4 * v1) + (st.1 134 v1.toNatClampNeg)) 32 = true then (fX11_orders_s160 n (setJ st 144 ((4 * v1) + (st.1 134 v1.toNatClampNeg)).toNatClampNeg ((st.2 144 ((4 * v1) + (st.1 134 v1.toNatClampNeg)).toNatClampNeg) + v2))) else none) else none) else none
set_option maxHeartbeats 4000000 in
set_option maxRecDepth 100000 in
theorem wX11_orders_s141 (C : Cx p s m args meth c cX11_orders 4 wsL_law RX11 none D G ad) (n : Nat)   (v1 : Int32) (v2 : Int64)   (st : St) (res : (Unit × St))  (hf : fX11_orders_s141 n   v1 v2 st = some res) : At p l e (rmK 4) s m args below meth c D G ad (MQV D G ad below args s res) 4 st [(0, .ref (ad 130)), (1, .int v1), (2, .long v2)] 141 [] := by
  obtain ⟨hx, hb, hml, hown, hts, hr, hlk, hK, had, hSt⟩ := id C
  intro H locs ls hl hP hS
  unfold fX11_orders_s141 at hf
  refine lv_aload_n hx hb dX11_orders_141 rfl (lv_at hl 0 rfl) ?_
  refine g_getR hx hb hts inlX11 hown hK hP 130 ct_130 rfl 19 (by decide) (hts _ wm_7_15) rfl dX11_orders_142 ?_
  refine lv_iconst (v := 4) hx hb dX11_orders_145 (by decide) ?_
  refine lv_iload_n hx hb dX11_orders_146 rfl (lv_at hl 1 rfl) ?_
  refine lv_imul hx hb dX11_orders_147 ?_
  refine lv_aload_n hx hb dX11_orders_148 rfl (lv_at hl 0 rfl) ?_
  refine g_getR hx hb hts inlX11 hown hK hP 130 ct_130 rfl 4 (by decide) (hts _ wm_7_5) rfl dX11_orders_149 ?_
  refine lv_iload_n hx hb dX11_orders_152 rfl (lv_at hl 1 rfl) ?_
  obtain ⟨g1, hf⟩ := gd hf
  refine g_iald hx hb hK hP 134 ct_134 g1 dX11_orders_153 ?_
  refine lv_iadd hx hb dX11_orders_154 ?_
  refine lv_dup2_11 hx hb dX11_orders_155 rfl rfl ?_
  obtain ⟨g2, hf⟩ := gd hf
  refine g_lald hx hb hK hP 144 ct_144 g2 dX11_orders_156 ?_
  refine lv_lload_n hx hb dX11_orders_157 rfl (lv_at hl 2 rfl) ?_
  refine lv_ladd hx hb dX11_orders_158 ?_
  obtain ⟨g3, hf⟩ := gd hf
  refine g_last hx hb hK had hP hS 144 ct_144 g3 dX11_orders_159 (fun H locs hP hS => ?_)
  exact wX11_orders_s160 C n (setJ st 144 ((4 * v1) + (st.1 134 v1.toNatClampNeg)).toNatClampNeg ((st.2 144 ((4 * v1) + (st.1 134 v1.toNatClampNeg)).toNatClampNeg) + v2)) res hf H locs ls (lv_sub hl [] rfl) hP hS
def fX11_orders_s138 (n : Nat)    (st : St) : Option (Unit × St) := fX11_orders_s160 n st
set_option maxHeartbeats 4000000 in
set_option maxRecDepth 100000 in
theorem wX11_orders_s138 (C : Cx p s m args meth c cX11_orders 4 wsL_law RX11 none D G ad) (n : Nat)      (st : St) (res : (Unit × St))  (hf : fX11_orders_s138 n    st = some res) : At p l e (rmK 4) s m args below meth c D G ad (MQV D G ad below args s res) 4 st [] 138 [] := by
  obtain ⟨hx, hb, hml, hown, hts, hr, hlk, hK, had, hSt⟩ := id C
  intro H locs ls hl hP hS
  unfold fX11_orders_s138 at hf
  refine lv_goto (tgt := 160) hx hb dX11_orders_138 (by decide) ?_
  exact wX11_orders_s160 C n st res hf H locs ls (lv_sub hl [] rfl) hP hS
def fX11_orders_s118 (n : Nat)   (v1 : Int32) (v2 : Int64) (st : St) : Option (Unit × St) := if inb v1 8 = true then (if inb ((7 * v1) + (st.1 133 v1.toNatClampNeg)) 56 = true then (if inb ((7 * v1) + (st.1 133 v1.toNatClampNeg)) 56 = true then (fX11_orders_s138 n (setJ st 143 ((7 * v1) + (st.1 133 v1.toNatClampNeg)).toNatClampNeg ((st.2 143 ((7 * v1) + (st.1 133 v1.toNatClampNeg)).toNatClampNeg) + v2))) else none) else none) else none
set_option maxHeartbeats 4000000 in
set_option maxRecDepth 100000 in
theorem wX11_orders_s118 (C : Cx p s m args meth c cX11_orders 4 wsL_law RX11 none D G ad) (n : Nat)   (v1 : Int32) (v2 : Int64)   (st : St) (res : (Unit × St))  (hf : fX11_orders_s118 n   v1 v2 st = some res) : At p l e (rmK 4) s m args below meth c D G ad (MQV D G ad below args s res) 4 st [(0, .ref (ad 130)), (1, .int v1), (2, .long v2)] 118 [] := by
  obtain ⟨hx, hb, hml, hown, hts, hr, hlk, hK, had, hSt⟩ := id C
  intro H locs ls hl hP hS
  unfold fX11_orders_s118 at hf
  refine lv_aload_n hx hb dX11_orders_118 rfl (lv_at hl 0 rfl) ?_
  refine g_getR hx hb hts inlX11 hown hK hP 130 ct_130 rfl 18 (by decide) (hts _ wm_7_14) rfl dX11_orders_119 ?_
  refine lv_bipush (v := 7) hx hb dX11_orders_122 (by decide) ?_
  refine lv_iload_n hx hb dX11_orders_124 rfl (lv_at hl 1 rfl) ?_
  refine lv_imul hx hb dX11_orders_125 ?_
  refine lv_aload_n hx hb dX11_orders_126 rfl (lv_at hl 0 rfl) ?_
  refine g_getR hx hb hts inlX11 hown hK hP 130 ct_130 rfl 3 (by decide) (hts _ wm_7_4) rfl dX11_orders_127 ?_
  refine lv_iload_n hx hb dX11_orders_130 rfl (lv_at hl 1 rfl) ?_
  obtain ⟨g1, hf⟩ := gd hf
  refine g_iald hx hb hK hP 133 ct_133 g1 dX11_orders_131 ?_
  refine lv_iadd hx hb dX11_orders_132 ?_
  refine lv_dup2_11 hx hb dX11_orders_133 rfl rfl ?_
  obtain ⟨g2, hf⟩ := gd hf
  refine g_lald hx hb hK hP 143 ct_143 g2 dX11_orders_134 ?_
  refine lv_lload_n hx hb dX11_orders_135 rfl (lv_at hl 2 rfl) ?_
  refine lv_ladd hx hb dX11_orders_136 ?_
  obtain ⟨g3, hf⟩ := gd hf
  refine g_last hx hb hK had hP hS 143 ct_143 g3 dX11_orders_137 (fun H locs hP hS => ?_)
  exact wX11_orders_s138 C n (setJ st 143 ((7 * v1) + (st.1 133 v1.toNatClampNeg)).toNatClampNeg ((st.2 143 ((7 * v1) + (st.1 133 v1.toNatClampNeg)).toNatClampNeg) + v2)) res hf H locs ls (lv_sub hl [] rfl) hP hS
def fX11_orders_s108 (n : Nat)   (v1 : Int32) (v2 : Int64) (st : St) : Option (Unit × St) := fX11_orders_s118 n v1 v2 (setJ st 130 13 ((st.2 130 13) + v2))
set_option maxHeartbeats 4000000 in
set_option maxRecDepth 100000 in
theorem wX11_orders_s108 (C : Cx p s m args meth c cX11_orders 4 wsL_law RX11 none D G ad) (n : Nat)   (v1 : Int32) (v2 : Int64)   (st : St) (res : (Unit × St))  (hf : fX11_orders_s108 n   v1 v2 st = some res) : At p l e (rmK 4) s m args below meth c D G ad (MQV D G ad below args s res) 4 st [(0, .ref (ad 130)), (1, .int v1), (2, .long v2)] 108 [] := by
  obtain ⟨hx, hb, hml, hown, hts, hr, hlk, hK, had, hSt⟩ := id C
  intro H locs ls hl hP hS
  unfold fX11_orders_s108 at hf
  refine lv_aload_n hx hb dX11_orders_108 rfl (lv_at hl 0 rfl) ?_
  refine lv_dup hx hb dX11_orders_109 rfl ?_
  refine g_getJ hx hb hts inlX11 hown hK hP 130 ct_130 rfl 13 (by decide) (hts _ wm_16_14) rfl dX11_orders_110 ?_
  refine lv_lload_n hx hb dX11_orders_113 rfl (lv_at hl 2 rfl) ?_
  refine lv_ladd hx hb dX11_orders_114 ?_
  refine g_putJ hx hb hts inlX11 tyX11_ok nmX11 hown hK had hP hS 130 ct_130 rfl 13 (by decide) (hts _ wm_16_14) rfl rfl rfl dX11_orders_115 (fun H locs hP hS => ?_)
  exact wX11_orders_s118 C n v1 v2 (setJ st 130 13 ((st.2 130 13) + v2)) res hf H locs ls (lv_sub hl [0, 1, 2] rfl) hP hS
def fX11_orders_s99 (n : Nat)   (v1 : Int32) (v2 : Int64) (st : St) : Option (Unit × St) := if inb v1 8 = true then (if (st.1 131 v1.toNatClampNeg) = 0 then fX11_orders_s108 n v1 v2 st else fX11_orders_s141 n v1 v2 st) else none
set_option maxHeartbeats 4000000 in
set_option maxRecDepth 100000 in
theorem wX11_orders_s99 (C : Cx p s m args meth c cX11_orders 4 wsL_law RX11 none D G ad) (n : Nat)   (v1 : Int32) (v2 : Int64)   (st : St) (res : (Unit × St))  (hf : fX11_orders_s99 n   v1 v2 st = some res) : At p l e (rmK 4) s m args below meth c D G ad (MQV D G ad below args s res) 4 st [(0, .ref (ad 130)), (1, .int v1), (2, .long v2)] 99 [] := by
  obtain ⟨hx, hb, hml, hown, hts, hr, hlk, hK, had, hSt⟩ := id C
  intro H locs ls hl hP hS
  unfold fX11_orders_s99 at hf
  refine lv_aload_n hx hb dX11_orders_99 rfl (lv_at hl 0 rfl) ?_
  refine g_getR hx hb hts inlX11 hown hK hP 130 ct_130 rfl 1 (by decide) (hts _ wm_7_2) rfl dX11_orders_100 ?_
  refine lv_iload_n hx hb dX11_orders_103 rfl (lv_at hl 1 rfl) ?_
  obtain ⟨g1, hf⟩ := gd hf
  refine g_iald hx hb hK hP 131 ct_131 g1 dX11_orders_104 ?_
  refine lv_if_ne (tgt := 141) hx hb dX11_orders_105 (by decide) (fun q => ?_) (fun q => ?_)
  · exact wX11_orders_s141 C n v1 v2 st res (ie hf q) H locs ls (lv_sub hl [0, 1, 2] rfl) hP hS
  · exact wX11_orders_s108 C n v1 v2 st res (it hf q) H locs ls (lv_sub hl [0, 1, 2] rfl) hP hS
def fX11_orders_s91 (n : Nat)   (v1 : Int32) (k0 : Int64) (st : St) : Option (Unit × St) := if inb v1 8 = true then (fX11_orders_s99 n v1 k0 (setJ st 148 v1.toNatClampNeg k0)) else none
set_option maxHeartbeats 4000000 in
set_option maxRecDepth 100000 in
theorem wX11_orders_s91 (C : Cx p s m args meth c cX11_orders 4 wsL_law RX11 none D G ad) (n : Nat)   (v1 : Int32) (k0 : Int64)   (st : St) (res : (Unit × St))  (hf : fX11_orders_s91 n   v1 k0 st = some res) : At p l e (rmK 4) s m args below meth c D G ad (MQV D G ad below args s res) 4 st [(0, .ref (ad 130)), (1, .int v1)] 91 [.long k0] := by
  obtain ⟨hx, hb, hml, hown, hts, hr, hlk, hK, had, hSt⟩ := id C
  intro H locs ls hl hP hS
  unfold fX11_orders_s91 at hf
  refine lv_lstore_n (lv' := [(2, .long k0), (0, .ref (ad 130)), (1, .int v1)]) hx hb dX11_orders_91 rfl hl (by decide) rfl (fun ls hl => ?_)
  refine lv_aload_n hx hb dX11_orders_92 rfl (lv_at hl 1 rfl) ?_
  refine g_getR hx hb hts inlX11 hown hK hP 130 ct_130 rfl 23 (by decide) (hts _ wm_7_19) rfl dX11_orders_93 ?_
  refine lv_iload_n hx hb dX11_orders_96 rfl (lv_at hl 2 rfl) ?_
  refine lv_lload_n hx hb dX11_orders_97 rfl (lv_at hl 0 rfl) ?_
  obtain ⟨g1, hf⟩ := gd hf
  refine g_last hx hb hK had hP hS 148 ct_148 g1 dX11_orders_98 (fun H locs hP hS => ?_)
  exact wX11_orders_s99 C n v1 k0 (setJ st 148 v1.toNatClampNeg k0) res hf H locs ls (lv_sub hl [1, 2, 0] rfl) hP hS
def fX11_orders_s90 (n : Nat)   (v1 : Int32) (v2 : Int64) (st : St) : Option (Unit × St) := fX11_orders_s91 n v1 v2 st
set_option maxHeartbeats 4000000 in
set_option maxRecDepth 100000 in
theorem wX11_orders_s90 (C : Cx p s m args meth c cX11_orders 4 wsL_law RX11 none D G ad) (n : Nat)   (v1 : Int32) (v2 : Int64)   (st : St) (res : (Unit × St))  (hf : fX11_orders_s90 n   v1 v2 st = some res) : At p l e (rmK 4) s m args below meth c D G ad (MQV D G ad below args s res) 4 st [(0, .ref (ad 130)), (1, .int v1), (2, .long v2)] 90 [] := by
  obtain ⟨hx, hb, hml, hown, hts, hr, hlk, hK, had, hSt⟩ := id C
  intro H locs ls hl hP hS
  unfold fX11_orders_s90 at hf
  refine lv_lload_n hx hb dX11_orders_90 rfl (lv_at hl 2 rfl) ?_
  exact wX11_orders_s91 C n v1 v2 st res hf H locs ls (lv_sub hl [0, 1] rfl) hP hS
def fX11_orders_s80 (n : Nat)   (v1 : Int32) (st : St) : Option (Unit × St) := if inb v1 8 = true then (fX11_orders_s91 n v1 ((st.1 136 v1.toNatClampNeg).toInt64) st) else none
set_option maxHeartbeats 4000000 in
set_option maxRecDepth 100000 in
theorem wX11_orders_s80 (C : Cx p s m args meth c cX11_orders 4 wsL_law RX11 none D G ad) (n : Nat)   (v1 : Int32)   (st : St) (res : (Unit × St))  (hf : fX11_orders_s80 n   v1 st = some res) : At p l e (rmK 4) s m args below meth c D G ad (MQV D G ad below args s res) 4 st [(0, .ref (ad 130)), (1, .int v1)] 80 [] := by
  obtain ⟨hx, hb, hml, hown, hts, hr, hlk, hK, had, hSt⟩ := id C
  intro H locs ls hl hP hS
  unfold fX11_orders_s80 at hf
  refine lv_aload_n hx hb dX11_orders_80 rfl (lv_at hl 0 rfl) ?_
  refine g_getR hx hb hts inlX11 hown hK hP 130 ct_130 rfl 6 (by decide) (hts _ wm_7_7) rfl dX11_orders_81 ?_
  refine lv_iload_n hx hb dX11_orders_84 rfl (lv_at hl 1 rfl) ?_
  obtain ⟨g1, hf⟩ := gd hf
  refine g_iald hx hb hK hP 136 ct_136 g1 dX11_orders_85 ?_
  refine lv_i2l hx hb dX11_orders_86 rfl ?_
  refine lv_goto (tgt := 91) hx hb dX11_orders_87 (by decide) ?_
  exact wX11_orders_s91 C n v1 ((st.1 136 v1.toNatClampNeg).toInt64) st res hf H locs ls (lv_sub hl [0, 1] rfl) hP hS
def fX11_orders_s67 (n : Nat)   (v1 : Int32) (k0 : Int64) (st : St) : Option (Unit × St) := if inb v1 8 = true then (if k0 ≤ ((st.1 136 v1.toNatClampNeg).toInt64) then fX11_orders_s90 n v1 k0 st else fX11_orders_s80 n v1 st) else none
set_option maxHeartbeats 4000000 in
set_option maxRecDepth 100000 in
theorem wX11_orders_s67 (C : Cx p s m args meth c cX11_orders 4 wsL_law RX11 none D G ad) (n : Nat)   (v1 : Int32) (k0 : Int64)   (st : St) (res : (Unit × St))  (hf : fX11_orders_s67 n   v1 k0 st = some res) : At p l e (rmK 4) s m args below meth c D G ad (MQV D G ad below args s res) 4 st [(0, .ref (ad 130)), (1, .int v1)] 67 [.long k0] := by
  obtain ⟨hx, hb, hml, hown, hts, hr, hlk, hK, had, hSt⟩ := id C
  intro H locs ls hl hP hS
  unfold fX11_orders_s67 at hf
  refine lv_lstore_n (lv' := [(2, .long k0), (0, .ref (ad 130)), (1, .int v1)]) hx hb dX11_orders_67 rfl hl (by decide) rfl (fun ls hl => ?_)
  refine lv_lload_n hx hb dX11_orders_68 rfl (lv_at hl 0 rfl) ?_
  refine lv_aload_n hx hb dX11_orders_69 rfl (lv_at hl 1 rfl) ?_
  refine g_getR hx hb hts inlX11 hown hK hP 130 ct_130 rfl 6 (by decide) (hts _ wm_7_7) rfl dX11_orders_70 ?_
  refine lv_iload_n hx hb dX11_orders_73 rfl (lv_at hl 2 rfl) ?_
  obtain ⟨g1, hf⟩ := gd hf
  refine g_iald hx hb hK hP 136 ct_136 g1 dX11_orders_74 ?_
  refine lv_i2l hx hb dX11_orders_75 rfl ?_
  refine g_lcmp_le (tgt := 90) hx hb dX11_orders_76 dX11_orders_77 (by decide) (fun q => ?_) (fun q => ?_)
  · exact wX11_orders_s90 C n v1 k0 st res (it hf q) H locs ls (lv_sub hl [1, 2, 0] rfl) hP hS
  · exact wX11_orders_s80 C n v1 st res (ie hf q) H locs ls (lv_sub hl [1, 2] rfl) hP hS
def fX11_orders_s40 (n : Nat)   (v1 : Int32) (v2 : Int64) (st : St) : Option (Unit × St) := if inb v1 8 = true then (if inb v1 8 = true then (if (st.1 135 v1.toNatClampNeg).toInt64 = 0 then none else (if inb v1 8 = true then (fX11_orders_s67 n v1 ((((v2 + ((st.1 135 v1.toNatClampNeg).toInt64)) - 1) / ((st.1 135 v1.toNatClampNeg).toInt64)) * ((st.1 135 v1.toNatClampNeg).toInt64)) st) else none)) else none) else none
set_option maxHeartbeats 4000000 in
set_option maxRecDepth 100000 in
theorem wX11_orders_s40 (C : Cx p s m args meth c cX11_orders 4 wsL_law RX11 none D G ad) (n : Nat)   (v1 : Int32) (v2 : Int64)   (st : St) (res : (Unit × St))  (hf : fX11_orders_s40 n   v1 v2 st = some res) : At p l e (rmK 4) s m args below meth c D G ad (MQV D G ad below args s res) 4 st [(0, .ref (ad 130)), (1, .int v1), (2, .long v2)] 40 [] := by
  obtain ⟨hx, hb, hml, hown, hts, hr, hlk, hK, had, hSt⟩ := id C
  intro H locs ls hl hP hS
  unfold fX11_orders_s40 at hf
  refine lv_lload_n hx hb dX11_orders_40 rfl (lv_at hl 2 rfl) ?_
  refine lv_aload_n hx hb dX11_orders_41 rfl (lv_at hl 0 rfl) ?_
  refine g_getR hx hb hts inlX11 hown hK hP 130 ct_130 rfl 5 (by decide) (hts _ wm_7_6) rfl dX11_orders_42 ?_
  refine lv_iload_n hx hb dX11_orders_45 rfl (lv_at hl 1 rfl) ?_
  obtain ⟨g1, hf⟩ := gd hf
  refine g_iald hx hb hK hP 135 ct_135 g1 dX11_orders_46 ?_
  refine lv_i2l hx hb dX11_orders_47 rfl ?_
  refine lv_ladd hx hb dX11_orders_48 ?_
  refine lv_lconst (v := 1) hx hb dX11_orders_49 (by decide) ?_
  refine lv_lsub hx hb dX11_orders_50 ?_
  refine lv_aload_n hx hb dX11_orders_51 rfl (lv_at hl 0 rfl) ?_
  refine g_getR hx hb hts inlX11 hown hK hP 130 ct_130 rfl 5 (by decide) (hts _ wm_7_6) rfl dX11_orders_52 ?_
  refine lv_iload_n hx hb dX11_orders_55 rfl (lv_at hl 1 rfl) ?_
  obtain ⟨g2, hf⟩ := gd hf
  refine g_iald hx hb hK hP 135 ct_135 g2 dX11_orders_56 ?_
  refine lv_i2l hx hb dX11_orders_57 rfl ?_
  obtain ⟨g3, hf⟩ := gn hf
  refine lv_ldiv hx hb dX11_orders_58 g3 ?_
  refine lv_aload_n hx hb dX11_orders_59 rfl (lv_at hl 0 rfl) ?_
  refine g_getR hx hb hts inlX11 hown hK hP 130 ct_130 rfl 5 (by decide) (hts _ wm_7_6) rfl dX11_orders_60 ?_
  refine lv_iload_n hx hb dX11_orders_63 rfl (lv_at hl 1 rfl) ?_
  obtain ⟨g4, hf⟩ := gd hf
  refine g_iald hx hb hK hP 135 ct_135 g4 dX11_orders_64 ?_
  refine lv_i2l hx hb dX11_orders_65 rfl ?_
  refine lv_lmul hx hb dX11_orders_66 ?_
  exact wX11_orders_s67 C n v1 ((((v2 + ((st.1 135 v1.toNatClampNeg).toInt64)) - 1) / ((st.1 135 v1.toNatClampNeg).toInt64)) * ((st.1 135 v1.toNatClampNeg).toInt64)) st res hf H locs ls (lv_sub hl [0, 1] rfl) hP hS
def fX11_orders_s36 (n : Nat)   (v1 : Int32) (st : St) : Option (Unit × St) := fX11_orders_s67 n v1 0 st
set_option maxHeartbeats 4000000 in
set_option maxRecDepth 100000 in
theorem wX11_orders_s36 (C : Cx p s m args meth c cX11_orders 4 wsL_law RX11 none D G ad) (n : Nat)   (v1 : Int32)   (st : St) (res : (Unit × St))  (hf : fX11_orders_s36 n   v1 st = some res) : At p l e (rmK 4) s m args below meth c D G ad (MQV D G ad below args s res) 4 st [(0, .ref (ad 130)), (1, .int v1)] 36 [] := by
  obtain ⟨hx, hb, hml, hown, hts, hr, hlk, hK, had, hSt⟩ := id C
  intro H locs ls hl hP hS
  unfold fX11_orders_s36 at hf
  refine lv_lconst (v := 0) hx hb dX11_orders_36 (by decide) ?_
  refine lv_goto (tgt := 67) hx hb dX11_orders_37 (by decide) ?_
  exact wX11_orders_s67 C n v1 0 st res hf H locs ls (lv_sub hl [0, 1] rfl) hP hS
def fX11_orders_s29 (n : Nat)   (v1 : Int32) (k0 : Int64) (st : St) : Option (Unit × St) := if 0 ≤ k0 then fX11_orders_s40 n v1 k0 st else fX11_orders_s36 n v1 st
set_option maxHeartbeats 4000000 in
set_option maxRecDepth 100000 in
theorem wX11_orders_s29 (C : Cx p s m args meth c cX11_orders 4 wsL_law RX11 none D G ad) (n : Nat)   (v1 : Int32) (k0 : Int64)   (st : St) (res : (Unit × St))  (hf : fX11_orders_s29 n   v1 k0 st = some res) : At p l e (rmK 4) s m args below meth c D G ad (MQV D G ad below args s res) 4 st [(0, .ref (ad 130)), (1, .int v1)] 29 [.long k0] := by
  obtain ⟨hx, hb, hml, hown, hts, hr, hlk, hK, had, hSt⟩ := id C
  intro H locs ls hl hP hS
  unfold fX11_orders_s29 at hf
  refine lv_lstore_n (lv' := [(2, .long k0), (0, .ref (ad 130)), (1, .int v1)]) hx hb dX11_orders_29 rfl hl (by decide) rfl (fun ls hl => ?_)
  refine lv_lload_n hx hb dX11_orders_30 rfl (lv_at hl 0 rfl) ?_
  refine lv_lconst (v := 0) hx hb dX11_orders_31 (by decide) ?_
  refine g_lcmp_ge (tgt := 40) hx hb dX11_orders_32 dX11_orders_33 (by decide) (fun q => ?_) (fun q => ?_)
  · exact wX11_orders_s40 C n v1 k0 st res (it hf q) H locs ls (lv_sub hl [1, 2, 0] rfl) hP hS
  · exact wX11_orders_s36 C n v1 st res (ie hf q) H locs ls (lv_sub hl [1, 2] rfl) hP hS
def fX11_orders_s14 (n : Nat)   (v1 : Int32) (st : St) : Option (Unit × St) := if inb v1 8 = true then ((fX11_worthOf n (st.1 139 v1.toNatClampNeg) v1 (st.1 130 12) st).bind (fun q => fX11_orders_s29 n v1 q.1 q.2)) else none
set_option maxHeartbeats 4000000 in
set_option maxRecDepth 100000 in
theorem wX11_orders_s14 (C : Cx p s m args meth c cX11_orders 4 wsL_law RX11 none D G ad) (n : Nat)   (v1 : Int32)   (st : St) (res : (Unit × St))  (hf : fX11_orders_s14 n   v1 st = some res) : At p l e (rmK 4) s m args below meth c D G ad (MQV D G ad below args s res) 4 st [(0, .ref (ad 130)), (1, .int v1)] 14 [] := by
  obtain ⟨hx, hb, hml, hown, hts, hr, hlk, hK, had, hSt⟩ := id C
  intro H locs ls hl hP hS
  unfold fX11_orders_s14 at hf
  refine lv_aload_n hx hb dX11_orders_14 rfl (lv_at hl 0 rfl) ?_
  refine lv_aload_n hx hb dX11_orders_15 rfl (lv_at hl 0 rfl) ?_
  refine g_getR hx hb hts inlX11 hown hK hP 130 ct_130 rfl 9 (by decide) (hts _ wm_7_10) rfl dX11_orders_16 ?_
  refine lv_iload_n hx hb dX11_orders_19 rfl (lv_at hl 1 rfl) ?_
  obtain ⟨g1, hf⟩ := gd hf
  refine g_iald hx hb hK hP 139 ct_139 g1 dX11_orders_20 ?_
  refine lv_iload_n hx hb dX11_orders_21 rfl (lv_at hl 1 rfl) ?_
  refine lv_aload_n hx hb dX11_orders_22 rfl (lv_at hl 0 rfl) ?_
  refine g_getI hx hb hts inlX11 hown hK hP 130 ct_130 rfl 12 (by decide) (hts _ wm_10_15) rfl dX11_orders_23 ?_
  obtain ⟨q, hq, hf⟩ := bd hf
  refine gcV_j (k := 3) (o := 130) (As := [.int (st.1 139 v1.toNatClampNeg), .int v1, .int (st.1 130 12)]) (rest := []) hx hb hml hown hts hK hSt hP hS hl.1 (goodV wm_23_11 wm_23_12 wm_23_13 wm_1_5 wm_23_14) okX11_worthOf ct_130 rfl rfl (Nat.le_of_ble_eq_true rfl) (Nat.le_of_ble_eq_true rfl) rfl rfl (Nat.le_of_ble_eq_true rfl) dX11_orders_26 (kX11_worthOf l D G ad had n  (st.1 139 v1.toNatClampNeg) v1 (st.1 130 12) st q hq) (fun H locs hP hS => ?_)
  exact wX11_orders_s29 C n v1 q.1 q.2 res hf H locs ls (lv_sub hl [0, 1] rfl) hP hS
def fX11_orders_s10 (n : Nat)   (v1 : Int32) (st : St) : Option (Unit × St) := fX11_orders_s29 n v1 0 st
set_option maxHeartbeats 4000000 in
set_option maxRecDepth 100000 in
theorem wX11_orders_s10 (C : Cx p s m args meth c cX11_orders 4 wsL_law RX11 none D G ad) (n : Nat)   (v1 : Int32)   (st : St) (res : (Unit × St))  (hf : fX11_orders_s10 n   v1 st = some res) : At p l e (rmK 4) s m args below meth c D G ad (MQV D G ad below args s res) 4 st [(0, .ref (ad 130)), (1, .int v1)] 10 [] := by
  obtain ⟨hx, hb, hml, hown, hts, hr, hlk, hK, had, hSt⟩ := id C
  intro H locs ls hl hP hS
  unfold fX11_orders_s10 at hf
  refine lv_lconst (v := 0) hx hb dX11_orders_10 (by decide) ?_
  refine lv_goto (tgt := 29) hx hb dX11_orders_11 (by decide) ?_
  exact wX11_orders_s29 C n v1 0 st res hf H locs ls (lv_sub hl [0, 1] rfl) hP hS
def fX11_orders_s0 (n : Nat)   (v1 : Int32) (st : St) : Option (Unit × St) := if inb v1 8 = true then (if (st.1 139 v1.toNatClampNeg) = (-1) then fX11_orders_s10 n v1 st else fX11_orders_s14 n v1 st) else none
set_option maxHeartbeats 4000000 in
set_option maxRecDepth 100000 in
theorem wX11_orders_s0 (C : Cx p s m args meth c cX11_orders 4 wsL_law RX11 none D G ad) (n : Nat)   (v1 : Int32)   (st : St) (res : (Unit × St))  (hf : fX11_orders_s0 n   v1 st = some res) : At p l e (rmK 4) s m args below meth c D G ad (MQV D G ad below args s res) 4 st [(0, .ref (ad 130)), (1, .int v1)] 0 [] := by
  obtain ⟨hx, hb, hml, hown, hts, hr, hlk, hK, had, hSt⟩ := id C
  intro H locs ls hl hP hS
  unfold fX11_orders_s0 at hf
  refine lv_aload_n hx hb dX11_orders_0 rfl (lv_at hl 0 rfl) ?_
  refine g_getR hx hb hts inlX11 hown hK hP 130 ct_130 rfl 9 (by decide) (hts _ wm_7_10) rfl dX11_orders_1 ?_
  refine lv_iload_n hx hb dX11_orders_4 rfl (lv_at hl 1 rfl) ?_
  obtain ⟨g1, hf⟩ := gd hf
  refine g_iald hx hb hK hP 139 ct_139 g1 dX11_orders_5 ?_
  refine lv_iconst (v := (-1)) hx hb dX11_orders_6 (by decide) ?_
  refine lv_icmp_ne (tgt := 14) hx hb dX11_orders_7 (by decide) (fun q => ?_) (fun q => ?_)
  · exact wX11_orders_s14 C n v1 st res (ie hf q) H locs ls (lv_sub hl [0, 1] rfl) hP hS
  · exact wX11_orders_s10 C n v1 st res (it hf q) H locs ls (lv_sub hl [0, 1] rfl) hP hS
def fX11_orders (n : Nat)  (a1 : Int32) (st : St) : Option (Unit × St) := fX11_orders_s0 n a1 st
theorem okX11_orders : okY yX11_orders RX11 1 := by unfold okY; decide +kernel
end
set_option maxRecDepth 100000 in
theorem kX11_orders (l : Launch) (D : va_G) (G : G3) (ad : Nat → Nat) (had : Adr ad) (n : Nat)   (a1 : Int32) (st : St) (res : (Unit × St)) (hf : fX11_orders n  a1 st = some res) {sz : Nat} : CtV l yX11_orders (wsU yX11_orders cX11_orders 4 none) (rmK 4) D G ad sz [.ref (ad 130), .int a1] st res := by
  refine Met.ofW (cc := cX11_orders) (maxL := 4) (ret := none) (by decide) rfl ?_
  intro p e s m args below meth c s₁ B hml hv
  obtain ⟨rfl, hsz, hP, hK, hSt⟩ := hv
  have hts := atoms_spec (ws := wsU yX11_orders cX11_orders 4 none) B.pre
  have C : Cx p s m _ meth c cX11_orders 4 wsL_law RX11 none D G ad := ⟨B.exec, B.bytes, hml, findClass_of_methodNamed B.named, fun w h => hts w (List.mem_cons_of_mem _ h), B.returns, B.notSynchronized, hK, had, hSt⟩
  subst hsz
  have hl := lv_entry ([.ref (ad 130), .int a1]) (n := 4) (Nat.le_of_ble_eq_true rfl)
  rw [lg_entry_eq]
  generalize (lg_sl ([.ref (ad 130), .int a1]) ++ List.replicate (4 - (lg_sl ([.ref (ad 130), .int a1])).length) Slot.unset).toArray = ls at hl ⊢
  exact wX11_orders_s0 C n  a1   st res hf s.heap [] ls (lv_sub hl [0, 1] rfl) hP va_S.rf
section
variable {p : Program} {l : Launch} {e : Env} {s : State} {m : MethodId} {args : Array Value} {below : List Frame} {meth : Method} {c : Code} {D : va_G} {G : G3} {ad : Nat → Nat}
def fX11_goesBy_s440 (n : Nat)   (v1 : Int64) (st : St) : Option (Int32 × St) := some (v1.toInt32, st)
set_option maxHeartbeats 4000000 in
set_option maxRecDepth 100000 in
theorem wX11_goesBy_s440 (C : Cx p s m args meth c cX11_goesBy 5 wsL_law RX11 (some .int) D G ad) (n : Nat)   (v1 : Int64)   (st : St) (res : (Int32 × St))  (hf : fX11_goesBy_s440 n   v1 st = some res) : At p l e (rmK 5) s m args below meth c D G ad (MQI D G ad below args s res) 5 st [(1, .long v1)] 440 [] := by
  obtain ⟨hx, hb, hml, hown, hts, hr, hlk, hK, had, hSt⟩ := id C
  intro H locs ls hl hP hS
  unfold fX11_goesBy_s440 at hf
  refine lv_lload_n hx hb dX11_goesBy_440 rfl (lv_at hl 0 rfl) ?_
  refine lv_l2i hx hb dX11_goesBy_441 rfl ?_
  exact g_iret hx hb hr hlk hP hS dX11_goesBy_442 hf
def fX11_goesBy_s430 (n : Nat)   (v1 : Int64) (st : St) : Option (Int32 × St) := fX11_goesBy_s440 n v1 (setJ st 130 14 ((st.2 130 14) + v1))
set_option maxHeartbeats 4000000 in
set_option maxRecDepth 100000 in
theorem wX11_goesBy_s430 (C : Cx p s m args meth c cX11_goesBy 5 wsL_law RX11 (some .int) D G ad) (n : Nat)   (v1 : Int64)   (st : St) (res : (Int32 × St))  (hf : fX11_goesBy_s430 n   v1 st = some res) : At p l e (rmK 5) s m args below meth c D G ad (MQI D G ad below args s res) 5 st [(0, .ref (ad 130)), (1, .long v1)] 430 [] := by
  obtain ⟨hx, hb, hml, hown, hts, hr, hlk, hK, had, hSt⟩ := id C
  intro H locs ls hl hP hS
  unfold fX11_goesBy_s430 at hf
  refine lv_aload_n hx hb dX11_goesBy_430 rfl (lv_at hl 0 rfl) ?_
  refine lv_dup hx hb dX11_goesBy_431 rfl ?_
  refine g_getJ hx hb hts inlX11 hown hK hP 130 ct_130 rfl 14 (by decide) (hts _ wm_16_15) rfl dX11_goesBy_432 ?_
  refine lv_lload_n hx hb dX11_goesBy_435 rfl (lv_at hl 1 rfl) ?_
  refine lv_ladd hx hb dX11_goesBy_436 ?_
  refine g_putJ hx hb hts inlX11 tyX11_ok nmX11 hown hK had hP hS 130 ct_130 rfl 14 (by decide) (hts _ wm_16_15) rfl rfl rfl dX11_goesBy_437 (fun H locs hP hS => ?_)
  exact wX11_goesBy_s440 C n v1 (setJ st 130 14 ((st.2 130 14) + v1)) res hf H locs ls (lv_sub hl [1] rfl) hP hS
def fX11_goesBy_s420 (n : Nat)   (v1 : Int64) (st : St) : Option (Int32 × St) := fX11_goesBy_s430 n v1 (setI st 130 12 ((st.1 130 12) + 1))
set_option maxHeartbeats 4000000 in
set_option maxRecDepth 100000 in
theorem wX11_goesBy_s420 (C : Cx p s m args meth c cX11_goesBy 5 wsL_law RX11 (some .int) D G ad) (n : Nat)   (v1 : Int64)   (st : St) (res : (Int32 × St))  (hf : fX11_goesBy_s420 n   v1 st = some res) : At p l e (rmK 5) s m args below meth c D G ad (MQI D G ad below args s res) 5 st [(0, .ref (ad 130)), (1, .long v1)] 420 [] := by
  obtain ⟨hx, hb, hml, hown, hts, hr, hlk, hK, had, hSt⟩ := id C
  intro H locs ls hl hP hS
  unfold fX11_goesBy_s420 at hf
  refine lv_aload_n hx hb dX11_goesBy_420 rfl (lv_at hl 0 rfl) ?_
  refine lv_dup hx hb dX11_goesBy_421 rfl ?_
  refine g_getI hx hb hts inlX11 hown hK hP 130 ct_130 rfl 12 (by decide) (hts _ wm_10_15) rfl dX11_goesBy_422 ?_
  refine lv_iconst (v := 1) hx hb dX11_goesBy_425 (by decide) ?_
  refine lv_iadd hx hb dX11_goesBy_426 ?_
  refine g_putI hx hb hts inlX11 tyX11_ok nmX11 hown hK had hP hS 130 ct_130 rfl 12 (by decide) (hts _ wm_10_15) rfl rfl rfl rfl rfl dX11_goesBy_427 (fun H locs hP hS => ?_)
  exact wX11_goesBy_s430 C n v1 (setI st 130 12 ((st.1 130 12) + 1)) res hf H locs ls (lv_sub hl [0, 1] rfl) hP hS
def fX11_goesBy_s414 (n : Nat) (K362 : Int64 → Int32 → St → Option (Int32 × St))  (v1 : Int64) (v3 : Int32) (st : St) : Option (Int32 × St) := K362 v1 (v3 + 1) st
set_option maxHeartbeats 4000000 in
set_option maxRecDepth 100000 in
theorem wX11_goesBy_s414 (C : Cx p s m args meth c cX11_goesBy 5 wsL_law RX11 (some .int) D G ad) (n : Nat) (K362 : Int64 → Int32 → St → Option (Int32 × St))  (v1 : Int64) (v3 : Int32)   (st : St) (res : (Int32 × St)) (hK362 : ∀ (v1 : Int64) (v3 : Int32) (st : St), K362 v1 v3 st = some res → At p l e (rmK 5) s m args below meth c D G ad (MQI D G ad below args s res) 5 st [(0, .ref (ad 130)), (1, .long v1), (3, .int v3)] 362 []) (hf : fX11_goesBy_s414 n K362  v1 v3 st = some res) : At p l e (rmK 5) s m args below meth c D G ad (MQI D G ad below args s res) 5 st [(0, .ref (ad 130)), (1, .long v1), (3, .int v3)] 414 [] := by
  obtain ⟨hx, hb, hml, hown, hts, hr, hlk, hK, had, hSt⟩ := id C
  intro H locs ls hl hP hS
  unfold fX11_goesBy_s414 at hf
  refine lv_iinc (v := v3 + 1) (lv' := [(3, .int (v3 + 1)), (0, .ref (ad 130)), (1, .long v1)]) hx hb dX11_goesBy_414 hl (k := 2) rfl rfl (by decide) rfl (fun ls hl => ?_)
  refine lv_goto (tgt := 362) hx hb dX11_goesBy_417 (by decide) ?_
  exact hK362 v1 (v3 + 1)  st hf H locs ls (lv_sub hl [1, 2, 0] rfl) hP hS
def fX11_goesBy_s407 (n : Nat) (K362 : Int64 → Int32 → St → Option (Int32 × St))  (v1 : Int64) (v3 : Int32) (st : St) : Option (Int32 × St) := if inb v3 8 = true then (fX11_goesBy_s414 n K362 v1 v3 (setI st 140 v3.toNatClampNeg 0)) else none
set_option maxHeartbeats 4000000 in
set_option maxRecDepth 100000 in
theorem wX11_goesBy_s407 (C : Cx p s m args meth c cX11_goesBy 5 wsL_law RX11 (some .int) D G ad) (n : Nat) (K362 : Int64 → Int32 → St → Option (Int32 × St))  (v1 : Int64) (v3 : Int32)   (st : St) (res : (Int32 × St)) (hK362 : ∀ (v1 : Int64) (v3 : Int32) (st : St), K362 v1 v3 st = some res → At p l e (rmK 5) s m args below meth c D G ad (MQI D G ad below args s res) 5 st [(0, .ref (ad 130)), (1, .long v1), (3, .int v3)] 362 []) (hf : fX11_goesBy_s407 n K362  v1 v3 st = some res) : At p l e (rmK 5) s m args below meth c D G ad (MQI D G ad below args s res) 5 st [(0, .ref (ad 130)), (1, .long v1), (3, .int v3)] 407 [] := by
  obtain ⟨hx, hb, hml, hown, hts, hr, hlk, hK, had, hSt⟩ := id C
  intro H locs ls hl hP hS
  unfold fX11_goesBy_s407 at hf
  refine lv_aload_n hx hb dX11_goesBy_407 rfl (lv_at hl 0 rfl) ?_
  refine g_getR hx hb hts inlX11 hown hK hP 130 ct_130 rfl 15 (by decide) (hts _ wm_7_11) rfl dX11_goesBy_408 ?_
  refine lv_iload_n hx hb dX11_goesBy_411 rfl (lv_at hl 2 rfl) ?_
  refine lv_iconst (v := 0) hx hb dX11_goesBy_412 (by decide) ?_
  obtain ⟨g1, hf⟩ := gd hf
  refine g_iast hx hb hK had hP hS 140 ct_140 g1 dX11_goesBy_413 (fun H locs hP hS => ?_)
  exact wX11_goesBy_s414 C n K362 v1 v3 (setI st 140 v3.toNatClampNeg 0) res hK362 hf H locs ls (lv_sub hl [0, 1, 2] rfl) hP hS
def fX11_goesBy_s403 (n : Nat) (K362 : Int64 → Int32 → St → Option (Int32 × St))  (v1 : Int64) (v3 : Int32) (k1 : Int32) (k2 : Int64) (k3 : Int64) (k4 : Int64) (k5 : Int64) (st : St) : Option (Int32 × St) := if inb k1 8 = true then (fX11_goesBy_s407 n K362 v1 v3 (setJ st 145 k1.toNatClampNeg (k2 + (k3 + (k4 * k5))))) else none
set_option maxHeartbeats 4000000 in
set_option maxRecDepth 100000 in
theorem wX11_goesBy_s403 (C : Cx p s m args meth c cX11_goesBy 5 wsL_law RX11 (some .int) D G ad) (n : Nat) (K362 : Int64 → Int32 → St → Option (Int32 × St))  (v1 : Int64) (v3 : Int32) (k1 : Int32) (k2 : Int64) (k3 : Int64) (k4 : Int64) (k5 : Int64)   (st : St) (res : (Int32 × St)) (hK362 : ∀ (v1 : Int64) (v3 : Int32) (st : St), K362 v1 v3 st = some res → At p l e (rmK 5) s m args below meth c D G ad (MQI D G ad below args s res) 5 st [(0, .ref (ad 130)), (1, .long v1), (3, .int v3)] 362 []) (hf : fX11_goesBy_s403 n K362  v1 v3 k1 k2 k3 k4 k5 st = some res) : At p l e (rmK 5) s m args below meth c D G ad (MQI D G ad below args s res) 5 st [(0, .ref (ad 130)), (1, .long v1), (3, .int v3)] 403 [.long k5, .long k4, .long k3, .long k2, .int k1, .ref (ad 145)] := by
  obtain ⟨hx, hb, hml, hown, hts, hr, hlk, hK, had, hSt⟩ := id C
  intro H locs ls hl hP hS
  unfold fX11_goesBy_s403 at hf
  refine lv_lmul hx hb dX11_goesBy_403 ?_
  refine lv_ladd hx hb dX11_goesBy_404 ?_
  refine lv_ladd hx hb dX11_goesBy_405 ?_
  obtain ⟨g1, hf⟩ := gd hf
  refine g_last hx hb hK had hP hS 145 ct_145 g1 dX11_goesBy_406 (fun H locs hP hS => ?_)
  exact wX11_goesBy_s407 C n K362 v1 v3 (setJ st 145 k1.toNatClampNeg (k2 + (k3 + (k4 * k5)))) res hK362 hf H locs ls (lv_sub hl [0, 1, 2] rfl) hP hS
def fX11_goesBy_s370 (n : Nat) (K362 : Int64 → Int32 → St → Option (Int32 × St))  (v1 : Int64) (v3 : Int32) (st : St) : Option (Int32 × St) := if inb v3 8 = true then (if inb v3 8 = true then (if inb v3 8 = true then (if inb v3 8 = true then ((fX11_owes n v3 st).bind (fun q => fX11_goesBy_s403 n K362 v1 v3 v3 (st.2 145 v3.toNatClampNeg) (((st.1 137 v3.toNatClampNeg).toInt64) * (st.2 141 v3.toNatClampNeg)) ((st.1 138 v3.toNatClampNeg).toInt64) q.1 q.2)) else none) else none) else none) else none
set_option maxHeartbeats 4000000 in
set_option maxRecDepth 100000 in
theorem wX11_goesBy_s370 (C : Cx p s m args meth c cX11_goesBy 5 wsL_law RX11 (some .int) D G ad) (n : Nat) (K362 : Int64 → Int32 → St → Option (Int32 × St))  (v1 : Int64) (v3 : Int32)   (st : St) (res : (Int32 × St)) (hK362 : ∀ (v1 : Int64) (v3 : Int32) (st : St), K362 v1 v3 st = some res → At p l e (rmK 5) s m args below meth c D G ad (MQI D G ad below args s res) 5 st [(0, .ref (ad 130)), (1, .long v1), (3, .int v3)] 362 []) (hf : fX11_goesBy_s370 n K362  v1 v3 st = some res) : At p l e (rmK 5) s m args below meth c D G ad (MQI D G ad below args s res) 5 st [(0, .ref (ad 130)), (1, .long v1), (3, .int v3)] 370 [] := by
  obtain ⟨hx, hb, hml, hown, hts, hr, hlk, hK, had, hSt⟩ := id C
  intro H locs ls hl hP hS
  unfold fX11_goesBy_s370 at hf
  refine lv_aload_n hx hb dX11_goesBy_370 rfl (lv_at hl 0 rfl) ?_
  refine g_getR hx hb hts inlX11 hown hK hP 130 ct_130 rfl 20 (by decide) (hts _ wm_7_16) rfl dX11_goesBy_371 ?_
  refine lv_iload_n hx hb dX11_goesBy_374 rfl (lv_at hl 2 rfl) ?_
  refine lv_dup2_11 hx hb dX11_goesBy_375 rfl rfl ?_
  obtain ⟨g1, hf⟩ := gd hf
  refine g_lald hx hb hK hP 145 ct_145 g1 dX11_goesBy_376 ?_
  refine lv_aload_n hx hb dX11_goesBy_377 rfl (lv_at hl 0 rfl) ?_
  refine g_getR hx hb hts inlX11 hown hK hP 130 ct_130 rfl 7 (by decide) (hts _ wm_7_8) rfl dX11_goesBy_378 ?_
  refine lv_iload_n hx hb dX11_goesBy_381 rfl (lv_at hl 2 rfl) ?_
  obtain ⟨g2, hf⟩ := gd hf
  refine g_iald hx hb hK hP 137 ct_137 g2 dX11_goesBy_382 ?_
  refine lv_i2l hx hb dX11_goesBy_383 rfl ?_
  refine lv_aload_n hx hb dX11_goesBy_384 rfl (lv_at hl 0 rfl) ?_
  refine g_getR hx hb hts inlX11 hown hK hP 130 ct_130 rfl 16 (by decide) (hts _ wm_7_12) rfl dX11_goesBy_385 ?_
  refine lv_iload_n hx hb dX11_goesBy_388 rfl (lv_at hl 2 rfl) ?_
  obtain ⟨g3, hf⟩ := gd hf
  refine g_lald hx hb hK hP 141 ct_141 g3 dX11_goesBy_389 ?_
  refine lv_lmul hx hb dX11_goesBy_390 ?_
  refine lv_aload_n hx hb dX11_goesBy_391 rfl (lv_at hl 0 rfl) ?_
  refine g_getR hx hb hts inlX11 hown hK hP 130 ct_130 rfl 8 (by decide) (hts _ wm_7_9) rfl dX11_goesBy_392 ?_
  refine lv_iload_n hx hb dX11_goesBy_395 rfl (lv_at hl 2 rfl) ?_
  obtain ⟨g4, hf⟩ := gd hf
  refine g_iald hx hb hK hP 138 ct_138 g4 dX11_goesBy_396 ?_
  refine lv_i2l hx hb dX11_goesBy_397 rfl ?_
  refine lv_aload_n hx hb dX11_goesBy_398 rfl (lv_at hl 0 rfl) ?_
  refine lv_iload_n hx hb dX11_goesBy_399 rfl (lv_at hl 2 rfl) ?_
  obtain ⟨q, hq, hf⟩ := bd hf
  refine gcV_j (k := 0) (o := 130) (As := [.int v3]) (rest := [.long ((st.1 138 v3.toNatClampNeg).toInt64), .long (((st.1 137 v3.toNatClampNeg).toInt64) * (st.2 141 v3.toNatClampNeg)), .long (st.2 145 v3.toNatClampNeg), .int v3, .ref (ad 145)]) hx hb hml hown hts hK hSt hP hS hl.1 (goodV wm_13_18 wm_13_19 wm_13_20 wm_1_5 wm_13_21) okX11_owes ct_130 rfl rfl (Nat.le_of_ble_eq_true rfl) (Nat.le_of_ble_eq_true rfl) rfl rfl (Nat.le_of_ble_eq_true rfl) dX11_goesBy_400 (kX11_owes l D G ad had n  v3 st q hq) (fun H locs hP hS => ?_)
  exact wX11_goesBy_s403 C n K362 v1 v3 v3 (st.2 145 v3.toNatClampNeg) (((st.1 137 v3.toNatClampNeg).toInt64) * (st.2 141 v3.toNatClampNeg)) ((st.1 138 v3.toNatClampNeg).toInt64) q.1 q.2 res hK362 hf H locs ls (lv_sub hl [0, 1, 2] rfl) hP hS
def fX11_goesBy_s362 (n : Nat) (K362 : Int64 → Int32 → St → Option (Int32 × St))  (v1 : Int64) (v3 : Int32) (st : St) : Option (Int32 × St) := if (st.1 130 0) ≤ v3 then fX11_goesBy_s420 n v1 st else fX11_goesBy_s370 n K362 v1 v3 st
set_option maxHeartbeats 4000000 in
set_option maxRecDepth 100000 in
theorem wX11_goesBy_s362 (C : Cx p s m args meth c cX11_goesBy 5 wsL_law RX11 (some .int) D G ad) (n : Nat) (K362 : Int64 → Int32 → St → Option (Int32 × St))  (v1 : Int64) (v3 : Int32)   (st : St) (res : (Int32 × St)) (hK362 : ∀ (v1 : Int64) (v3 : Int32) (st : St), K362 v1 v3 st = some res → At p l e (rmK 5) s m args below meth c D G ad (MQI D G ad below args s res) 5 st [(0, .ref (ad 130)), (1, .long v1), (3, .int v3)] 362 []) (hf : fX11_goesBy_s362 n K362  v1 v3 st = some res) : At p l e (rmK 5) s m args below meth c D G ad (MQI D G ad below args s res) 5 st [(0, .ref (ad 130)), (1, .long v1), (3, .int v3)] 362 [] := by
  obtain ⟨hx, hb, hml, hown, hts, hr, hlk, hK, had, hSt⟩ := id C
  intro H locs ls hl hP hS
  unfold fX11_goesBy_s362 at hf
  refine lv_iload_n hx hb dX11_goesBy_362 rfl (lv_at hl 2 rfl) ?_
  refine lv_aload_n hx hb dX11_goesBy_363 rfl (lv_at hl 0 rfl) ?_
  refine g_getI hx hb hts inlX11 hown hK hP 130 ct_130 rfl 0 (by decide) (hts _ wm_10_11) rfl dX11_goesBy_364 ?_
  refine lv_icmp_ge (tgt := 420) hx hb dX11_goesBy_367 (by decide) (fun q => ?_) (fun q => ?_)
  · exact wX11_goesBy_s420 C n v1 st res (it hf q) H locs ls (lv_sub hl [0, 1] rfl) hP hS
  · exact wX11_goesBy_s370 C n K362 v1 v3 st res hK362 (ie hf q) H locs ls (lv_sub hl [0, 1, 2] rfl) hP hS
def fX11_goesBy_L362 (n : Nat)   : Nat → Int64 → Int32 → St → Option (Int32 × St)
  | 0, _, _, _ => none
  | k + 1, v1, v3, st => fX11_goesBy_s362 n (fX11_goesBy_L362 n k)  v1 v3 st
theorem wX11_goesBy_L362 (C : Cx p s m args meth c cX11_goesBy 5 wsL_law RX11 (some .int) D G ad) (n : Nat)    (res : (Int32 × St))  : ∀ (k : Nat) (v1 : Int64) (v3 : Int32)  (st : St), fX11_goesBy_L362 n k v1 v3 st = some res → At p l e (rmK 5) s m args below meth c D G ad (MQI D G ad below args s res) 5 st [(0, .ref (ad 130)), (1, .long v1), (3, .int v3)] 362 [] := by
  intro k
  induction k with
  | zero => intro v1 v3  st h; exact absurd h (by intro q; cases q)
  | succ k ih => intro v1 v3  st h; exact wX11_goesBy_s362 C n (fX11_goesBy_L362 n k)  v1 v3   st res ih h
def fX11_goesBy_s360 (n : Nat)   (v1 : Int64) (st : St) : Option (Int32 × St) := fX11_goesBy_L362 n n v1 0 st
set_option maxHeartbeats 4000000 in
set_option maxRecDepth 100000 in
theorem wX11_goesBy_s360 (C : Cx p s m args meth c cX11_goesBy 5 wsL_law RX11 (some .int) D G ad) (n : Nat)   (v1 : Int64)   (st : St) (res : (Int32 × St))  (hf : fX11_goesBy_s360 n   v1 st = some res) : At p l e (rmK 5) s m args below meth c D G ad (MQI D G ad below args s res) 5 st [(0, .ref (ad 130)), (1, .long v1)] 360 [] := by
  obtain ⟨hx, hb, hml, hown, hts, hr, hlk, hK, had, hSt⟩ := id C
  intro H locs ls hl hP hS
  unfold fX11_goesBy_s360 at hf
  refine lv_iconst (v := 0) hx hb dX11_goesBy_360 (by decide) ?_
  refine lv_istore_n (lv' := [(3, .int 0), (0, .ref (ad 130)), (1, .long v1)]) hx hb dX11_goesBy_361 rfl hl (by decide) rfl (fun ls hl => ?_)
  exact wX11_goesBy_L362 C n res n v1 0 st hf H locs ls (lv_sub hl [1, 2, 0] rfl) hP hS
def fX11_goesBy_s354 (n : Nat) (K295 : Int64 → Int32 → St → Option (Int32 × St))  (v1 : Int64) (v3 : Int32) (st : St) : Option (Int32 × St) := K295 v1 (v3 + 1) st
set_option maxHeartbeats 4000000 in
set_option maxRecDepth 100000 in
theorem wX11_goesBy_s354 (C : Cx p s m args meth c cX11_goesBy 5 wsL_law RX11 (some .int) D G ad) (n : Nat) (K295 : Int64 → Int32 → St → Option (Int32 × St))  (v1 : Int64) (v3 : Int32)   (st : St) (res : (Int32 × St)) (hK295 : ∀ (v1 : Int64) (v3 : Int32) (st : St), K295 v1 v3 st = some res → At p l e (rmK 5) s m args below meth c D G ad (MQI D G ad below args s res) 5 st [(0, .ref (ad 130)), (1, .long v1), (3, .int v3)] 295 []) (hf : fX11_goesBy_s354 n K295  v1 v3 st = some res) : At p l e (rmK 5) s m args below meth c D G ad (MQI D G ad below args s res) 5 st [(0, .ref (ad 130)), (1, .long v1), (3, .int v3)] 354 [] := by
  obtain ⟨hx, hb, hml, hown, hts, hr, hlk, hK, had, hSt⟩ := id C
  intro H locs ls hl hP hS
  unfold fX11_goesBy_s354 at hf
  refine lv_iinc (v := v3 + 1) (lv' := [(3, .int (v3 + 1)), (0, .ref (ad 130)), (1, .long v1)]) hx hb dX11_goesBy_354 hl (k := 2) rfl rfl (by decide) rfl (fun ls hl => ?_)
  refine lv_goto (tgt := 295) hx hb dX11_goesBy_357 (by decide) ?_
  exact hK295 v1 (v3 + 1)  st hf H locs ls (lv_sub hl [1, 2, 0] rfl) hP hS
def fX11_goesBy_s331 (n : Nat) (K295 : Int64 → Int32 → St → Option (Int32 × St))  (v1 : Int64) (v3 : Int32) (st : St) : Option (Int32 × St) := if inb v3 8 = true then (if inb ((40 * v3) + ((st.1 130 12) - (st.1 130 12) / 40 * 40)) 320 = true then (fX11_goesBy_s354 n K295 v1 v3 (setJ st 150 ((40 * v3) + ((st.1 130 12) - (st.1 130 12) / 40 * 40)).toNatClampNeg (st.2 148 v3.toNatClampNeg))) else none) else none
set_option maxHeartbeats 4000000 in
set_option maxRecDepth 100000 in
theorem wX11_goesBy_s331 (C : Cx p s m args meth c cX11_goesBy 5 wsL_law RX11 (some .int) D G ad) (n : Nat) (K295 : Int64 → Int32 → St → Option (Int32 × St))  (v1 : Int64) (v3 : Int32)   (st : St) (res : (Int32 × St)) (hK295 : ∀ (v1 : Int64) (v3 : Int32) (st : St), K295 v1 v3 st = some res → At p l e (rmK 5) s m args below meth c D G ad (MQI D G ad below args s res) 5 st [(0, .ref (ad 130)), (1, .long v1), (3, .int v3)] 295 []) (hf : fX11_goesBy_s331 n K295  v1 v3 st = some res) : At p l e (rmK 5) s m args below meth c D G ad (MQI D G ad below args s res) 5 st [(0, .ref (ad 130)), (1, .long v1), (3, .int v3)] 331 [] := by
  obtain ⟨hx, hb, hml, hown, hts, hr, hlk, hK, had, hSt⟩ := id C
  intro H locs ls hl hP hS
  unfold fX11_goesBy_s331 at hf
  refine lv_aload_n hx hb dX11_goesBy_331 rfl (lv_at hl 0 rfl) ?_
  refine g_getR hx hb hts inlX11 hown hK hP 130 ct_130 rfl 25 (by decide) (hts _ wm_7_21) rfl dX11_goesBy_332 ?_
  refine lv_bipush (v := 40) hx hb dX11_goesBy_335 (by decide) ?_
  refine lv_iload_n hx hb dX11_goesBy_337 rfl (lv_at hl 2 rfl) ?_
  refine lv_imul hx hb dX11_goesBy_338 ?_
  refine lv_aload_n hx hb dX11_goesBy_339 rfl (lv_at hl 0 rfl) ?_
  refine g_getI hx hb hts inlX11 hown hK hP 130 ct_130 rfl 12 (by decide) (hts _ wm_10_15) rfl dX11_goesBy_340 ?_
  refine lv_bipush (v := 40) hx hb dX11_goesBy_343 (by decide) ?_
  refine lv_irem hx hb dX11_goesBy_345 (by decide) ?_
  refine lv_iadd hx hb dX11_goesBy_346 ?_
  refine lv_aload_n hx hb dX11_goesBy_347 rfl (lv_at hl 0 rfl) ?_
  refine g_getR hx hb hts inlX11 hown hK hP 130 ct_130 rfl 23 (by decide) (hts _ wm_7_19) rfl dX11_goesBy_348 ?_
  refine lv_iload_n hx hb dX11_goesBy_351 rfl (lv_at hl 2 rfl) ?_
  obtain ⟨g1, hf⟩ := gd hf
  refine g_lald hx hb hK hP 148 ct_148 g1 dX11_goesBy_352 ?_
  obtain ⟨g2, hf⟩ := gd hf
  refine g_last hx hb hK had hP hS 150 ct_150 g2 dX11_goesBy_353 (fun H locs hP hS => ?_)
  exact wX11_goesBy_s354 C n K295 v1 v3 (setJ st 150 ((40 * v3) + ((st.1 130 12) - (st.1 130 12) / 40 * 40)).toNatClampNeg (st.2 148 v3.toNatClampNeg)) res hK295 hf H locs ls (lv_sub hl [0, 1, 2] rfl) hP hS
def fX11_goesBy_s326 (n : Nat) (K295 : Int64 → Int32 → St → Option (Int32 × St))  (v1 : Int64) (v3 : Int32) (st : St) : Option (Int32 × St) := (fX11_orders n v3 st).bind (fun q => fX11_goesBy_s331 n K295 v1 v3 q.2)
set_option maxHeartbeats 4000000 in
set_option maxRecDepth 100000 in
theorem wX11_goesBy_s326 (C : Cx p s m args meth c cX11_goesBy 5 wsL_law RX11 (some .int) D G ad) (n : Nat) (K295 : Int64 → Int32 → St → Option (Int32 × St))  (v1 : Int64) (v3 : Int32)   (st : St) (res : (Int32 × St)) (hK295 : ∀ (v1 : Int64) (v3 : Int32) (st : St), K295 v1 v3 st = some res → At p l e (rmK 5) s m args below meth c D G ad (MQI D G ad below args s res) 5 st [(0, .ref (ad 130)), (1, .long v1), (3, .int v3)] 295 []) (hf : fX11_goesBy_s326 n K295  v1 v3 st = some res) : At p l e (rmK 5) s m args below meth c D G ad (MQI D G ad below args s res) 5 st [(0, .ref (ad 130)), (1, .long v1), (3, .int v3)] 326 [] := by
  obtain ⟨hx, hb, hml, hown, hts, hr, hlk, hK, had, hSt⟩ := id C
  intro H locs ls hl hP hS
  unfold fX11_goesBy_s326 at hf
  refine lv_aload_n hx hb dX11_goesBy_326 rfl (lv_at hl 0 rfl) ?_
  refine lv_iload_n hx hb dX11_goesBy_327 rfl (lv_at hl 2 rfl) ?_
  obtain ⟨q, hq, hf⟩ := bd hf
  refine gcV_v (k := 4) (o := 130) (As := [.int v3]) (rest := []) hx hb hml hown hts hK hSt hP hS hl.1 (goodV wm_23_7 wm_23_8 wm_23_9 wm_1_5 wm_23_10) okX11_orders ct_130 rfl rfl (Nat.le_of_ble_eq_true rfl) (Nat.le_of_ble_eq_true rfl) rfl rfl (Nat.le_of_ble_eq_true rfl) dX11_goesBy_328 (kX11_orders l D G ad had n  v3 st q hq) (fun H locs hP hS => ?_)
  exact wX11_goesBy_s331 C n K295 v1 v3 q.2 res hK295 hf H locs ls (lv_sub hl [0, 1, 2] rfl) hP hS
def fX11_goesBy_s303 (n : Nat) (K295 : Int64 → Int32 → St → Option (Int32 × St))  (v1 : Int64) (v3 : Int32) (st : St) : Option (Int32 × St) := if inb v3 8 = true then (if inb ((40 * v3) + ((st.1 130 12) - (st.1 130 12) / 40 * 40)) 320 = true then (fX11_goesBy_s326 n K295 v1 v3 (setJ st 149 ((40 * v3) + ((st.1 130 12) - (st.1 130 12) / 40 * 40)).toNatClampNeg (st.2 147 v3.toNatClampNeg))) else none) else none
set_option maxHeartbeats 4000000 in
set_option maxRecDepth 100000 in
theorem wX11_goesBy_s303 (C : Cx p s m args meth c cX11_goesBy 5 wsL_law RX11 (some .int) D G ad) (n : Nat) (K295 : Int64 → Int32 → St → Option (Int32 × St))  (v1 : Int64) (v3 : Int32)   (st : St) (res : (Int32 × St)) (hK295 : ∀ (v1 : Int64) (v3 : Int32) (st : St), K295 v1 v3 st = some res → At p l e (rmK 5) s m args below meth c D G ad (MQI D G ad below args s res) 5 st [(0, .ref (ad 130)), (1, .long v1), (3, .int v3)] 295 []) (hf : fX11_goesBy_s303 n K295  v1 v3 st = some res) : At p l e (rmK 5) s m args below meth c D G ad (MQI D G ad below args s res) 5 st [(0, .ref (ad 130)), (1, .long v1), (3, .int v3)] 303 [] := by
  obtain ⟨hx, hb, hml, hown, hts, hr, hlk, hK, had, hSt⟩ := id C
  intro H locs ls hl hP hS
  unfold fX11_goesBy_s303 at hf
  refine lv_aload_n hx hb dX11_goesBy_303 rfl (lv_at hl 0 rfl) ?_
  refine g_getR hx hb hts inlX11 hown hK hP 130 ct_130 rfl 24 (by decide) (hts _ wm_7_20) rfl dX11_goesBy_304 ?_
  refine lv_bipush (v := 40) hx hb dX11_goesBy_307 (by decide) ?_
  refine lv_iload_n hx hb dX11_goesBy_309 rfl (lv_at hl 2 rfl) ?_
  refine lv_imul hx hb dX11_goesBy_310 ?_
  refine lv_aload_n hx hb dX11_goesBy_311 rfl (lv_at hl 0 rfl) ?_
  refine g_getI hx hb hts inlX11 hown hK hP 130 ct_130 rfl 12 (by decide) (hts _ wm_10_15) rfl dX11_goesBy_312 ?_
  refine lv_bipush (v := 40) hx hb dX11_goesBy_315 (by decide) ?_
  refine lv_irem hx hb dX11_goesBy_317 (by decide) ?_
  refine lv_iadd hx hb dX11_goesBy_318 ?_
  refine lv_aload_n hx hb dX11_goesBy_319 rfl (lv_at hl 0 rfl) ?_
  refine g_getR hx hb hts inlX11 hown hK hP 130 ct_130 rfl 22 (by decide) (hts _ wm_7_18) rfl dX11_goesBy_320 ?_
  refine lv_iload_n hx hb dX11_goesBy_323 rfl (lv_at hl 2 rfl) ?_
  obtain ⟨g1, hf⟩ := gd hf
  refine g_lald hx hb hK hP 147 ct_147 g1 dX11_goesBy_324 ?_
  obtain ⟨g2, hf⟩ := gd hf
  refine g_last hx hb hK had hP hS 149 ct_149 g2 dX11_goesBy_325 (fun H locs hP hS => ?_)
  exact wX11_goesBy_s326 C n K295 v1 v3 (setJ st 149 ((40 * v3) + ((st.1 130 12) - (st.1 130 12) / 40 * 40)).toNatClampNeg (st.2 147 v3.toNatClampNeg)) res hK295 hf H locs ls (lv_sub hl [0, 1, 2] rfl) hP hS
def fX11_goesBy_s295 (n : Nat) (K295 : Int64 → Int32 → St → Option (Int32 × St))  (v1 : Int64) (v3 : Int32) (st : St) : Option (Int32 × St) := if (st.1 130 0) ≤ v3 then fX11_goesBy_s360 n v1 st else fX11_goesBy_s303 n K295 v1 v3 st
set_option maxHeartbeats 4000000 in
set_option maxRecDepth 100000 in
theorem wX11_goesBy_s295 (C : Cx p s m args meth c cX11_goesBy 5 wsL_law RX11 (some .int) D G ad) (n : Nat) (K295 : Int64 → Int32 → St → Option (Int32 × St))  (v1 : Int64) (v3 : Int32)   (st : St) (res : (Int32 × St)) (hK295 : ∀ (v1 : Int64) (v3 : Int32) (st : St), K295 v1 v3 st = some res → At p l e (rmK 5) s m args below meth c D G ad (MQI D G ad below args s res) 5 st [(0, .ref (ad 130)), (1, .long v1), (3, .int v3)] 295 []) (hf : fX11_goesBy_s295 n K295  v1 v3 st = some res) : At p l e (rmK 5) s m args below meth c D G ad (MQI D G ad below args s res) 5 st [(0, .ref (ad 130)), (1, .long v1), (3, .int v3)] 295 [] := by
  obtain ⟨hx, hb, hml, hown, hts, hr, hlk, hK, had, hSt⟩ := id C
  intro H locs ls hl hP hS
  unfold fX11_goesBy_s295 at hf
  refine lv_iload_n hx hb dX11_goesBy_295 rfl (lv_at hl 2 rfl) ?_
  refine lv_aload_n hx hb dX11_goesBy_296 rfl (lv_at hl 0 rfl) ?_
  refine g_getI hx hb hts inlX11 hown hK hP 130 ct_130 rfl 0 (by decide) (hts _ wm_10_11) rfl dX11_goesBy_297 ?_
  refine lv_icmp_ge (tgt := 360) hx hb dX11_goesBy_300 (by decide) (fun q => ?_) (fun q => ?_)
  · exact wX11_goesBy_s360 C n v1 st res (it hf q) H locs ls (lv_sub hl [0, 1] rfl) hP hS
  · exact wX11_goesBy_s303 C n K295 v1 v3 st res hK295 (ie hf q) H locs ls (lv_sub hl [0, 1, 2] rfl) hP hS
def fX11_goesBy_L295 (n : Nat)   : Nat → Int64 → Int32 → St → Option (Int32 × St)
  | 0, _, _, _ => none
  | k + 1, v1, v3, st => fX11_goesBy_s295 n (fX11_goesBy_L295 n k)  v1 v3 st
theorem wX11_goesBy_L295 (C : Cx p s m args meth c cX11_goesBy 5 wsL_law RX11 (some .int) D G ad) (n : Nat)    (res : (Int32 × St))  : ∀ (k : Nat) (v1 : Int64) (v3 : Int32)  (st : St), fX11_goesBy_L295 n k v1 v3 st = some res → At p l e (rmK 5) s m args below meth c D G ad (MQI D G ad below args s res) 5 st [(0, .ref (ad 130)), (1, .long v1), (3, .int v3)] 295 [] := by
  intro k
  induction k with
  | zero => intro v1 v3  st h; exact absurd h (by intro q; cases q)
  | succ k ih => intro v1 v3  st h; exact wX11_goesBy_s295 C n (fX11_goesBy_L295 n k)  v1 v3   st res ih h
def fX11_goesBy_s293 (n : Nat)   (v1 : Int64) (st : St) : Option (Int32 × St) := fX11_goesBy_L295 n n v1 0 st
set_option maxHeartbeats 4000000 in
set_option maxRecDepth 100000 in
theorem wX11_goesBy_s293 (C : Cx p s m args meth c cX11_goesBy 5 wsL_law RX11 (some .int) D G ad) (n : Nat)   (v1 : Int64)   (st : St) (res : (Int32 × St))  (hf : fX11_goesBy_s293 n   v1 st = some res) : At p l e (rmK 5) s m args below meth c D G ad (MQI D G ad below args s res) 5 st [(0, .ref (ad 130)), (1, .long v1)] 293 [] := by
  obtain ⟨hx, hb, hml, hown, hts, hr, hlk, hK, had, hSt⟩ := id C
  intro H locs ls hl hP hS
  unfold fX11_goesBy_s293 at hf
  refine lv_iconst (v := 0) hx hb dX11_goesBy_293 (by decide) ?_
  refine lv_istore_n (lv' := [(3, .int 0), (0, .ref (ad 130)), (1, .long v1)]) hx hb dX11_goesBy_294 rfl hl (by decide) rfl (fun ls hl => ?_)
  exact wX11_goesBy_L295 C n res n v1 0 st hf H locs ls (lv_sub hl [1, 2, 0] rfl) hP hS
def fX11_goesBy_s285 (n : Nat) (K271 : Int64 → Int32 → St → Option (Int32 × St))  (v3 : Int32) (k0 : Int64) (k1 : Int64) (st : St) : Option (Int32 × St) := K271 (k0 + k1) (v3 + 1) st
set_option maxHeartbeats 4000000 in
set_option maxRecDepth 100000 in
theorem wX11_goesBy_s285 (C : Cx p s m args meth c cX11_goesBy 5 wsL_law RX11 (some .int) D G ad) (n : Nat) (K271 : Int64 → Int32 → St → Option (Int32 × St))  (v3 : Int32) (k0 : Int64) (k1 : Int64)   (st : St) (res : (Int32 × St)) (hK271 : ∀ (v1 : Int64) (v3 : Int32) (st : St), K271 v1 v3 st = some res → At p l e (rmK 5) s m args below meth c D G ad (MQI D G ad below args s res) 5 st [(0, .ref (ad 130)), (1, .long v1), (3, .int v3)] 271 []) (hf : fX11_goesBy_s285 n K271  v3 k0 k1 st = some res) : At p l e (rmK 5) s m args below meth c D G ad (MQI D G ad below args s res) 5 st [(0, .ref (ad 130)), (3, .int v3)] 285 [.long k1, .long k0] := by
  obtain ⟨hx, hb, hml, hown, hts, hr, hlk, hK, had, hSt⟩ := id C
  intro H locs ls hl hP hS
  unfold fX11_goesBy_s285 at hf
  refine lv_ladd hx hb dX11_goesBy_285 ?_
  refine lv_lstore_n (lv' := [(1, .long (k0 + k1)), (0, .ref (ad 130)), (3, .int v3)]) hx hb dX11_goesBy_286 rfl hl (by decide) rfl (fun ls hl => ?_)
  refine lv_iinc (v := v3 + 1) (lv' := [(3, .int (v3 + 1)), (1, .long (k0 + k1)), (0, .ref (ad 130))]) hx hb dX11_goesBy_287 hl (k := 2) rfl rfl (by decide) rfl (fun ls hl => ?_)
  refine lv_goto (tgt := 271) hx hb dX11_goesBy_290 (by decide) ?_
  exact hK271 (k0 + k1) (v3 + 1)  st hf H locs ls (lv_sub hl [2, 1, 0] rfl) hP hS
def fX11_goesBy_s279 (n : Nat) (K271 : Int64 → Int32 → St → Option (Int32 × St))  (v1 : Int64) (v3 : Int32) (st : St) : Option (Int32 × St) := (fX11_sends n v3 st).bind (fun q => fX11_goesBy_s285 n K271 v3 v1 q.1 q.2)
set_option maxHeartbeats 4000000 in
set_option maxRecDepth 100000 in
theorem wX11_goesBy_s279 (C : Cx p s m args meth c cX11_goesBy 5 wsL_law RX11 (some .int) D G ad) (n : Nat) (K271 : Int64 → Int32 → St → Option (Int32 × St))  (v1 : Int64) (v3 : Int32)   (st : St) (res : (Int32 × St)) (hK271 : ∀ (v1 : Int64) (v3 : Int32) (st : St), K271 v1 v3 st = some res → At p l e (rmK 5) s m args below meth c D G ad (MQI D G ad below args s res) 5 st [(0, .ref (ad 130)), (1, .long v1), (3, .int v3)] 271 []) (hf : fX11_goesBy_s279 n K271  v1 v3 st = some res) : At p l e (rmK 5) s m args below meth c D G ad (MQI D G ad below args s res) 5 st [(0, .ref (ad 130)), (1, .long v1), (3, .int v3)] 279 [] := by
  obtain ⟨hx, hb, hml, hown, hts, hr, hlk, hK, had, hSt⟩ := id C
  intro H locs ls hl hP hS
  unfold fX11_goesBy_s279 at hf
  refine lv_lload_n hx hb dX11_goesBy_279 rfl (lv_at hl 1 rfl) ?_
  refine lv_aload_n hx hb dX11_goesBy_280 rfl (lv_at hl 0 rfl) ?_
  refine lv_iload_n hx hb dX11_goesBy_281 rfl (lv_at hl 2 rfl) ?_
  obtain ⟨q, hq, hf⟩ := bd hf
  refine gcV_j (k := 1) (o := 130) (As := [.int v3]) (rest := [.long v1]) hx hb hml hown hts hK hSt hP hS hl.1 (goodV wm_22_23 wm_23_0 wm_23_1 wm_1_5 wm_23_2) okX11_sends ct_130 rfl rfl (Nat.le_of_ble_eq_true rfl) (Nat.le_of_ble_eq_true rfl) rfl rfl (Nat.le_of_ble_eq_true rfl) dX11_goesBy_282 (kX11_sends l D G ad had n  v3 st q hq) (fun H locs hP hS => ?_)
  exact wX11_goesBy_s285 C n K271 v3 v1 q.1 q.2 res hK271 hf H locs ls (lv_sub hl [0, 2] rfl) hP hS
def fX11_goesBy_s271 (n : Nat) (K271 : Int64 → Int32 → St → Option (Int32 × St))  (v1 : Int64) (v3 : Int32) (st : St) : Option (Int32 × St) := if (st.1 130 0) ≤ v3 then fX11_goesBy_s293 n v1 st else fX11_goesBy_s279 n K271 v1 v3 st
set_option maxHeartbeats 4000000 in
set_option maxRecDepth 100000 in
theorem wX11_goesBy_s271 (C : Cx p s m args meth c cX11_goesBy 5 wsL_law RX11 (some .int) D G ad) (n : Nat) (K271 : Int64 → Int32 → St → Option (Int32 × St))  (v1 : Int64) (v3 : Int32)   (st : St) (res : (Int32 × St)) (hK271 : ∀ (v1 : Int64) (v3 : Int32) (st : St), K271 v1 v3 st = some res → At p l e (rmK 5) s m args below meth c D G ad (MQI D G ad below args s res) 5 st [(0, .ref (ad 130)), (1, .long v1), (3, .int v3)] 271 []) (hf : fX11_goesBy_s271 n K271  v1 v3 st = some res) : At p l e (rmK 5) s m args below meth c D G ad (MQI D G ad below args s res) 5 st [(0, .ref (ad 130)), (1, .long v1), (3, .int v3)] 271 [] := by
  obtain ⟨hx, hb, hml, hown, hts, hr, hlk, hK, had, hSt⟩ := id C
  intro H locs ls hl hP hS
  unfold fX11_goesBy_s271 at hf
  refine lv_iload_n hx hb dX11_goesBy_271 rfl (lv_at hl 2 rfl) ?_
  refine lv_aload_n hx hb dX11_goesBy_272 rfl (lv_at hl 0 rfl) ?_
  refine g_getI hx hb hts inlX11 hown hK hP 130 ct_130 rfl 0 (by decide) (hts _ wm_10_11) rfl dX11_goesBy_273 ?_
  refine lv_icmp_ge (tgt := 293) hx hb dX11_goesBy_276 (by decide) (fun q => ?_) (fun q => ?_)
  · exact wX11_goesBy_s293 C n v1 st res (it hf q) H locs ls (lv_sub hl [0, 1] rfl) hP hS
  · exact wX11_goesBy_s279 C n K271 v1 v3 st res hK271 (ie hf q) H locs ls (lv_sub hl [0, 1, 2] rfl) hP hS
def fX11_goesBy_L271 (n : Nat)   : Nat → Int64 → Int32 → St → Option (Int32 × St)
  | 0, _, _, _ => none
  | k + 1, v1, v3, st => fX11_goesBy_s271 n (fX11_goesBy_L271 n k)  v1 v3 st
theorem wX11_goesBy_L271 (C : Cx p s m args meth c cX11_goesBy 5 wsL_law RX11 (some .int) D G ad) (n : Nat)    (res : (Int32 × St))  : ∀ (k : Nat) (v1 : Int64) (v3 : Int32)  (st : St), fX11_goesBy_L271 n k v1 v3 st = some res → At p l e (rmK 5) s m args below meth c D G ad (MQI D G ad below args s res) 5 st [(0, .ref (ad 130)), (1, .long v1), (3, .int v3)] 271 [] := by
  intro k
  induction k with
  | zero => intro v1 v3  st h; exact absurd h (by intro q; cases q)
  | succ k ih => intro v1 v3  st h; exact wX11_goesBy_s271 C n (fX11_goesBy_L271 n k)  v1 v3   st res ih h
def fX11_goesBy_s269 (n : Nat)   (v1 : Int64) (st : St) : Option (Int32 × St) := fX11_goesBy_L271 n n v1 0 st
set_option maxHeartbeats 4000000 in
set_option maxRecDepth 100000 in
theorem wX11_goesBy_s269 (C : Cx p s m args meth c cX11_goesBy 5 wsL_law RX11 (some .int) D G ad) (n : Nat)   (v1 : Int64)   (st : St) (res : (Int32 × St))  (hf : fX11_goesBy_s269 n   v1 st = some res) : At p l e (rmK 5) s m args below meth c D G ad (MQI D G ad below args s res) 5 st [(0, .ref (ad 130)), (1, .long v1)] 269 [] := by
  obtain ⟨hx, hb, hml, hown, hts, hr, hlk, hK, had, hSt⟩ := id C
  intro H locs ls hl hP hS
  unfold fX11_goesBy_s269 at hf
  refine lv_iconst (v := 0) hx hb dX11_goesBy_269 (by decide) ?_
  refine lv_istore_n (lv' := [(3, .int 0), (0, .ref (ad 130)), (1, .long v1)]) hx hb dX11_goesBy_270 rfl hl (by decide) rfl (fun ls hl => ?_)
  exact wX11_goesBy_L271 C n res n v1 0 st hf H locs ls (lv_sub hl [1, 2, 0] rfl) hP hS
def fX11_goesBy_s263 (n : Nat) (K102 : Int64 → Int32 → St → Option (Int32 × St))  (v1 : Int64) (v3 : Int32) (st : St) : Option (Int32 × St) := K102 v1 (v3 + 1) st
set_option maxHeartbeats 4000000 in
set_option maxRecDepth 100000 in
theorem wX11_goesBy_s263 (C : Cx p s m args meth c cX11_goesBy 5 wsL_law RX11 (some .int) D G ad) (n : Nat) (K102 : Int64 → Int32 → St → Option (Int32 × St))  (v1 : Int64) (v3 : Int32)   (st : St) (res : (Int32 × St)) (hK102 : ∀ (v1 : Int64) (v3 : Int32) (st : St), K102 v1 v3 st = some res → At p l e (rmK 5) s m args below meth c D G ad (MQI D G ad below args s res) 5 st [(0, .ref (ad 130)), (1, .long v1), (3, .int v3)] 102 []) (hf : fX11_goesBy_s263 n K102  v1 v3 st = some res) : At p l e (rmK 5) s m args below meth c D G ad (MQI D G ad below args s res) 5 st [(0, .ref (ad 130)), (1, .long v1), (3, .int v3)] 263 [] := by
  obtain ⟨hx, hb, hml, hown, hts, hr, hlk, hK, had, hSt⟩ := id C
  intro H locs ls hl hP hS
  unfold fX11_goesBy_s263 at hf
  refine lv_iinc (v := v3 + 1) (lv' := [(3, .int (v3 + 1)), (0, .ref (ad 130)), (1, .long v1)]) hx hb dX11_goesBy_263 hl (k := 2) rfl rfl (by decide) rfl (fun ls hl => ?_)
  refine lv_goto (tgt := 102) hx hb dX11_goesBy_266 (by decide) ?_
  exact hK102 v1 (v3 + 1)  st hf H locs ls (lv_sub hl [1, 2, 0] rfl) hP hS
def fX11_goesBy_s252 (n : Nat) (K102 : Int64 → Int32 → St → Option (Int32 × St))  (v1 : Int64) (v3 : Int32) (st : St) : Option (Int32 × St) := if inb ((4 * v3) + 3) 32 = true then (fX11_goesBy_s263 n K102 v1 v3 (setJ st 144 ((4 * v3) + 3).toNatClampNeg 0)) else none
set_option maxHeartbeats 4000000 in
set_option maxRecDepth 100000 in
theorem wX11_goesBy_s252 (C : Cx p s m args meth c cX11_goesBy 5 wsL_law RX11 (some .int) D G ad) (n : Nat) (K102 : Int64 → Int32 → St → Option (Int32 × St))  (v1 : Int64) (v3 : Int32)   (st : St) (res : (Int32 × St)) (hK102 : ∀ (v1 : Int64) (v3 : Int32) (st : St), K102 v1 v3 st = some res → At p l e (rmK 5) s m args below meth c D G ad (MQI D G ad below args s res) 5 st [(0, .ref (ad 130)), (1, .long v1), (3, .int v3)] 102 []) (hf : fX11_goesBy_s252 n K102  v1 v3 st = some res) : At p l e (rmK 5) s m args below meth c D G ad (MQI D G ad below args s res) 5 st [(0, .ref (ad 130)), (1, .long v1), (3, .int v3)] 252 [] := by
  obtain ⟨hx, hb, hml, hown, hts, hr, hlk, hK, had, hSt⟩ := id C
  intro H locs ls hl hP hS
  unfold fX11_goesBy_s252 at hf
  refine lv_aload_n hx hb dX11_goesBy_252 rfl (lv_at hl 0 rfl) ?_
  refine g_getR hx hb hts inlX11 hown hK hP 130 ct_130 rfl 19 (by decide) (hts _ wm_7_15) rfl dX11_goesBy_253 ?_
  refine lv_iconst (v := 4) hx hb dX11_goesBy_256 (by decide) ?_
  refine lv_iload_n hx hb dX11_goesBy_257 rfl (lv_at hl 2 rfl) ?_
  refine lv_imul hx hb dX11_goesBy_258 ?_
  refine lv_iconst (v := 3) hx hb dX11_goesBy_259 (by decide) ?_
  refine lv_iadd hx hb dX11_goesBy_260 ?_
  refine lv_lconst (v := 0) hx hb dX11_goesBy_261 (by decide) ?_
  obtain ⟨g1, hf⟩ := gd hf
  refine g_last hx hb hK had hP hS 144 ct_144 g1 dX11_goesBy_262 (fun H locs hP hS => ?_)
  exact wX11_goesBy_s263 C n K102 v1 v3 (setJ st 144 ((4 * v3) + 3).toNatClampNeg 0) res hK102 hf H locs ls (lv_sub hl [0, 1, 2] rfl) hP hS
def fX11_goesBy_s246 (n : Nat) (K102 : Int64 → Int32 → St → Option (Int32 × St)) (K216 : Int64 → Int32 → Int32 → St → Option (Int32 × St))  (v1 : Int64) (v3 : Int32) (v4 : Int32) (st : St) : Option (Int32 × St) := K216 v1 v3 (v4 + 1) st
set_option maxHeartbeats 4000000 in
set_option maxRecDepth 100000 in
theorem wX11_goesBy_s246 (C : Cx p s m args meth c cX11_goesBy 5 wsL_law RX11 (some .int) D G ad) (n : Nat) (K102 : Int64 → Int32 → St → Option (Int32 × St)) (K216 : Int64 → Int32 → Int32 → St → Option (Int32 × St))  (v1 : Int64) (v3 : Int32) (v4 : Int32)   (st : St) (res : (Int32 × St)) (hK102 : ∀ (v1 : Int64) (v3 : Int32) (st : St), K102 v1 v3 st = some res → At p l e (rmK 5) s m args below meth c D G ad (MQI D G ad below args s res) 5 st [(0, .ref (ad 130)), (1, .long v1), (3, .int v3)] 102 []) (hK216 : ∀ (v1 : Int64) (v3 : Int32) (v4 : Int32) (st : St), K216 v1 v3 v4 st = some res → At p l e (rmK 5) s m args below meth c D G ad (MQI D G ad below args s res) 5 st [(0, .ref (ad 130)), (1, .long v1), (3, .int v3), (4, .int v4)] 216 []) (hf : fX11_goesBy_s246 n K102 K216  v1 v3 v4 st = some res) : At p l e (rmK 5) s m args below meth c D G ad (MQI D G ad below args s res) 5 st [(0, .ref (ad 130)), (1, .long v1), (3, .int v3), (4, .int v4)] 246 [] := by
  obtain ⟨hx, hb, hml, hown, hts, hr, hlk, hK, had, hSt⟩ := id C
  intro H locs ls hl hP hS
  unfold fX11_goesBy_s246 at hf
  refine lv_iinc (v := v4 + 1) (lv' := [(4, .int (v4 + 1)), (0, .ref (ad 130)), (1, .long v1), (3, .int v3)]) hx hb dX11_goesBy_246 hl (k := 3) rfl rfl (by decide) rfl (fun ls hl => ?_)
  refine lv_goto (tgt := 216) hx hb dX11_goesBy_249 (by decide) ?_
  exact hK216 v1 v3 (v4 + 1)  st hf H locs ls (lv_sub hl [1, 2, 3, 0] rfl) hP hS
def fX11_goesBy_s222 (n : Nat) (K102 : Int64 → Int32 → St → Option (Int32 × St)) (K216 : Int64 → Int32 → Int32 → St → Option (Int32 × St))  (v1 : Int64) (v3 : Int32) (v4 : Int32) (st : St) : Option (Int32 × St) := if inb (((4 * v3) + v4) + 1) 32 = true then (if inb ((4 * v3) + v4) 32 = true then (fX11_goesBy_s246 n K102 K216 v1 v3 v4 (setJ st 144 ((4 * v3) + v4).toNatClampNeg (st.2 144 (((4 * v3) + v4) + 1).toNatClampNeg))) else none) else none
set_option maxHeartbeats 4000000 in
set_option maxRecDepth 100000 in
theorem wX11_goesBy_s222 (C : Cx p s m args meth c cX11_goesBy 5 wsL_law RX11 (some .int) D G ad) (n : Nat) (K102 : Int64 → Int32 → St → Option (Int32 × St)) (K216 : Int64 → Int32 → Int32 → St → Option (Int32 × St))  (v1 : Int64) (v3 : Int32) (v4 : Int32)   (st : St) (res : (Int32 × St)) (hK102 : ∀ (v1 : Int64) (v3 : Int32) (st : St), K102 v1 v3 st = some res → At p l e (rmK 5) s m args below meth c D G ad (MQI D G ad below args s res) 5 st [(0, .ref (ad 130)), (1, .long v1), (3, .int v3)] 102 []) (hK216 : ∀ (v1 : Int64) (v3 : Int32) (v4 : Int32) (st : St), K216 v1 v3 v4 st = some res → At p l e (rmK 5) s m args below meth c D G ad (MQI D G ad below args s res) 5 st [(0, .ref (ad 130)), (1, .long v1), (3, .int v3), (4, .int v4)] 216 []) (hf : fX11_goesBy_s222 n K102 K216  v1 v3 v4 st = some res) : At p l e (rmK 5) s m args below meth c D G ad (MQI D G ad below args s res) 5 st [(0, .ref (ad 130)), (1, .long v1), (3, .int v3), (4, .int v4)] 222 [] := by
  obtain ⟨hx, hb, hml, hown, hts, hr, hlk, hK, had, hSt⟩ := id C
  intro H locs ls hl hP hS
  unfold fX11_goesBy_s222 at hf
  refine lv_aload_n hx hb dX11_goesBy_222 rfl (lv_at hl 0 rfl) ?_
  refine g_getR hx hb hts inlX11 hown hK hP 130 ct_130 rfl 19 (by decide) (hts _ wm_7_15) rfl dX11_goesBy_223 ?_
  refine lv_iconst (v := 4) hx hb dX11_goesBy_226 (by decide) ?_
  refine lv_iload_n hx hb dX11_goesBy_227 rfl (lv_at hl 2 rfl) ?_
  refine lv_imul hx hb dX11_goesBy_228 ?_
  refine lv_iload hx hb dX11_goesBy_229 (lv_at hl 3 rfl) ?_
  refine lv_iadd hx hb dX11_goesBy_231 ?_
  refine lv_aload_n hx hb dX11_goesBy_232 rfl (lv_at hl 0 rfl) ?_
  refine g_getR hx hb hts inlX11 hown hK hP 130 ct_130 rfl 19 (by decide) (hts _ wm_7_15) rfl dX11_goesBy_233 ?_
  refine lv_iconst (v := 4) hx hb dX11_goesBy_236 (by decide) ?_
  refine lv_iload_n hx hb dX11_goesBy_237 rfl (lv_at hl 2 rfl) ?_
  refine lv_imul hx hb dX11_goesBy_238 ?_
  refine lv_iload hx hb dX11_goesBy_239 (lv_at hl 3 rfl) ?_
  refine lv_iadd hx hb dX11_goesBy_241 ?_
  refine lv_iconst (v := 1) hx hb dX11_goesBy_242 (by decide) ?_
  refine lv_iadd hx hb dX11_goesBy_243 ?_
  obtain ⟨g1, hf⟩ := gd hf
  refine g_lald hx hb hK hP 144 ct_144 g1 dX11_goesBy_244 ?_
  obtain ⟨g2, hf⟩ := gd hf
  refine g_last hx hb hK had hP hS 144 ct_144 g2 dX11_goesBy_245 (fun H locs hP hS => ?_)
  exact wX11_goesBy_s246 C n K102 K216 v1 v3 v4 (setJ st 144 ((4 * v3) + v4).toNatClampNeg (st.2 144 (((4 * v3) + v4) + 1).toNatClampNeg)) res hK102 hK216 hf H locs ls (lv_sub hl [0, 1, 2, 3] rfl) hP hS
def fX11_goesBy_s216 (n : Nat) (K102 : Int64 → Int32 → St → Option (Int32 × St)) (K216 : Int64 → Int32 → Int32 → St → Option (Int32 × St))  (v1 : Int64) (v3 : Int32) (v4 : Int32) (st : St) : Option (Int32 × St) := if 3 ≤ v4 then fX11_goesBy_s252 n K102 v1 v3 st else fX11_goesBy_s222 n K102 K216 v1 v3 v4 st
set_option maxHeartbeats 4000000 in
set_option maxRecDepth 100000 in
theorem wX11_goesBy_s216 (C : Cx p s m args meth c cX11_goesBy 5 wsL_law RX11 (some .int) D G ad) (n : Nat) (K102 : Int64 → Int32 → St → Option (Int32 × St)) (K216 : Int64 → Int32 → Int32 → St → Option (Int32 × St))  (v1 : Int64) (v3 : Int32) (v4 : Int32)   (st : St) (res : (Int32 × St)) (hK102 : ∀ (v1 : Int64) (v3 : Int32) (st : St), K102 v1 v3 st = some res → At p l e (rmK 5) s m args below meth c D G ad (MQI D G ad below args s res) 5 st [(0, .ref (ad 130)), (1, .long v1), (3, .int v3)] 102 []) (hK216 : ∀ (v1 : Int64) (v3 : Int32) (v4 : Int32) (st : St), K216 v1 v3 v4 st = some res → At p l e (rmK 5) s m args below meth c D G ad (MQI D G ad below args s res) 5 st [(0, .ref (ad 130)), (1, .long v1), (3, .int v3), (4, .int v4)] 216 []) (hf : fX11_goesBy_s216 n K102 K216  v1 v3 v4 st = some res) : At p l e (rmK 5) s m args below meth c D G ad (MQI D G ad below args s res) 5 st [(0, .ref (ad 130)), (1, .long v1), (3, .int v3), (4, .int v4)] 216 [] := by
  obtain ⟨hx, hb, hml, hown, hts, hr, hlk, hK, had, hSt⟩ := id C
  intro H locs ls hl hP hS
  unfold fX11_goesBy_s216 at hf
  refine lv_iload hx hb dX11_goesBy_216 (lv_at hl 3 rfl) ?_
  refine lv_iconst (v := 3) hx hb dX11_goesBy_218 (by decide) ?_
  refine lv_icmp_ge (tgt := 252) hx hb dX11_goesBy_219 (by decide) (fun q => ?_) (fun q => ?_)
  · exact wX11_goesBy_s252 C n K102 v1 v3 st res hK102 (it hf q) H locs ls (lv_sub hl [0, 1, 2] rfl) hP hS
  · exact wX11_goesBy_s222 C n K102 K216 v1 v3 v4 st res hK102 hK216 (ie hf q) H locs ls (lv_sub hl [0, 1, 2, 3] rfl) hP hS
def fX11_goesBy_L216 (n : Nat) (K102 : Int64 → Int32 → St → Option (Int32 × St))  : Nat → Int64 → Int32 → Int32 → St → Option (Int32 × St)
  | 0, _, _, _, _ => none
  | k + 1, v1, v3, v4, st => fX11_goesBy_s216 n K102 (fX11_goesBy_L216 n K102 k)  v1 v3 v4 st
theorem wX11_goesBy_L216 (C : Cx p s m args meth c cX11_goesBy 5 wsL_law RX11 (some .int) D G ad) (n : Nat) (K102 : Int64 → Int32 → St → Option (Int32 × St))   (res : (Int32 × St)) (hK102 : ∀ (v1 : Int64) (v3 : Int32) (st : St), K102 v1 v3 st = some res → At p l e (rmK 5) s m args below meth c D G ad (MQI D G ad below args s res) 5 st [(0, .ref (ad 130)), (1, .long v1), (3, .int v3)] 102 []) : ∀ (k : Nat) (v1 : Int64) (v3 : Int32) (v4 : Int32)  (st : St), fX11_goesBy_L216 n K102 k v1 v3 v4 st = some res → At p l e (rmK 5) s m args below meth c D G ad (MQI D G ad below args s res) 5 st [(0, .ref (ad 130)), (1, .long v1), (3, .int v3), (4, .int v4)] 216 [] := by
  intro k
  induction k with
  | zero => intro v1 v3 v4  st h; exact absurd h (by intro q; cases q)
  | succ k ih => intro v1 v3 v4  st h; exact wX11_goesBy_s216 C n K102 (fX11_goesBy_L216 n K102 k)  v1 v3 v4   st res hK102 ih h
def fX11_goesBy_s213 (n : Nat) (K102 : Int64 → Int32 → St → Option (Int32 × St))  (v1 : Int64) (v3 : Int32) (st : St) : Option (Int32 × St) := fX11_goesBy_L216 n K102 n v1 v3 0 st
set_option maxHeartbeats 4000000 in
set_option maxRecDepth 100000 in
theorem wX11_goesBy_s213 (C : Cx p s m args meth c cX11_goesBy 5 wsL_law RX11 (some .int) D G ad) (n : Nat) (K102 : Int64 → Int32 → St → Option (Int32 × St))  (v1 : Int64) (v3 : Int32)   (st : St) (res : (Int32 × St)) (hK102 : ∀ (v1 : Int64) (v3 : Int32) (st : St), K102 v1 v3 st = some res → At p l e (rmK 5) s m args below meth c D G ad (MQI D G ad below args s res) 5 st [(0, .ref (ad 130)), (1, .long v1), (3, .int v3)] 102 []) (hf : fX11_goesBy_s213 n K102  v1 v3 st = some res) : At p l e (rmK 5) s m args below meth c D G ad (MQI D G ad below args s res) 5 st [(0, .ref (ad 130)), (1, .long v1), (3, .int v3)] 213 [] := by
  obtain ⟨hx, hb, hml, hown, hts, hr, hlk, hK, had, hSt⟩ := id C
  intro H locs ls hl hP hS
  unfold fX11_goesBy_s213 at hf
  refine lv_iconst (v := 0) hx hb dX11_goesBy_213 (by decide) ?_
  refine lv_istore (lv' := [(4, .int 0), (0, .ref (ad 130)), (1, .long v1), (3, .int v3)]) hx hb dX11_goesBy_214 hl (by decide) rfl (fun ls hl => ?_)
  exact wX11_goesBy_L216 C n K102 res hK102 n v1 v3 0 st hf H locs ls (lv_sub hl [1, 2, 3, 0] rfl) hP hS
def fX11_goesBy_s191 (n : Nat) (K102 : Int64 → Int32 → St → Option (Int32 × St))  (v1 : Int64) (v3 : Int32) (st : St) : Option (Int32 × St) := if inb v3 8 = true then (if inb (st.1 132 v3.toNatClampNeg) 8 = true then (if inb (4 * v3) 32 = true then (if inb (st.1 132 v3.toNatClampNeg) 8 = true then (fX11_goesBy_s213 n K102 v1 v3 (setJ st 147 (st.1 132 v3.toNatClampNeg).toNatClampNeg ((st.2 147 (st.1 132 v3.toNatClampNeg).toNatClampNeg) + (st.2 144 (4 * v3).toNatClampNeg)))) else none) else none) else none) else none
set_option maxHeartbeats 4000000 in
set_option maxRecDepth 100000 in
theorem wX11_goesBy_s191 (C : Cx p s m args meth c cX11_goesBy 5 wsL_law RX11 (some .int) D G ad) (n : Nat) (K102 : Int64 → Int32 → St → Option (Int32 × St))  (v1 : Int64) (v3 : Int32)   (st : St) (res : (Int32 × St)) (hK102 : ∀ (v1 : Int64) (v3 : Int32) (st : St), K102 v1 v3 st = some res → At p l e (rmK 5) s m args below meth c D G ad (MQI D G ad below args s res) 5 st [(0, .ref (ad 130)), (1, .long v1), (3, .int v3)] 102 []) (hf : fX11_goesBy_s191 n K102  v1 v3 st = some res) : At p l e (rmK 5) s m args below meth c D G ad (MQI D G ad below args s res) 5 st [(0, .ref (ad 130)), (1, .long v1), (3, .int v3)] 191 [] := by
  obtain ⟨hx, hb, hml, hown, hts, hr, hlk, hK, had, hSt⟩ := id C
  intro H locs ls hl hP hS
  unfold fX11_goesBy_s191 at hf
  refine lv_aload_n hx hb dX11_goesBy_191 rfl (lv_at hl 0 rfl) ?_
  refine g_getR hx hb hts inlX11 hown hK hP 130 ct_130 rfl 22 (by decide) (hts _ wm_7_18) rfl dX11_goesBy_192 ?_
  refine lv_aload_n hx hb dX11_goesBy_195 rfl (lv_at hl 0 rfl) ?_
  refine g_getR hx hb hts inlX11 hown hK hP 130 ct_130 rfl 2 (by decide) (hts _ wm_7_3) rfl dX11_goesBy_196 ?_
  refine lv_iload_n hx hb dX11_goesBy_199 rfl (lv_at hl 2 rfl) ?_
  obtain ⟨g1, hf⟩ := gd hf
  refine g_iald hx hb hK hP 132 ct_132 g1 dX11_goesBy_200 ?_
  refine lv_dup2_11 hx hb dX11_goesBy_201 rfl rfl ?_
  obtain ⟨g2, hf⟩ := gd hf
  refine g_lald hx hb hK hP 147 ct_147 g2 dX11_goesBy_202 ?_
  refine lv_aload_n hx hb dX11_goesBy_203 rfl (lv_at hl 0 rfl) ?_
  refine g_getR hx hb hts inlX11 hown hK hP 130 ct_130 rfl 19 (by decide) (hts _ wm_7_15) rfl dX11_goesBy_204 ?_
  refine lv_iconst (v := 4) hx hb dX11_goesBy_207 (by decide) ?_
  refine lv_iload_n hx hb dX11_goesBy_208 rfl (lv_at hl 2 rfl) ?_
  refine lv_imul hx hb dX11_goesBy_209 ?_
  obtain ⟨g3, hf⟩ := gd hf
  refine g_lald hx hb hK hP 144 ct_144 g3 dX11_goesBy_210 ?_
  refine lv_ladd hx hb dX11_goesBy_211 ?_
  obtain ⟨g4, hf⟩ := gd hf
  refine g_last hx hb hK had hP hS 147 ct_147 g4 dX11_goesBy_212 (fun H locs hP hS => ?_)
  exact wX11_goesBy_s213 C n K102 v1 v3 (setJ st 147 (st.1 132 v3.toNatClampNeg).toNatClampNeg ((st.2 147 (st.1 132 v3.toNatClampNeg).toNatClampNeg) + (st.2 144 (4 * v3).toNatClampNeg))) res hK102 hf H locs ls (lv_sub hl [0, 1, 2] rfl) hP hS
def fX11_goesBy_s164 (n : Nat) (K102 : Int64 → Int32 → St → Option (Int32 × St))  (v1 : Int64) (v3 : Int32) (st : St) : Option (Int32 × St) := if inb v3 8 = true then (if inb ((8 * (st.1 132 v3.toNatClampNeg)) + v3) 64 = true then (if inb (4 * v3) 32 = true then (if inb ((8 * (st.1 132 v3.toNatClampNeg)) + v3) 64 = true then (fX11_goesBy_s191 n K102 v1 v3 (setJ st 142 ((8 * (st.1 132 v3.toNatClampNeg)) + v3).toNatClampNeg ((st.2 142 ((8 * (st.1 132 v3.toNatClampNeg)) + v3).toNatClampNeg) + (st.2 144 (4 * v3).toNatClampNeg)))) else none) else none) else none) else none
set_option maxHeartbeats 4000000 in
set_option maxRecDepth 100000 in
theorem wX11_goesBy_s164 (C : Cx p s m args meth c cX11_goesBy 5 wsL_law RX11 (some .int) D G ad) (n : Nat) (K102 : Int64 → Int32 → St → Option (Int32 × St))  (v1 : Int64) (v3 : Int32)   (st : St) (res : (Int32 × St)) (hK102 : ∀ (v1 : Int64) (v3 : Int32) (st : St), K102 v1 v3 st = some res → At p l e (rmK 5) s m args below meth c D G ad (MQI D G ad below args s res) 5 st [(0, .ref (ad 130)), (1, .long v1), (3, .int v3)] 102 []) (hf : fX11_goesBy_s164 n K102  v1 v3 st = some res) : At p l e (rmK 5) s m args below meth c D G ad (MQI D G ad below args s res) 5 st [(0, .ref (ad 130)), (1, .long v1), (3, .int v3)] 164 [] := by
  obtain ⟨hx, hb, hml, hown, hts, hr, hlk, hK, had, hSt⟩ := id C
  intro H locs ls hl hP hS
  unfold fX11_goesBy_s164 at hf
  refine lv_aload_n hx hb dX11_goesBy_164 rfl (lv_at hl 0 rfl) ?_
  refine g_getR hx hb hts inlX11 hown hK hP 130 ct_130 rfl 17 (by decide) (hts _ wm_7_13) rfl dX11_goesBy_165 ?_
  refine lv_bipush (v := 8) hx hb dX11_goesBy_168 (by decide) ?_
  refine lv_aload_n hx hb dX11_goesBy_170 rfl (lv_at hl 0 rfl) ?_
  refine g_getR hx hb hts inlX11 hown hK hP 130 ct_130 rfl 2 (by decide) (hts _ wm_7_3) rfl dX11_goesBy_171 ?_
  refine lv_iload_n hx hb dX11_goesBy_174 rfl (lv_at hl 2 rfl) ?_
  obtain ⟨g1, hf⟩ := gd hf
  refine g_iald hx hb hK hP 132 ct_132 g1 dX11_goesBy_175 ?_
  refine lv_imul hx hb dX11_goesBy_176 ?_
  refine lv_iload_n hx hb dX11_goesBy_177 rfl (lv_at hl 2 rfl) ?_
  refine lv_iadd hx hb dX11_goesBy_178 ?_
  refine lv_dup2_11 hx hb dX11_goesBy_179 rfl rfl ?_
  obtain ⟨g2, hf⟩ := gd hf
  refine g_lald hx hb hK hP 142 ct_142 g2 dX11_goesBy_180 ?_
  refine lv_aload_n hx hb dX11_goesBy_181 rfl (lv_at hl 0 rfl) ?_
  refine g_getR hx hb hts inlX11 hown hK hP 130 ct_130 rfl 19 (by decide) (hts _ wm_7_15) rfl dX11_goesBy_182 ?_
  refine lv_iconst (v := 4) hx hb dX11_goesBy_185 (by decide) ?_
  refine lv_iload_n hx hb dX11_goesBy_186 rfl (lv_at hl 2 rfl) ?_
  refine lv_imul hx hb dX11_goesBy_187 ?_
  obtain ⟨g3, hf⟩ := gd hf
  refine g_lald hx hb hK hP 144 ct_144 g3 dX11_goesBy_188 ?_
  refine lv_ladd hx hb dX11_goesBy_189 ?_
  obtain ⟨g4, hf⟩ := gd hf
  refine g_last hx hb hK had hP hS 142 ct_142 g4 dX11_goesBy_190 (fun H locs hP hS => ?_)
  exact wX11_goesBy_s191 C n K102 v1 v3 (setJ st 142 ((8 * (st.1 132 v3.toNatClampNeg)) + v3).toNatClampNeg ((st.2 142 ((8 * (st.1 132 v3.toNatClampNeg)) + v3).toNatClampNeg) + (st.2 144 (4 * v3).toNatClampNeg))) res hK102 hf H locs ls (lv_sub hl [0, 1, 2] rfl) hP hS
def fX11_goesBy_s155 (n : Nat) (K102 : Int64 → Int32 → St → Option (Int32 × St))  (v1 : Int64) (v3 : Int32) (st : St) : Option (Int32 × St) := if inb v3 8 = true then (if (st.1 131 v3.toNatClampNeg) = 0 then fX11_goesBy_s263 n K102 v1 v3 st else fX11_goesBy_s164 n K102 v1 v3 st) else none
set_option maxHeartbeats 4000000 in
set_option maxRecDepth 100000 in
theorem wX11_goesBy_s155 (C : Cx p s m args meth c cX11_goesBy 5 wsL_law RX11 (some .int) D G ad) (n : Nat) (K102 : Int64 → Int32 → St → Option (Int32 × St))  (v1 : Int64) (v3 : Int32)   (st : St) (res : (Int32 × St)) (hK102 : ∀ (v1 : Int64) (v3 : Int32) (st : St), K102 v1 v3 st = some res → At p l e (rmK 5) s m args below meth c D G ad (MQI D G ad below args s res) 5 st [(0, .ref (ad 130)), (1, .long v1), (3, .int v3)] 102 []) (hf : fX11_goesBy_s155 n K102  v1 v3 st = some res) : At p l e (rmK 5) s m args below meth c D G ad (MQI D G ad below args s res) 5 st [(0, .ref (ad 130)), (1, .long v1), (3, .int v3)] 155 [] := by
  obtain ⟨hx, hb, hml, hown, hts, hr, hlk, hK, had, hSt⟩ := id C
  intro H locs ls hl hP hS
  unfold fX11_goesBy_s155 at hf
  refine lv_aload_n hx hb dX11_goesBy_155 rfl (lv_at hl 0 rfl) ?_
  refine g_getR hx hb hts inlX11 hown hK hP 130 ct_130 rfl 1 (by decide) (hts _ wm_7_2) rfl dX11_goesBy_156 ?_
  refine lv_iload_n hx hb dX11_goesBy_159 rfl (lv_at hl 2 rfl) ?_
  obtain ⟨g1, hf⟩ := gd hf
  refine g_iald hx hb hK hP 131 ct_131 g1 dX11_goesBy_160 ?_
  refine lv_if_eq (tgt := 263) hx hb dX11_goesBy_161 (by decide) (fun q => ?_) (fun q => ?_)
  · exact wX11_goesBy_s263 C n K102 v1 v3 st res hK102 (it hf q) H locs ls (lv_sub hl [0, 1, 2] rfl) hP hS
  · exact wX11_goesBy_s164 C n K102 v1 v3 st res hK102 (ie hf q) H locs ls (lv_sub hl [0, 1, 2] rfl) hP hS
def fX11_goesBy_s139 (n : Nat) (K102 : Int64 → Int32 → St → Option (Int32 × St))  (v1 : Int64) (v3 : Int32) (st : St) : Option (Int32 × St) := if inb v3 8 = true then (if inb v3 8 = true then (if inb v3 8 = true then (fX11_goesBy_s155 n K102 v1 v3 (setJ st 147 v3.toNatClampNeg ((st.2 147 v3.toNatClampNeg) + ((st.1 140 v3.toNatClampNeg).toInt64)))) else none) else none) else none
set_option maxHeartbeats 4000000 in
set_option maxRecDepth 100000 in
theorem wX11_goesBy_s139 (C : Cx p s m args meth c cX11_goesBy 5 wsL_law RX11 (some .int) D G ad) (n : Nat) (K102 : Int64 → Int32 → St → Option (Int32 × St))  (v1 : Int64) (v3 : Int32)   (st : St) (res : (Int32 × St)) (hK102 : ∀ (v1 : Int64) (v3 : Int32) (st : St), K102 v1 v3 st = some res → At p l e (rmK 5) s m args below meth c D G ad (MQI D G ad below args s res) 5 st [(0, .ref (ad 130)), (1, .long v1), (3, .int v3)] 102 []) (hf : fX11_goesBy_s139 n K102  v1 v3 st = some res) : At p l e (rmK 5) s m args below meth c D G ad (MQI D G ad below args s res) 5 st [(0, .ref (ad 130)), (1, .long v1), (3, .int v3)] 139 [] := by
  obtain ⟨hx, hb, hml, hown, hts, hr, hlk, hK, had, hSt⟩ := id C
  intro H locs ls hl hP hS
  unfold fX11_goesBy_s139 at hf
  refine lv_aload_n hx hb dX11_goesBy_139 rfl (lv_at hl 0 rfl) ?_
  refine g_getR hx hb hts inlX11 hown hK hP 130 ct_130 rfl 22 (by decide) (hts _ wm_7_18) rfl dX11_goesBy_140 ?_
  refine lv_iload_n hx hb dX11_goesBy_143 rfl (lv_at hl 2 rfl) ?_
  refine lv_dup2_11 hx hb dX11_goesBy_144 rfl rfl ?_
  obtain ⟨g1, hf⟩ := gd hf
  refine g_lald hx hb hK hP 147 ct_147 g1 dX11_goesBy_145 ?_
  refine lv_aload_n hx hb dX11_goesBy_146 rfl (lv_at hl 0 rfl) ?_
  refine g_getR hx hb hts inlX11 hown hK hP 130 ct_130 rfl 15 (by decide) (hts _ wm_7_11) rfl dX11_goesBy_147 ?_
  refine lv_iload_n hx hb dX11_goesBy_150 rfl (lv_at hl 2 rfl) ?_
  obtain ⟨g2, hf⟩ := gd hf
  refine g_iald hx hb hK hP 140 ct_140 g2 dX11_goesBy_151 ?_
  refine lv_i2l hx hb dX11_goesBy_152 rfl ?_
  refine lv_ladd hx hb dX11_goesBy_153 ?_
  obtain ⟨g3, hf⟩ := gd hf
  refine g_last hx hb hK had hP hS 147 ct_147 g3 dX11_goesBy_154 (fun H locs hP hS => ?_)
  exact wX11_goesBy_s155 C n K102 v1 v3 (setJ st 147 v3.toNatClampNeg ((st.2 147 v3.toNatClampNeg) + ((st.1 140 v3.toNatClampNeg).toInt64))) res hK102 hf H locs ls (lv_sub hl [0, 1, 2] rfl) hP hS
def fX11_goesBy_s120 (n : Nat) (K102 : Int64 → Int32 → St → Option (Int32 × St))  (v1 : Int64) (v3 : Int32) (st : St) : Option (Int32 × St) := if inb (9 * v3) 64 = true then (if inb v3 8 = true then (if inb (9 * v3) 64 = true then (fX11_goesBy_s139 n K102 v1 v3 (setJ st 142 (9 * v3).toNatClampNeg ((st.2 142 (9 * v3).toNatClampNeg) + ((st.1 140 v3.toNatClampNeg).toInt64)))) else none) else none) else none
set_option maxHeartbeats 4000000 in
set_option maxRecDepth 100000 in
theorem wX11_goesBy_s120 (C : Cx p s m args meth c cX11_goesBy 5 wsL_law RX11 (some .int) D G ad) (n : Nat) (K102 : Int64 → Int32 → St → Option (Int32 × St))  (v1 : Int64) (v3 : Int32)   (st : St) (res : (Int32 × St)) (hK102 : ∀ (v1 : Int64) (v3 : Int32) (st : St), K102 v1 v3 st = some res → At p l e (rmK 5) s m args below meth c D G ad (MQI D G ad below args s res) 5 st [(0, .ref (ad 130)), (1, .long v1), (3, .int v3)] 102 []) (hf : fX11_goesBy_s120 n K102  v1 v3 st = some res) : At p l e (rmK 5) s m args below meth c D G ad (MQI D G ad below args s res) 5 st [(0, .ref (ad 130)), (1, .long v1), (3, .int v3)] 120 [] := by
  obtain ⟨hx, hb, hml, hown, hts, hr, hlk, hK, had, hSt⟩ := id C
  intro H locs ls hl hP hS
  unfold fX11_goesBy_s120 at hf
  refine lv_aload_n hx hb dX11_goesBy_120 rfl (lv_at hl 0 rfl) ?_
  refine g_getR hx hb hts inlX11 hown hK hP 130 ct_130 rfl 17 (by decide) (hts _ wm_7_13) rfl dX11_goesBy_121 ?_
  refine lv_bipush (v := 9) hx hb dX11_goesBy_124 (by decide) ?_
  refine lv_iload_n hx hb dX11_goesBy_126 rfl (lv_at hl 2 rfl) ?_
  refine lv_imul hx hb dX11_goesBy_127 ?_
  refine lv_dup2_11 hx hb dX11_goesBy_128 rfl rfl ?_
  obtain ⟨g1, hf⟩ := gd hf
  refine g_lald hx hb hK hP 142 ct_142 g1 dX11_goesBy_129 ?_
  refine lv_aload_n hx hb dX11_goesBy_130 rfl (lv_at hl 0 rfl) ?_
  refine g_getR hx hb hts inlX11 hown hK hP 130 ct_130 rfl 15 (by decide) (hts _ wm_7_11) rfl dX11_goesBy_131 ?_
  refine lv_iload_n hx hb dX11_goesBy_134 rfl (lv_at hl 2 rfl) ?_
  obtain ⟨g2, hf⟩ := gd hf
  refine g_iald hx hb hK hP 140 ct_140 g2 dX11_goesBy_135 ?_
  refine lv_i2l hx hb dX11_goesBy_136 rfl ?_
  refine lv_ladd hx hb dX11_goesBy_137 ?_
  obtain ⟨g3, hf⟩ := gd hf
  refine g_last hx hb hK had hP hS 142 ct_142 g3 dX11_goesBy_138 (fun H locs hP hS => ?_)
  exact wX11_goesBy_s139 C n K102 v1 v3 (setJ st 142 (9 * v3).toNatClampNeg ((st.2 142 (9 * v3).toNatClampNeg) + ((st.1 140 v3.toNatClampNeg).toInt64))) res hK102 hf H locs ls (lv_sub hl [0, 1, 2] rfl) hP hS
def fX11_goesBy_s110 (n : Nat) (K102 : Int64 → Int32 → St → Option (Int32 × St))  (v1 : Int64) (v3 : Int32) (st : St) : Option (Int32 × St) := if inb v3 8 = true then (if (st.1 131 v3.toNatClampNeg) = 3 then fX11_goesBy_s120 n K102 v1 v3 st else fX11_goesBy_s155 n K102 v1 v3 st) else none
set_option maxHeartbeats 4000000 in
set_option maxRecDepth 100000 in
theorem wX11_goesBy_s110 (C : Cx p s m args meth c cX11_goesBy 5 wsL_law RX11 (some .int) D G ad) (n : Nat) (K102 : Int64 → Int32 → St → Option (Int32 × St))  (v1 : Int64) (v3 : Int32)   (st : St) (res : (Int32 × St)) (hK102 : ∀ (v1 : Int64) (v3 : Int32) (st : St), K102 v1 v3 st = some res → At p l e (rmK 5) s m args below meth c D G ad (MQI D G ad below args s res) 5 st [(0, .ref (ad 130)), (1, .long v1), (3, .int v3)] 102 []) (hf : fX11_goesBy_s110 n K102  v1 v3 st = some res) : At p l e (rmK 5) s m args below meth c D G ad (MQI D G ad below args s res) 5 st [(0, .ref (ad 130)), (1, .long v1), (3, .int v3)] 110 [] := by
  obtain ⟨hx, hb, hml, hown, hts, hr, hlk, hK, had, hSt⟩ := id C
  intro H locs ls hl hP hS
  unfold fX11_goesBy_s110 at hf
  refine lv_aload_n hx hb dX11_goesBy_110 rfl (lv_at hl 0 rfl) ?_
  refine g_getR hx hb hts inlX11 hown hK hP 130 ct_130 rfl 1 (by decide) (hts _ wm_7_2) rfl dX11_goesBy_111 ?_
  refine lv_iload_n hx hb dX11_goesBy_114 rfl (lv_at hl 2 rfl) ?_
  obtain ⟨g1, hf⟩ := gd hf
  refine g_iald hx hb hK hP 131 ct_131 g1 dX11_goesBy_115 ?_
  refine lv_iconst (v := 3) hx hb dX11_goesBy_116 (by decide) ?_
  refine lv_icmp_ne (tgt := 155) hx hb dX11_goesBy_117 (by decide) (fun q => ?_) (fun q => ?_)
  · exact wX11_goesBy_s155 C n K102 v1 v3 st res hK102 (ie hf q) H locs ls (lv_sub hl [0, 1, 2] rfl) hP hS
  · exact wX11_goesBy_s120 C n K102 v1 v3 st res hK102 (it hf q) H locs ls (lv_sub hl [0, 1, 2] rfl) hP hS
def fX11_goesBy_s102 (n : Nat) (K102 : Int64 → Int32 → St → Option (Int32 × St))  (v1 : Int64) (v3 : Int32) (st : St) : Option (Int32 × St) := if (st.1 130 0) ≤ v3 then fX11_goesBy_s269 n v1 st else fX11_goesBy_s110 n K102 v1 v3 st
set_option maxHeartbeats 4000000 in
set_option maxRecDepth 100000 in
theorem wX11_goesBy_s102 (C : Cx p s m args meth c cX11_goesBy 5 wsL_law RX11 (some .int) D G ad) (n : Nat) (K102 : Int64 → Int32 → St → Option (Int32 × St))  (v1 : Int64) (v3 : Int32)   (st : St) (res : (Int32 × St)) (hK102 : ∀ (v1 : Int64) (v3 : Int32) (st : St), K102 v1 v3 st = some res → At p l e (rmK 5) s m args below meth c D G ad (MQI D G ad below args s res) 5 st [(0, .ref (ad 130)), (1, .long v1), (3, .int v3)] 102 []) (hf : fX11_goesBy_s102 n K102  v1 v3 st = some res) : At p l e (rmK 5) s m args below meth c D G ad (MQI D G ad below args s res) 5 st [(0, .ref (ad 130)), (1, .long v1), (3, .int v3)] 102 [] := by
  obtain ⟨hx, hb, hml, hown, hts, hr, hlk, hK, had, hSt⟩ := id C
  intro H locs ls hl hP hS
  unfold fX11_goesBy_s102 at hf
  refine lv_iload_n hx hb dX11_goesBy_102 rfl (lv_at hl 2 rfl) ?_
  refine lv_aload_n hx hb dX11_goesBy_103 rfl (lv_at hl 0 rfl) ?_
  refine g_getI hx hb hts inlX11 hown hK hP 130 ct_130 rfl 0 (by decide) (hts _ wm_10_11) rfl dX11_goesBy_104 ?_
  refine lv_icmp_ge (tgt := 269) hx hb dX11_goesBy_107 (by decide) (fun q => ?_) (fun q => ?_)
  · exact wX11_goesBy_s269 C n v1 st res (it hf q) H locs ls (lv_sub hl [0, 1] rfl) hP hS
  · exact wX11_goesBy_s110 C n K102 v1 v3 st res hK102 (ie hf q) H locs ls (lv_sub hl [0, 1, 2] rfl) hP hS
def fX11_goesBy_L102 (n : Nat)   : Nat → Int64 → Int32 → St → Option (Int32 × St)
  | 0, _, _, _ => none
  | k + 1, v1, v3, st => fX11_goesBy_s102 n (fX11_goesBy_L102 n k)  v1 v3 st
theorem wX11_goesBy_L102 (C : Cx p s m args meth c cX11_goesBy 5 wsL_law RX11 (some .int) D G ad) (n : Nat)    (res : (Int32 × St))  : ∀ (k : Nat) (v1 : Int64) (v3 : Int32)  (st : St), fX11_goesBy_L102 n k v1 v3 st = some res → At p l e (rmK 5) s m args below meth c D G ad (MQI D G ad below args s res) 5 st [(0, .ref (ad 130)), (1, .long v1), (3, .int v3)] 102 [] := by
  intro k
  induction k with
  | zero => intro v1 v3  st h; exact absurd h (by intro q; cases q)
  | succ k ih => intro v1 v3  st h; exact wX11_goesBy_s102 C n (fX11_goesBy_L102 n k)  v1 v3   st res ih h
def fX11_goesBy_s100 (n : Nat)   (v1 : Int64) (st : St) : Option (Int32 × St) := fX11_goesBy_L102 n n v1 0 st
set_option maxHeartbeats 4000000 in
set_option maxRecDepth 100000 in
theorem wX11_goesBy_s100 (C : Cx p s m args meth c cX11_goesBy 5 wsL_law RX11 (some .int) D G ad) (n : Nat)   (v1 : Int64)   (st : St) (res : (Int32 × St))  (hf : fX11_goesBy_s100 n   v1 st = some res) : At p l e (rmK 5) s m args below meth c D G ad (MQI D G ad below args s res) 5 st [(0, .ref (ad 130)), (1, .long v1)] 100 [] := by
  obtain ⟨hx, hb, hml, hown, hts, hr, hlk, hK, had, hSt⟩ := id C
  intro H locs ls hl hP hS
  unfold fX11_goesBy_s100 at hf
  refine lv_iconst (v := 0) hx hb dX11_goesBy_100 (by decide) ?_
  refine lv_istore_n (lv' := [(3, .int 0), (0, .ref (ad 130)), (1, .long v1)]) hx hb dX11_goesBy_101 rfl hl (by decide) rfl (fun ls hl => ?_)
  exact wX11_goesBy_L102 C n res n v1 0 st hf H locs ls (lv_sub hl [1, 2, 0] rfl) hP hS
def fX11_goesBy_s94 (n : Nat) (K4 : Int64 → Int32 → St → Option (Int32 × St))  (v1 : Int64) (v3 : Int32) (st : St) : Option (Int32 × St) := K4 v1 (v3 + 1) st
set_option maxHeartbeats 4000000 in
set_option maxRecDepth 100000 in
theorem wX11_goesBy_s94 (C : Cx p s m args meth c cX11_goesBy 5 wsL_law RX11 (some .int) D G ad) (n : Nat) (K4 : Int64 → Int32 → St → Option (Int32 × St))  (v1 : Int64) (v3 : Int32)   (st : St) (res : (Int32 × St)) (hK4 : ∀ (v1 : Int64) (v3 : Int32) (st : St), K4 v1 v3 st = some res → At p l e (rmK 5) s m args below meth c D G ad (MQI D G ad below args s res) 5 st [(0, .ref (ad 130)), (1, .long v1), (3, .int v3)] 4 []) (hf : fX11_goesBy_s94 n K4  v1 v3 st = some res) : At p l e (rmK 5) s m args below meth c D G ad (MQI D G ad below args s res) 5 st [(0, .ref (ad 130)), (1, .long v1), (3, .int v3)] 94 [] := by
  obtain ⟨hx, hb, hml, hown, hts, hr, hlk, hK, had, hSt⟩ := id C
  intro H locs ls hl hP hS
  unfold fX11_goesBy_s94 at hf
  refine lv_iinc (v := v3 + 1) (lv' := [(3, .int (v3 + 1)), (0, .ref (ad 130)), (1, .long v1)]) hx hb dX11_goesBy_94 hl (k := 2) rfl rfl (by decide) rfl (fun ls hl => ?_)
  refine lv_goto (tgt := 4) hx hb dX11_goesBy_97 (by decide) ?_
  exact hK4 v1 (v3 + 1)  st hf H locs ls (lv_sub hl [1, 2, 0] rfl) hP hS
def fX11_goesBy_s87 (n : Nat) (K4 : Int64 → Int32 → St → Option (Int32 × St))  (v1 : Int64) (v3 : Int32) (st : St) : Option (Int32 × St) := if inb v3 8 = true then (fX11_goesBy_s94 n K4 v1 v3 (setJ st 147 v3.toNatClampNeg 0)) else none
set_option maxHeartbeats 4000000 in
set_option maxRecDepth 100000 in
theorem wX11_goesBy_s87 (C : Cx p s m args meth c cX11_goesBy 5 wsL_law RX11 (some .int) D G ad) (n : Nat) (K4 : Int64 → Int32 → St → Option (Int32 × St))  (v1 : Int64) (v3 : Int32)   (st : St) (res : (Int32 × St)) (hK4 : ∀ (v1 : Int64) (v3 : Int32) (st : St), K4 v1 v3 st = some res → At p l e (rmK 5) s m args below meth c D G ad (MQI D G ad below args s res) 5 st [(0, .ref (ad 130)), (1, .long v1), (3, .int v3)] 4 []) (hf : fX11_goesBy_s87 n K4  v1 v3 st = some res) : At p l e (rmK 5) s m args below meth c D G ad (MQI D G ad below args s res) 5 st [(0, .ref (ad 130)), (1, .long v1), (3, .int v3)] 87 [] := by
  obtain ⟨hx, hb, hml, hown, hts, hr, hlk, hK, had, hSt⟩ := id C
  intro H locs ls hl hP hS
  unfold fX11_goesBy_s87 at hf
  refine lv_aload_n hx hb dX11_goesBy_87 rfl (lv_at hl 0 rfl) ?_
  refine g_getR hx hb hts inlX11 hown hK hP 130 ct_130 rfl 22 (by decide) (hts _ wm_7_18) rfl dX11_goesBy_88 ?_
  refine lv_iload_n hx hb dX11_goesBy_91 rfl (lv_at hl 2 rfl) ?_
  refine lv_lconst (v := 0) hx hb dX11_goesBy_92 (by decide) ?_
  obtain ⟨g1, hf⟩ := gd hf
  refine g_last hx hb hK had hP hS 147 ct_147 g1 dX11_goesBy_93 (fun H locs hP hS => ?_)
  exact wX11_goesBy_s94 C n K4 v1 v3 (setJ st 147 v3.toNatClampNeg 0) res hK4 hf H locs ls (lv_sub hl [0, 1, 2] rfl) hP hS
def fX11_goesBy_s74 (n : Nat) (K4 : Int64 → Int32 → St → Option (Int32 × St))  (v1 : Int64) (v3 : Int32) (st : St) : Option (Int32 × St) := if inb ((7 * v3) + 6) 56 = true then (fX11_goesBy_s87 n K4 v1 v3 (setJ st 143 ((7 * v3) + 6).toNatClampNeg 0)) else none
set_option maxHeartbeats 4000000 in
set_option maxRecDepth 100000 in
theorem wX11_goesBy_s74 (C : Cx p s m args meth c cX11_goesBy 5 wsL_law RX11 (some .int) D G ad) (n : Nat) (K4 : Int64 → Int32 → St → Option (Int32 × St))  (v1 : Int64) (v3 : Int32)   (st : St) (res : (Int32 × St)) (hK4 : ∀ (v1 : Int64) (v3 : Int32) (st : St), K4 v1 v3 st = some res → At p l e (rmK 5) s m args below meth c D G ad (MQI D G ad below args s res) 5 st [(0, .ref (ad 130)), (1, .long v1), (3, .int v3)] 4 []) (hf : fX11_goesBy_s74 n K4  v1 v3 st = some res) : At p l e (rmK 5) s m args below meth c D G ad (MQI D G ad below args s res) 5 st [(0, .ref (ad 130)), (1, .long v1), (3, .int v3)] 74 [] := by
  obtain ⟨hx, hb, hml, hown, hts, hr, hlk, hK, had, hSt⟩ := id C
  intro H locs ls hl hP hS
  unfold fX11_goesBy_s74 at hf
  refine lv_aload_n hx hb dX11_goesBy_74 rfl (lv_at hl 0 rfl) ?_
  refine g_getR hx hb hts inlX11 hown hK hP 130 ct_130 rfl 18 (by decide) (hts _ wm_7_14) rfl dX11_goesBy_75 ?_
  refine lv_bipush (v := 7) hx hb dX11_goesBy_78 (by decide) ?_
  refine lv_iload_n hx hb dX11_goesBy_80 rfl (lv_at hl 2 rfl) ?_
  refine lv_imul hx hb dX11_goesBy_81 ?_
  refine lv_bipush (v := 6) hx hb dX11_goesBy_82 (by decide) ?_
  refine lv_iadd hx hb dX11_goesBy_84 ?_
  refine lv_lconst (v := 0) hx hb dX11_goesBy_85 (by decide) ?_
  obtain ⟨g1, hf⟩ := gd hf
  refine g_last hx hb hK had hP hS 143 ct_143 g1 dX11_goesBy_86 (fun H locs hP hS => ?_)
  exact wX11_goesBy_s87 C n K4 v1 v3 (setJ st 143 ((7 * v3) + 6).toNatClampNeg 0) res hK4 hf H locs ls (lv_sub hl [0, 1, 2] rfl) hP hS
def fX11_goesBy_s68 (n : Nat) (K4 : Int64 → Int32 → St → Option (Int32 × St)) (K35 : Int64 → Int32 → Int32 → St → Option (Int32 × St))  (v1 : Int64) (v3 : Int32) (v4 : Int32) (st : St) : Option (Int32 × St) := K35 v1 v3 (v4 + 1) st
set_option maxHeartbeats 4000000 in
set_option maxRecDepth 100000 in
theorem wX11_goesBy_s68 (C : Cx p s m args meth c cX11_goesBy 5 wsL_law RX11 (some .int) D G ad) (n : Nat) (K4 : Int64 → Int32 → St → Option (Int32 × St)) (K35 : Int64 → Int32 → Int32 → St → Option (Int32 × St))  (v1 : Int64) (v3 : Int32) (v4 : Int32)   (st : St) (res : (Int32 × St)) (hK4 : ∀ (v1 : Int64) (v3 : Int32) (st : St), K4 v1 v3 st = some res → At p l e (rmK 5) s m args below meth c D G ad (MQI D G ad below args s res) 5 st [(0, .ref (ad 130)), (1, .long v1), (3, .int v3)] 4 []) (hK35 : ∀ (v1 : Int64) (v3 : Int32) (v4 : Int32) (st : St), K35 v1 v3 v4 st = some res → At p l e (rmK 5) s m args below meth c D G ad (MQI D G ad below args s res) 5 st [(0, .ref (ad 130)), (1, .long v1), (3, .int v3), (4, .int v4)] 35 []) (hf : fX11_goesBy_s68 n K4 K35  v1 v3 v4 st = some res) : At p l e (rmK 5) s m args below meth c D G ad (MQI D G ad below args s res) 5 st [(0, .ref (ad 130)), (1, .long v1), (3, .int v3), (4, .int v4)] 68 [] := by
  obtain ⟨hx, hb, hml, hown, hts, hr, hlk, hK, had, hSt⟩ := id C
  intro H locs ls hl hP hS
  unfold fX11_goesBy_s68 at hf
  refine lv_iinc (v := v4 + 1) (lv' := [(4, .int (v4 + 1)), (0, .ref (ad 130)), (1, .long v1), (3, .int v3)]) hx hb dX11_goesBy_68 hl (k := 3) rfl rfl (by decide) rfl (fun ls hl => ?_)
  refine lv_goto (tgt := 35) hx hb dX11_goesBy_71 (by decide) ?_
  exact hK35 v1 v3 (v4 + 1)  st hf H locs ls (lv_sub hl [1, 2, 3, 0] rfl) hP hS
def fX11_goesBy_s42 (n : Nat) (K4 : Int64 → Int32 → St → Option (Int32 × St)) (K35 : Int64 → Int32 → Int32 → St → Option (Int32 × St))  (v1 : Int64) (v3 : Int32) (v4 : Int32) (st : St) : Option (Int32 × St) := if inb (((7 * v3) + v4) + 1) 56 = true then (if inb ((7 * v3) + v4) 56 = true then (fX11_goesBy_s68 n K4 K35 v1 v3 v4 (setJ st 143 ((7 * v3) + v4).toNatClampNeg (st.2 143 (((7 * v3) + v4) + 1).toNatClampNeg))) else none) else none
set_option maxHeartbeats 4000000 in
set_option maxRecDepth 100000 in
theorem wX11_goesBy_s42 (C : Cx p s m args meth c cX11_goesBy 5 wsL_law RX11 (some .int) D G ad) (n : Nat) (K4 : Int64 → Int32 → St → Option (Int32 × St)) (K35 : Int64 → Int32 → Int32 → St → Option (Int32 × St))  (v1 : Int64) (v3 : Int32) (v4 : Int32)   (st : St) (res : (Int32 × St)) (hK4 : ∀ (v1 : Int64) (v3 : Int32) (st : St), K4 v1 v3 st = some res → At p l e (rmK 5) s m args below meth c D G ad (MQI D G ad below args s res) 5 st [(0, .ref (ad 130)), (1, .long v1), (3, .int v3)] 4 []) (hK35 : ∀ (v1 : Int64) (v3 : Int32) (v4 : Int32) (st : St), K35 v1 v3 v4 st = some res → At p l e (rmK 5) s m args below meth c D G ad (MQI D G ad below args s res) 5 st [(0, .ref (ad 130)), (1, .long v1), (3, .int v3), (4, .int v4)] 35 []) (hf : fX11_goesBy_s42 n K4 K35  v1 v3 v4 st = some res) : At p l e (rmK 5) s m args below meth c D G ad (MQI D G ad below args s res) 5 st [(0, .ref (ad 130)), (1, .long v1), (3, .int v3), (4, .int v4)] 42 [] := by
  obtain ⟨hx, hb, hml, hown, hts, hr, hlk, hK, had, hSt⟩ := id C
  intro H locs ls hl hP hS
  unfold fX11_goesBy_s42 at hf
  refine lv_aload_n hx hb dX11_goesBy_42 rfl (lv_at hl 0 rfl) ?_
  refine g_getR hx hb hts inlX11 hown hK hP 130 ct_130 rfl 18 (by decide) (hts _ wm_7_14) rfl dX11_goesBy_43 ?_
  refine lv_bipush (v := 7) hx hb dX11_goesBy_46 (by decide) ?_
  refine lv_iload_n hx hb dX11_goesBy_48 rfl (lv_at hl 2 rfl) ?_
  refine lv_imul hx hb dX11_goesBy_49 ?_
  refine lv_iload hx hb dX11_goesBy_50 (lv_at hl 3 rfl) ?_
  refine lv_iadd hx hb dX11_goesBy_52 ?_
  refine lv_aload_n hx hb dX11_goesBy_53 rfl (lv_at hl 0 rfl) ?_
  refine g_getR hx hb hts inlX11 hown hK hP 130 ct_130 rfl 18 (by decide) (hts _ wm_7_14) rfl dX11_goesBy_54 ?_
  refine lv_bipush (v := 7) hx hb dX11_goesBy_57 (by decide) ?_
  refine lv_iload_n hx hb dX11_goesBy_59 rfl (lv_at hl 2 rfl) ?_
  refine lv_imul hx hb dX11_goesBy_60 ?_
  refine lv_iload hx hb dX11_goesBy_61 (lv_at hl 3 rfl) ?_
  refine lv_iadd hx hb dX11_goesBy_63 ?_
  refine lv_iconst (v := 1) hx hb dX11_goesBy_64 (by decide) ?_
  refine lv_iadd hx hb dX11_goesBy_65 ?_
  obtain ⟨g1, hf⟩ := gd hf
  refine g_lald hx hb hK hP 143 ct_143 g1 dX11_goesBy_66 ?_
  obtain ⟨g2, hf⟩ := gd hf
  refine g_last hx hb hK had hP hS 143 ct_143 g2 dX11_goesBy_67 (fun H locs hP hS => ?_)
  exact wX11_goesBy_s68 C n K4 K35 v1 v3 v4 (setJ st 143 ((7 * v3) + v4).toNatClampNeg (st.2 143 (((7 * v3) + v4) + 1).toNatClampNeg)) res hK4 hK35 hf H locs ls (lv_sub hl [0, 1, 2, 3] rfl) hP hS
def fX11_goesBy_s35 (n : Nat) (K4 : Int64 → Int32 → St → Option (Int32 × St)) (K35 : Int64 → Int32 → Int32 → St → Option (Int32 × St))  (v1 : Int64) (v3 : Int32) (v4 : Int32) (st : St) : Option (Int32 × St) := if 6 ≤ v4 then fX11_goesBy_s74 n K4 v1 v3 st else fX11_goesBy_s42 n K4 K35 v1 v3 v4 st
set_option maxHeartbeats 4000000 in
set_option maxRecDepth 100000 in
theorem wX11_goesBy_s35 (C : Cx p s m args meth c cX11_goesBy 5 wsL_law RX11 (some .int) D G ad) (n : Nat) (K4 : Int64 → Int32 → St → Option (Int32 × St)) (K35 : Int64 → Int32 → Int32 → St → Option (Int32 × St))  (v1 : Int64) (v3 : Int32) (v4 : Int32)   (st : St) (res : (Int32 × St)) (hK4 : ∀ (v1 : Int64) (v3 : Int32) (st : St), K4 v1 v3 st = some res → At p l e (rmK 5) s m args below meth c D G ad (MQI D G ad below args s res) 5 st [(0, .ref (ad 130)), (1, .long v1), (3, .int v3)] 4 []) (hK35 : ∀ (v1 : Int64) (v3 : Int32) (v4 : Int32) (st : St), K35 v1 v3 v4 st = some res → At p l e (rmK 5) s m args below meth c D G ad (MQI D G ad below args s res) 5 st [(0, .ref (ad 130)), (1, .long v1), (3, .int v3), (4, .int v4)] 35 []) (hf : fX11_goesBy_s35 n K4 K35  v1 v3 v4 st = some res) : At p l e (rmK 5) s m args below meth c D G ad (MQI D G ad below args s res) 5 st [(0, .ref (ad 130)), (1, .long v1), (3, .int v3), (4, .int v4)] 35 [] := by
  obtain ⟨hx, hb, hml, hown, hts, hr, hlk, hK, had, hSt⟩ := id C
  intro H locs ls hl hP hS
  unfold fX11_goesBy_s35 at hf
  refine lv_iload hx hb dX11_goesBy_35 (lv_at hl 3 rfl) ?_
  refine lv_bipush (v := 6) hx hb dX11_goesBy_37 (by decide) ?_
  refine lv_icmp_ge (tgt := 74) hx hb dX11_goesBy_39 (by decide) (fun q => ?_) (fun q => ?_)
  · exact wX11_goesBy_s74 C n K4 v1 v3 st res hK4 (it hf q) H locs ls (lv_sub hl [0, 1, 2] rfl) hP hS
  · exact wX11_goesBy_s42 C n K4 K35 v1 v3 v4 st res hK4 hK35 (ie hf q) H locs ls (lv_sub hl [0, 1, 2, 3] rfl) hP hS
def fX11_goesBy_L35 (n : Nat) (K4 : Int64 → Int32 → St → Option (Int32 × St))  : Nat → Int64 → Int32 → Int32 → St → Option (Int32 × St)
  | 0, _, _, _, _ => none
  | k + 1, v1, v3, v4, st => fX11_goesBy_s35 n K4 (fX11_goesBy_L35 n K4 k)  v1 v3 v4 st
theorem wX11_goesBy_L35 (C : Cx p s m args meth c cX11_goesBy 5 wsL_law RX11 (some .int) D G ad) (n : Nat) (K4 : Int64 → Int32 → St → Option (Int32 × St))   (res : (Int32 × St)) (hK4 : ∀ (v1 : Int64) (v3 : Int32) (st : St), K4 v1 v3 st = some res → At p l e (rmK 5) s m args below meth c D G ad (MQI D G ad below args s res) 5 st [(0, .ref (ad 130)), (1, .long v1), (3, .int v3)] 4 []) : ∀ (k : Nat) (v1 : Int64) (v3 : Int32) (v4 : Int32)  (st : St), fX11_goesBy_L35 n K4 k v1 v3 v4 st = some res → At p l e (rmK 5) s m args below meth c D G ad (MQI D G ad below args s res) 5 st [(0, .ref (ad 130)), (1, .long v1), (3, .int v3), (4, .int v4)] 35 [] := by
  intro k
  induction k with
  | zero => intro v1 v3 v4  st h; exact absurd h (by intro q; cases q)
  | succ k ih => intro v1 v3 v4  st h; exact wX11_goesBy_s35 C n K4 (fX11_goesBy_L35 n K4 k)  v1 v3 v4   st res hK4 ih h
def fX11_goesBy_s32 (n : Nat) (K4 : Int64 → Int32 → St → Option (Int32 × St))  (v1 : Int64) (v3 : Int32) (st : St) : Option (Int32 × St) := fX11_goesBy_L35 n K4 n v1 v3 1 st
set_option maxHeartbeats 4000000 in
set_option maxRecDepth 100000 in
theorem wX11_goesBy_s32 (C : Cx p s m args meth c cX11_goesBy 5 wsL_law RX11 (some .int) D G ad) (n : Nat) (K4 : Int64 → Int32 → St → Option (Int32 × St))  (v1 : Int64) (v3 : Int32)   (st : St) (res : (Int32 × St)) (hK4 : ∀ (v1 : Int64) (v3 : Int32) (st : St), K4 v1 v3 st = some res → At p l e (rmK 5) s m args below meth c D G ad (MQI D G ad below args s res) 5 st [(0, .ref (ad 130)), (1, .long v1), (3, .int v3)] 4 []) (hf : fX11_goesBy_s32 n K4  v1 v3 st = some res) : At p l e (rmK 5) s m args below meth c D G ad (MQI D G ad below args s res) 5 st [(0, .ref (ad 130)), (1, .long v1), (3, .int v3)] 32 [] := by
  obtain ⟨hx, hb, hml, hown, hts, hr, hlk, hK, had, hSt⟩ := id C
  intro H locs ls hl hP hS
  unfold fX11_goesBy_s32 at hf
  refine lv_iconst (v := 1) hx hb dX11_goesBy_32 (by decide) ?_
  refine lv_istore (lv' := [(4, .int 1), (0, .ref (ad 130)), (1, .long v1), (3, .int v3)]) hx hb dX11_goesBy_33 hl (by decide) rfl (fun ls hl => ?_)
  exact wX11_goesBy_L35 C n K4 res hK4 n v1 v3 1 st hf H locs ls (lv_sub hl [1, 2, 3, 0] rfl) hP hS
def fX11_goesBy_s12 (n : Nat) (K4 : Int64 → Int32 → St → Option (Int32 × St))  (v1 : Int64) (v3 : Int32) (st : St) : Option (Int32 × St) := if inb v3 8 = true then (if inb ((7 * v3) + 1) 56 = true then (if inb v3 8 = true then (fX11_goesBy_s32 n K4 v1 v3 (setJ st 141 v3.toNatClampNeg ((st.2 141 v3.toNatClampNeg) + (st.2 143 ((7 * v3) + 1).toNatClampNeg)))) else none) else none) else none
set_option maxHeartbeats 4000000 in
set_option maxRecDepth 100000 in
theorem wX11_goesBy_s12 (C : Cx p s m args meth c cX11_goesBy 5 wsL_law RX11 (some .int) D G ad) (n : Nat) (K4 : Int64 → Int32 → St → Option (Int32 × St))  (v1 : Int64) (v3 : Int32)   (st : St) (res : (Int32 × St)) (hK4 : ∀ (v1 : Int64) (v3 : Int32) (st : St), K4 v1 v3 st = some res → At p l e (rmK 5) s m args below meth c D G ad (MQI D G ad below args s res) 5 st [(0, .ref (ad 130)), (1, .long v1), (3, .int v3)] 4 []) (hf : fX11_goesBy_s12 n K4  v1 v3 st = some res) : At p l e (rmK 5) s m args below meth c D G ad (MQI D G ad below args s res) 5 st [(0, .ref (ad 130)), (1, .long v1), (3, .int v3)] 12 [] := by
  obtain ⟨hx, hb, hml, hown, hts, hr, hlk, hK, had, hSt⟩ := id C
  intro H locs ls hl hP hS
  unfold fX11_goesBy_s12 at hf
  refine lv_aload_n hx hb dX11_goesBy_12 rfl (lv_at hl 0 rfl) ?_
  refine g_getR hx hb hts inlX11 hown hK hP 130 ct_130 rfl 16 (by decide) (hts _ wm_7_12) rfl dX11_goesBy_13 ?_
  refine lv_iload_n hx hb dX11_goesBy_16 rfl (lv_at hl 2 rfl) ?_
  refine lv_dup2_11 hx hb dX11_goesBy_17 rfl rfl ?_
  obtain ⟨g1, hf⟩ := gd hf
  refine g_lald hx hb hK hP 141 ct_141 g1 dX11_goesBy_18 ?_
  refine lv_aload_n hx hb dX11_goesBy_19 rfl (lv_at hl 0 rfl) ?_
  refine g_getR hx hb hts inlX11 hown hK hP 130 ct_130 rfl 18 (by decide) (hts _ wm_7_14) rfl dX11_goesBy_20 ?_
  refine lv_bipush (v := 7) hx hb dX11_goesBy_23 (by decide) ?_
  refine lv_iload_n hx hb dX11_goesBy_25 rfl (lv_at hl 2 rfl) ?_
  refine lv_imul hx hb dX11_goesBy_26 ?_
  refine lv_iconst (v := 1) hx hb dX11_goesBy_27 (by decide) ?_
  refine lv_iadd hx hb dX11_goesBy_28 ?_
  obtain ⟨g2, hf⟩ := gd hf
  refine g_lald hx hb hK hP 143 ct_143 g2 dX11_goesBy_29 ?_
  refine lv_ladd hx hb dX11_goesBy_30 ?_
  obtain ⟨g3, hf⟩ := gd hf
  refine g_last hx hb hK had hP hS 141 ct_141 g3 dX11_goesBy_31 (fun H locs hP hS => ?_)
  exact wX11_goesBy_s32 C n K4 v1 v3 (setJ st 141 v3.toNatClampNeg ((st.2 141 v3.toNatClampNeg) + (st.2 143 ((7 * v3) + 1).toNatClampNeg))) res hK4 hf H locs ls (lv_sub hl [0, 1, 2] rfl) hP hS
def fX11_goesBy_s4 (n : Nat) (K4 : Int64 → Int32 → St → Option (Int32 × St))  (v1 : Int64) (v3 : Int32) (st : St) : Option (Int32 × St) := if (st.1 130 0) ≤ v3 then fX11_goesBy_s100 n v1 st else fX11_goesBy_s12 n K4 v1 v3 st
set_option maxHeartbeats 4000000 in
set_option maxRecDepth 100000 in
theorem wX11_goesBy_s4 (C : Cx p s m args meth c cX11_goesBy 5 wsL_law RX11 (some .int) D G ad) (n : Nat) (K4 : Int64 → Int32 → St → Option (Int32 × St))  (v1 : Int64) (v3 : Int32)   (st : St) (res : (Int32 × St)) (hK4 : ∀ (v1 : Int64) (v3 : Int32) (st : St), K4 v1 v3 st = some res → At p l e (rmK 5) s m args below meth c D G ad (MQI D G ad below args s res) 5 st [(0, .ref (ad 130)), (1, .long v1), (3, .int v3)] 4 []) (hf : fX11_goesBy_s4 n K4  v1 v3 st = some res) : At p l e (rmK 5) s m args below meth c D G ad (MQI D G ad below args s res) 5 st [(0, .ref (ad 130)), (1, .long v1), (3, .int v3)] 4 [] := by
  obtain ⟨hx, hb, hml, hown, hts, hr, hlk, hK, had, hSt⟩ := id C
  intro H locs ls hl hP hS
  unfold fX11_goesBy_s4 at hf
  refine lv_iload_n hx hb dX11_goesBy_4 rfl (lv_at hl 2 rfl) ?_
  refine lv_aload_n hx hb dX11_goesBy_5 rfl (lv_at hl 0 rfl) ?_
  refine g_getI hx hb hts inlX11 hown hK hP 130 ct_130 rfl 0 (by decide) (hts _ wm_10_11) rfl dX11_goesBy_6 ?_
  refine lv_icmp_ge (tgt := 100) hx hb dX11_goesBy_9 (by decide) (fun q => ?_) (fun q => ?_)
  · exact wX11_goesBy_s100 C n v1 st res (it hf q) H locs ls (lv_sub hl [0, 1] rfl) hP hS
  · exact wX11_goesBy_s12 C n K4 v1 v3 st res hK4 (ie hf q) H locs ls (lv_sub hl [0, 1, 2] rfl) hP hS
def fX11_goesBy_L4 (n : Nat)   : Nat → Int64 → Int32 → St → Option (Int32 × St)
  | 0, _, _, _ => none
  | k + 1, v1, v3, st => fX11_goesBy_s4 n (fX11_goesBy_L4 n k)  v1 v3 st
theorem wX11_goesBy_L4 (C : Cx p s m args meth c cX11_goesBy 5 wsL_law RX11 (some .int) D G ad) (n : Nat)    (res : (Int32 × St))  : ∀ (k : Nat) (v1 : Int64) (v3 : Int32)  (st : St), fX11_goesBy_L4 n k v1 v3 st = some res → At p l e (rmK 5) s m args below meth c D G ad (MQI D G ad below args s res) 5 st [(0, .ref (ad 130)), (1, .long v1), (3, .int v3)] 4 [] := by
  intro k
  induction k with
  | zero => intro v1 v3  st h; exact absurd h (by intro q; cases q)
  | succ k ih => intro v1 v3  st h; exact wX11_goesBy_s4 C n (fX11_goesBy_L4 n k)  v1 v3   st res ih h
def fX11_goesBy_s0 (n : Nat)    (st : St) : Option (Int32 × St) := fX11_goesBy_L4 n n 0 0 st
set_option maxHeartbeats 4000000 in
set_option maxRecDepth 100000 in
theorem wX11_goesBy_s0 (C : Cx p s m args meth c cX11_goesBy 5 wsL_law RX11 (some .int) D G ad) (n : Nat)      (st : St) (res : (Int32 × St))  (hf : fX11_goesBy_s0 n    st = some res) : At p l e (rmK 5) s m args below meth c D G ad (MQI D G ad below args s res) 5 st [(0, .ref (ad 130))] 0 [] := by
  obtain ⟨hx, hb, hml, hown, hts, hr, hlk, hK, had, hSt⟩ := id C
  intro H locs ls hl hP hS
  unfold fX11_goesBy_s0 at hf
  refine lv_lconst (v := 0) hx hb dX11_goesBy_0 (by decide) ?_
  refine lv_lstore_n (lv' := [(1, .long 0), (0, .ref (ad 130))]) hx hb dX11_goesBy_1 rfl hl (by decide) rfl (fun ls hl => ?_)
  refine lv_iconst (v := 0) hx hb dX11_goesBy_2 (by decide) ?_
  refine lv_istore_n (lv' := [(3, .int 0), (1, .long 0), (0, .ref (ad 130))]) hx hb dX11_goesBy_3 rfl hl (by decide) rfl (fun ls hl => ?_)
  exact wX11_goesBy_L4 C n res n 0 0 st hf H locs ls (lv_sub hl [2, 1, 0] rfl) hP hS
def fX11_goesBy (n : Nat)   (st : St) : Option (Int32 × St) := fX11_goesBy_s0 n st
theorem okX11_goesBy : okY yX11_goesBy RX11 0 := by unfold okY; decide +kernel
end
set_option maxRecDepth 100000 in
theorem kX11_goesBy (l : Launch) (D : va_G) (G : G3) (ad : Nat → Nat) (had : Adr ad) (n : Nat)    (st : St) (res : (Int32 × St)) (hf : fX11_goesBy n   st = some res) {sz : Nat} : CtI l yX11_goesBy (wsU yX11_goesBy cX11_goesBy 5 (some .int)) (rmK 5) D G ad sz [.ref (ad 130)] st res := by
  refine Met.ofW (cc := cX11_goesBy) (maxL := 5) (ret := (some .int)) (by decide) rfl ?_
  intro p e s m args below meth c s₁ B hml hv
  obtain ⟨rfl, hsz, hP, hK, hSt⟩ := hv
  have hts := atoms_spec (ws := wsU yX11_goesBy cX11_goesBy 5 (some .int)) B.pre
  have C : Cx p s m _ meth c cX11_goesBy 5 wsL_law RX11 (some .int) D G ad := ⟨B.exec, B.bytes, hml, findClass_of_methodNamed B.named, fun w h => hts w (List.mem_cons_of_mem _ h), B.returns, B.notSynchronized, hK, had, hSt⟩
  subst hsz
  have hl := lv_entry ([.ref (ad 130)]) (n := 5) (Nat.le_of_ble_eq_true rfl)
  rw [lg_entry_eq]
  generalize (lg_sl ([.ref (ad 130)]) ++ List.replicate (5 - (lg_sl ([.ref (ad 130)])).length) Slot.unset).toArray = ls at hl ⊢
  exact wX11_goesBy_s0 C n     st res hf s.heap [] ls (lv_sub hl [0] rfl) hP va_S.rf
section
variable {p : Program} {l : Launch} {e : Env} {s : State} {m : MethodId} {args : Array Value} {below : List Frame} {meth : Method} {c : Code} {D : va_G} {G : G3} {ad : Nat → Nat}
def fX11_week_s29 (n : Nat)   (k0 : Int32) (st : St) : Option (Int32 × St) := some (k0, st)
set_option maxHeartbeats 4000000 in
set_option maxRecDepth 100000 in
theorem wX11_week_s29 (C : Cx p s m args meth c cX11_week 1 wsL_law RX11 (some .int) D G ad) (n : Nat)   (k0 : Int32)   (st : St) (res : (Int32 × St))  (hf : fX11_week_s29 n   k0 st = some res) : At p l e (rmK 6) s m args below meth c D G ad (MQI D G ad below args s res) 1 st [] 29 [.int k0] := by
  obtain ⟨hx, hb, hml, hown, hts, hr, hlk, hK, had, hSt⟩ := id C
  intro H locs ls hl hP hS
  unfold fX11_week_s29 at hf
  exact g_iret hx hb hr hlk hP hS dX11_week_29 hf
def fX11_week_s25 (n : Nat)    (st : St) : Option (Int32 × St) := (fX11_goesBy n st).bind (fun q => fX11_week_s29 n q.1 q.2)
set_option maxHeartbeats 4000000 in
set_option maxRecDepth 100000 in
theorem wX11_week_s25 (C : Cx p s m args meth c cX11_week 1 wsL_law RX11 (some .int) D G ad) (n : Nat)      (st : St) (res : (Int32 × St))  (hf : fX11_week_s25 n    st = some res) : At p l e (rmK 6) s m args below meth c D G ad (MQI D G ad below args s res) 1 st [(0, .ref (ad 130))] 25 [] := by
  obtain ⟨hx, hb, hml, hown, hts, hr, hlk, hK, had, hSt⟩ := id C
  intro H locs ls hl hP hS
  unfold fX11_week_s25 at hf
  refine lv_aload_n hx hb dX11_week_25 rfl (lv_at hl 0 rfl) ?_
  obtain ⟨q, hq, hf⟩ := bd hf
  refine gcV_i (k := 5) (o := 130) (As := []) (rest := []) hx hb hml hown hts hK hSt hP hS hl.1 (goodV wm_22_19 wm_22_20 wm_22_21 wm_1_5 wm_22_22) okX11_goesBy ct_130 rfl rfl (Nat.le_of_ble_eq_true rfl) (Nat.le_of_ble_eq_true rfl) rfl rfl (Nat.le_of_ble_eq_true rfl) dX11_week_26 (kX11_goesBy l D G ad had n   st q hq) (fun H locs hP hS => ?_)
  exact wX11_week_s29 C n q.1 q.2 res hf H locs ls (lv_sub hl [] rfl) hP hS
def fX11_week_s20 (n : Nat)    (st : St) : Option (Int32 × St) := fX11_week_s29 n (-4) st
set_option maxHeartbeats 4000000 in
set_option maxRecDepth 100000 in
theorem wX11_week_s20 (C : Cx p s m args meth c cX11_week 1 wsL_law RX11 (some .int) D G ad) (n : Nat)      (st : St) (res : (Int32 × St))  (hf : fX11_week_s20 n    st = some res) : At p l e (rmK 6) s m args below meth c D G ad (MQI D G ad below args s res) 1 st [] 20 [] := by
  obtain ⟨hx, hb, hml, hown, hts, hr, hlk, hK, had, hSt⟩ := id C
  intro H locs ls hl hP hS
  unfold fX11_week_s20 at hf
  refine lv_bipush (v := (-4)) hx hb dX11_week_20 (by decide) ?_
  refine lv_goto (tgt := 29) hx hb dX11_week_22 (by decide) ?_
  exact wX11_week_s29 C n (-4) st res hf H locs ls (lv_sub hl [] rfl) hP hS
def fX11_week_s10 (n : Nat)    (st : St) : Option (Int32 × St) := if (st.1 130 12) = 400 then fX11_week_s20 n st else fX11_week_s25 n st
set_option maxHeartbeats 4000000 in
set_option maxRecDepth 100000 in
theorem wX11_week_s10 (C : Cx p s m args meth c cX11_week 1 wsL_law RX11 (some .int) D G ad) (n : Nat)      (st : St) (res : (Int32 × St))  (hf : fX11_week_s10 n    st = some res) : At p l e (rmK 6) s m args below meth c D G ad (MQI D G ad below args s res) 1 st [(0, .ref (ad 130))] 10 [] := by
  obtain ⟨hx, hb, hml, hown, hts, hr, hlk, hK, had, hSt⟩ := id C
  intro H locs ls hl hP hS
  unfold fX11_week_s10 at hf
  refine lv_aload_n hx hb dX11_week_10 rfl (lv_at hl 0 rfl) ?_
  refine g_getI hx hb hts inlX11 hown hK hP 130 ct_130 rfl 12 (by decide) (hts _ wm_10_15) rfl dX11_week_11 ?_
  refine lv_sipush (v := 400) hx hb dX11_week_14 (by decide) ?_
  refine lv_icmp_ne (tgt := 25) hx hb dX11_week_17 (by decide) (fun q => ?_) (fun q => ?_)
  · exact wX11_week_s25 C n st res (ie hf q) H locs ls (lv_sub hl [0] rfl) hP hS
  · exact wX11_week_s20 C n st res (it hf q) H locs ls (lv_sub hl [] rfl) hP hS
def fX11_week_s7 (n : Nat)    (st : St) : Option (Int32 × St) := some ((-3), st)
set_option maxHeartbeats 4000000 in
set_option maxRecDepth 100000 in
theorem wX11_week_s7 (C : Cx p s m args meth c cX11_week 1 wsL_law RX11 (some .int) D G ad) (n : Nat)      (st : St) (res : (Int32 × St))  (hf : fX11_week_s7 n    st = some res) : At p l e (rmK 6) s m args below meth c D G ad (MQI D G ad below args s res) 1 st [] 7 [] := by
  obtain ⟨hx, hb, hml, hown, hts, hr, hlk, hK, had, hSt⟩ := id C
  intro H locs ls hl hP hS
  unfold fX11_week_s7 at hf
  refine lv_bipush (v := (-3)) hx hb dX11_week_7 (by decide) ?_
  exact g_iret hx hb hr hlk hP hS dX11_week_9 hf
def fX11_week_s0 (n : Nat)    (st : St) : Option (Int32 × St) := if (st.1 130 0) = 0 then fX11_week_s7 n st else fX11_week_s10 n st
set_option maxHeartbeats 4000000 in
set_option maxRecDepth 100000 in
theorem wX11_week_s0 (C : Cx p s m args meth c cX11_week 1 wsL_law RX11 (some .int) D G ad) (n : Nat)      (st : St) (res : (Int32 × St))  (hf : fX11_week_s0 n    st = some res) : At p l e (rmK 6) s m args below meth c D G ad (MQI D G ad below args s res) 1 st [(0, .ref (ad 130))] 0 [] := by
  obtain ⟨hx, hb, hml, hown, hts, hr, hlk, hK, had, hSt⟩ := id C
  intro H locs ls hl hP hS
  unfold fX11_week_s0 at hf
  refine lv_aload_n hx hb dX11_week_0 rfl (lv_at hl 0 rfl) ?_
  refine g_getI hx hb hts inlX11 hown hK hP 130 ct_130 rfl 0 (by decide) (hts _ wm_10_11) rfl dX11_week_1 ?_
  refine lv_if_ne (tgt := 10) hx hb dX11_week_4 (by decide) (fun q => ?_) (fun q => ?_)
  · exact wX11_week_s10 C n st res (ie hf q) H locs ls (lv_sub hl [0] rfl) hP hS
  · exact wX11_week_s7 C n st res (it hf q) H locs ls (lv_sub hl [] rfl) hP hS
def fX11_week (n : Nat)   (st : St) : Option (Int32 × St) := fX11_week_s0 n st
theorem okX11_week : okY yX11_week RX11 0 := by unfold okY; decide +kernel
end
set_option maxRecDepth 100000 in
theorem kX11_week (l : Launch) (D : va_G) (G : G3) (ad : Nat → Nat) (had : Adr ad) (n : Nat)    (st : St) (res : (Int32 × St)) (hf : fX11_week n   st = some res) {sz : Nat} : CtI l yX11_week (wsU yX11_week cX11_week 1 (some .int)) (rmK 6) D G ad sz [.ref (ad 130)] st res := by
  refine Met.ofW (cc := cX11_week) (maxL := 1) (ret := (some .int)) (by decide) rfl ?_
  intro p e s m args below meth c s₁ B hml hv
  obtain ⟨rfl, hsz, hP, hK, hSt⟩ := hv
  have hts := atoms_spec (ws := wsU yX11_week cX11_week 1 (some .int)) B.pre
  have C : Cx p s m _ meth c cX11_week 1 wsL_law RX11 (some .int) D G ad := ⟨B.exec, B.bytes, hml, findClass_of_methodNamed B.named, fun w h => hts w (List.mem_cons_of_mem _ h), B.returns, B.notSynchronized, hK, had, hSt⟩
  subst hsz
  have hl := lv_entry ([.ref (ad 130)]) (n := 1) (Nat.le_of_ble_eq_true rfl)
  rw [lg_entry_eq]
  generalize (lg_sl ([.ref (ad 130)]) ++ List.replicate (1 - (lg_sl ([.ref (ad 130)])).length) Slot.unset).toArray = ls at hl ⊢
  exact wX11_week_s0 C n     st res hf s.heap [] ls (lv_sub hl [0] rfl) hP va_S.rf
section
variable {p : Program} {l : Launch} {e : Env} {s : State} {m : MethodId} {args : Array Value} {below : List Frame} {meth : Method} {c : Code} {D : va_G} {G : G3} {ad : Nat → Nat}
def fX11_demands_s37 (n : Nat)    (st : St) : Option (Unit × St) := some ((), st)
set_option maxHeartbeats 4000000 in
set_option maxRecDepth 100000 in
theorem wX11_demands_s37 (C : Cx p s m args meth c cX11_demands 3 wsL_law RX11 none D G ad) (n : Nat)      (st : St) (res : (Unit × St))  (hf : fX11_demands_s37 n    st = some res) : At p l e (rmK 0) s m args below meth c D G ad (MQV D G ad below args s res) 3 st [] 37 [] := by
  obtain ⟨hx, hb, hml, hown, hts, hr, hlk, hK, had, hSt⟩ := id C
  intro H locs ls hl hP hS
  unfold fX11_demands_s37 at hf
  exact g_vret hx hb hr hlk hP hS dX11_demands_37 hf
def fX11_demands_s31 (n : Nat) (K2 : Int32 → Int32 → St → Option (Unit × St))  (v1 : Int32) (v2 : Int32) (st : St) : Option (Unit × St) := K2 v1 (v2 + 1) st
set_option maxHeartbeats 4000000 in
set_option maxRecDepth 100000 in
theorem wX11_demands_s31 (C : Cx p s m args meth c cX11_demands 3 wsL_law RX11 none D G ad) (n : Nat) (K2 : Int32 → Int32 → St → Option (Unit × St))  (v1 : Int32) (v2 : Int32)   (st : St) (res : (Unit × St)) (hK2 : ∀ (v1 : Int32) (v2 : Int32) (st : St), K2 v1 v2 st = some res → At p l e (rmK 0) s m args below meth c D G ad (MQV D G ad below args s res) 3 st [(0, .ref (ad 130)), (1, .int v1), (2, .int v2)] 2 []) (hf : fX11_demands_s31 n K2  v1 v2 st = some res) : At p l e (rmK 0) s m args below meth c D G ad (MQV D G ad below args s res) 3 st [(0, .ref (ad 130)), (1, .int v1), (2, .int v2)] 31 [] := by
  obtain ⟨hx, hb, hml, hown, hts, hr, hlk, hK, had, hSt⟩ := id C
  intro H locs ls hl hP hS
  unfold fX11_demands_s31 at hf
  refine lv_iinc (v := v2 + 1) (lv' := [(2, .int (v2 + 1)), (0, .ref (ad 130)), (1, .int v1)]) hx hb dX11_demands_31 hl (k := 2) rfl rfl (by decide) rfl (fun ls hl => ?_)
  refine lv_goto (tgt := 2) hx hb dX11_demands_34 (by decide) ?_
  exact hK2 v1 (v2 + 1)  st hf H locs ls (lv_sub hl [1, 2, 0] rfl) hP hS
def fX11_demands_s30 (n : Nat) (K2 : Int32 → Int32 → St → Option (Unit × St))  (v1 : Int32) (v2 : Int32) (k1 : Int32) (k2 : Int32) (st : St) : Option (Unit × St) := if inb k1 8 = true then (fX11_demands_s31 n K2 v1 v2 (setI st 140 k1.toNatClampNeg k2)) else none
set_option maxHeartbeats 4000000 in
set_option maxRecDepth 100000 in
theorem wX11_demands_s30 (C : Cx p s m args meth c cX11_demands 3 wsL_law RX11 none D G ad) (n : Nat) (K2 : Int32 → Int32 → St → Option (Unit × St))  (v1 : Int32) (v2 : Int32) (k1 : Int32) (k2 : Int32)   (st : St) (res : (Unit × St)) (hK2 : ∀ (v1 : Int32) (v2 : Int32) (st : St), K2 v1 v2 st = some res → At p l e (rmK 0) s m args below meth c D G ad (MQV D G ad below args s res) 3 st [(0, .ref (ad 130)), (1, .int v1), (2, .int v2)] 2 []) (hf : fX11_demands_s30 n K2  v1 v2 k1 k2 st = some res) : At p l e (rmK 0) s m args below meth c D G ad (MQV D G ad below args s res) 3 st [(0, .ref (ad 130)), (1, .int v1), (2, .int v2)] 30 [.int k2, .int k1, .ref (ad 140)] := by
  obtain ⟨hx, hb, hml, hown, hts, hr, hlk, hK, had, hSt⟩ := id C
  intro H locs ls hl hP hS
  unfold fX11_demands_s30 at hf
  obtain ⟨g1, hf⟩ := gd hf
  refine g_iast hx hb hK had hP hS 140 ct_140 g1 dX11_demands_30 (fun H locs hP hS => ?_)
  exact wX11_demands_s31 C n K2 v1 v2 (setI st 140 k1.toNatClampNeg k2) res hK2 hf H locs ls (lv_sub hl [0, 1, 2] rfl) hP hS
def fX11_demands_s29 (n : Nat) (K2 : Int32 → Int32 → St → Option (Unit × St))  (v1 : Int32) (v2 : Int32) (k1 : Int32) (st : St) : Option (Unit × St) := fX11_demands_s30 n K2 v1 v2 k1 0 st
set_option maxHeartbeats 4000000 in
set_option maxRecDepth 100000 in
theorem wX11_demands_s29 (C : Cx p s m args meth c cX11_demands 3 wsL_law RX11 none D G ad) (n : Nat) (K2 : Int32 → Int32 → St → Option (Unit × St))  (v1 : Int32) (v2 : Int32) (k1 : Int32)   (st : St) (res : (Unit × St)) (hK2 : ∀ (v1 : Int32) (v2 : Int32) (st : St), K2 v1 v2 st = some res → At p l e (rmK 0) s m args below meth c D G ad (MQV D G ad below args s res) 3 st [(0, .ref (ad 130)), (1, .int v1), (2, .int v2)] 2 []) (hf : fX11_demands_s29 n K2  v1 v2 k1 st = some res) : At p l e (rmK 0) s m args below meth c D G ad (MQV D G ad below args s res) 3 st [(0, .ref (ad 130)), (1, .int v1), (2, .int v2)] 29 [.int k1, .ref (ad 140)] := by
  obtain ⟨hx, hb, hml, hown, hts, hr, hlk, hK, had, hSt⟩ := id C
  intro H locs ls hl hP hS
  unfold fX11_demands_s29 at hf
  refine lv_iconst (v := 0) hx hb dX11_demands_29 (by decide) ?_
  exact wX11_demands_s30 C n K2 v1 v2 k1 0 st res hK2 hf H locs ls (lv_sub hl [0, 1, 2] rfl) hP hS
def fX11_demands_s25 (n : Nat) (K2 : Int32 → Int32 → St → Option (Unit × St))  (v1 : Int32) (v2 : Int32) (k1 : Int32) (st : St) : Option (Unit × St) := fX11_demands_s30 n K2 v1 v2 k1 v1 st
set_option maxHeartbeats 4000000 in
set_option maxRecDepth 100000 in
theorem wX11_demands_s25 (C : Cx p s m args meth c cX11_demands 3 wsL_law RX11 none D G ad) (n : Nat) (K2 : Int32 → Int32 → St → Option (Unit × St))  (v1 : Int32) (v2 : Int32) (k1 : Int32)   (st : St) (res : (Unit × St)) (hK2 : ∀ (v1 : Int32) (v2 : Int32) (st : St), K2 v1 v2 st = some res → At p l e (rmK 0) s m args below meth c D G ad (MQV D G ad below args s res) 3 st [(0, .ref (ad 130)), (1, .int v1), (2, .int v2)] 2 []) (hf : fX11_demands_s25 n K2  v1 v2 k1 st = some res) : At p l e (rmK 0) s m args below meth c D G ad (MQV D G ad below args s res) 3 st [(0, .ref (ad 130)), (1, .int v1), (2, .int v2)] 25 [.int k1, .ref (ad 140)] := by
  obtain ⟨hx, hb, hml, hown, hts, hr, hlk, hK, had, hSt⟩ := id C
  intro H locs ls hl hP hS
  unfold fX11_demands_s25 at hf
  refine lv_iload_n hx hb dX11_demands_25 rfl (lv_at hl 1 rfl) ?_
  refine lv_goto (tgt := 30) hx hb dX11_demands_26 (by decide) ?_
  exact wX11_demands_s30 C n K2 v1 v2 k1 v1 st res hK2 hf H locs ls (lv_sub hl [0, 1, 2] rfl) hP hS
def fX11_demands_s10 (n : Nat) (K2 : Int32 → Int32 → St → Option (Unit × St))  (v1 : Int32) (v2 : Int32) (st : St) : Option (Unit × St) := if inb v2 8 = true then (if (st.1 131 v2.toNatClampNeg) = 3 then fX11_demands_s25 n K2 v1 v2 v2 st else fX11_demands_s29 n K2 v1 v2 v2 st) else none
set_option maxHeartbeats 4000000 in
set_option maxRecDepth 100000 in
theorem wX11_demands_s10 (C : Cx p s m args meth c cX11_demands 3 wsL_law RX11 none D G ad) (n : Nat) (K2 : Int32 → Int32 → St → Option (Unit × St))  (v1 : Int32) (v2 : Int32)   (st : St) (res : (Unit × St)) (hK2 : ∀ (v1 : Int32) (v2 : Int32) (st : St), K2 v1 v2 st = some res → At p l e (rmK 0) s m args below meth c D G ad (MQV D G ad below args s res) 3 st [(0, .ref (ad 130)), (1, .int v1), (2, .int v2)] 2 []) (hf : fX11_demands_s10 n K2  v1 v2 st = some res) : At p l e (rmK 0) s m args below meth c D G ad (MQV D G ad below args s res) 3 st [(0, .ref (ad 130)), (1, .int v1), (2, .int v2)] 10 [] := by
  obtain ⟨hx, hb, hml, hown, hts, hr, hlk, hK, had, hSt⟩ := id C
  intro H locs ls hl hP hS
  unfold fX11_demands_s10 at hf
  refine lv_aload_n hx hb dX11_demands_10 rfl (lv_at hl 0 rfl) ?_
  refine g_getR hx hb hts inlX11 hown hK hP 130 ct_130 rfl 15 (by decide) (hts _ wm_7_11) rfl dX11_demands_11 ?_
  refine lv_iload_n hx hb dX11_demands_14 rfl (lv_at hl 2 rfl) ?_
  refine lv_aload_n hx hb dX11_demands_15 rfl (lv_at hl 0 rfl) ?_
  refine g_getR hx hb hts inlX11 hown hK hP 130 ct_130 rfl 1 (by decide) (hts _ wm_7_2) rfl dX11_demands_16 ?_
  refine lv_iload_n hx hb dX11_demands_19 rfl (lv_at hl 2 rfl) ?_
  obtain ⟨g1, hf⟩ := gd hf
  refine g_iald hx hb hK hP 131 ct_131 g1 dX11_demands_20 ?_
  refine lv_iconst (v := 3) hx hb dX11_demands_21 (by decide) ?_
  refine lv_icmp_ne (tgt := 29) hx hb dX11_demands_22 (by decide) (fun q => ?_) (fun q => ?_)
  · exact wX11_demands_s29 C n K2 v1 v2 v2 st res hK2 (ie hf q) H locs ls (lv_sub hl [0, 1, 2] rfl) hP hS
  · exact wX11_demands_s25 C n K2 v1 v2 v2 st res hK2 (it hf q) H locs ls (lv_sub hl [0, 1, 2] rfl) hP hS
def fX11_demands_s2 (n : Nat) (K2 : Int32 → Int32 → St → Option (Unit × St))  (v1 : Int32) (v2 : Int32) (st : St) : Option (Unit × St) := if (st.1 130 0) ≤ v2 then fX11_demands_s37 n st else fX11_demands_s10 n K2 v1 v2 st
set_option maxHeartbeats 4000000 in
set_option maxRecDepth 100000 in
theorem wX11_demands_s2 (C : Cx p s m args meth c cX11_demands 3 wsL_law RX11 none D G ad) (n : Nat) (K2 : Int32 → Int32 → St → Option (Unit × St))  (v1 : Int32) (v2 : Int32)   (st : St) (res : (Unit × St)) (hK2 : ∀ (v1 : Int32) (v2 : Int32) (st : St), K2 v1 v2 st = some res → At p l e (rmK 0) s m args below meth c D G ad (MQV D G ad below args s res) 3 st [(0, .ref (ad 130)), (1, .int v1), (2, .int v2)] 2 []) (hf : fX11_demands_s2 n K2  v1 v2 st = some res) : At p l e (rmK 0) s m args below meth c D G ad (MQV D G ad below args s res) 3 st [(0, .ref (ad 130)), (1, .int v1), (2, .int v2)] 2 [] := by
  obtain ⟨hx, hb, hml, hown, hts, hr, hlk, hK, had, hSt⟩ := id C
  intro H locs ls hl hP hS
  unfold fX11_demands_s2 at hf
  refine lv_iload_n hx hb dX11_demands_2 rfl (lv_at hl 2 rfl) ?_
  refine lv_aload_n hx hb dX11_demands_3 rfl (lv_at hl 0 rfl) ?_
  refine g_getI hx hb hts inlX11 hown hK hP 130 ct_130 rfl 0 (by decide) (hts _ wm_10_11) rfl dX11_demands_4 ?_
  refine lv_icmp_ge (tgt := 37) hx hb dX11_demands_7 (by decide) (fun q => ?_) (fun q => ?_)
  · exact wX11_demands_s37 C n st res (it hf q) H locs ls (lv_sub hl [] rfl) hP hS
  · exact wX11_demands_s10 C n K2 v1 v2 st res hK2 (ie hf q) H locs ls (lv_sub hl [0, 1, 2] rfl) hP hS
def fX11_demands_L2 (n : Nat)   : Nat → Int32 → Int32 → St → Option (Unit × St)
  | 0, _, _, _ => none
  | k + 1, v1, v2, st => fX11_demands_s2 n (fX11_demands_L2 n k)  v1 v2 st
theorem wX11_demands_L2 (C : Cx p s m args meth c cX11_demands 3 wsL_law RX11 none D G ad) (n : Nat)    (res : (Unit × St))  : ∀ (k : Nat) (v1 : Int32) (v2 : Int32)  (st : St), fX11_demands_L2 n k v1 v2 st = some res → At p l e (rmK 0) s m args below meth c D G ad (MQV D G ad below args s res) 3 st [(0, .ref (ad 130)), (1, .int v1), (2, .int v2)] 2 [] := by
  intro k
  induction k with
  | zero => intro v1 v2  st h; exact absurd h (by intro q; cases q)
  | succ k ih => intro v1 v2  st h; exact wX11_demands_s2 C n (fX11_demands_L2 n k)  v1 v2   st res ih h
def fX11_demands_s0 (n : Nat)   (v1 : Int32) (st : St) : Option (Unit × St) := fX11_demands_L2 n n v1 0 st
set_option maxHeartbeats 4000000 in
set_option maxRecDepth 100000 in
theorem wX11_demands_s0 (C : Cx p s m args meth c cX11_demands 3 wsL_law RX11 none D G ad) (n : Nat)   (v1 : Int32)   (st : St) (res : (Unit × St))  (hf : fX11_demands_s0 n   v1 st = some res) : At p l e (rmK 0) s m args below meth c D G ad (MQV D G ad below args s res) 3 st [(0, .ref (ad 130)), (1, .int v1)] 0 [] := by
  obtain ⟨hx, hb, hml, hown, hts, hr, hlk, hK, had, hSt⟩ := id C
  intro H locs ls hl hP hS
  unfold fX11_demands_s0 at hf
  refine lv_iconst (v := 0) hx hb dX11_demands_0 (by decide) ?_
  refine lv_istore_n (lv' := [(2, .int 0), (0, .ref (ad 130)), (1, .int v1)]) hx hb dX11_demands_1 rfl hl (by decide) rfl (fun ls hl => ?_)
  exact wX11_demands_L2 C n res n v1 0 st hf H locs ls (lv_sub hl [1, 2, 0] rfl) hP hS
def fX11_demands (n : Nat)  (a1 : Int32) (st : St) : Option (Unit × St) := fX11_demands_s0 n a1 st
theorem okX11_demands : okY yX11_demands RX11 1 := by unfold okY; decide +kernel
end
set_option maxRecDepth 100000 in
theorem kX11_demands (l : Launch) (D : va_G) (G : G3) (ad : Nat → Nat) (had : Adr ad) (n : Nat)   (a1 : Int32) (st : St) (res : (Unit × St)) (hf : fX11_demands n  a1 st = some res) {sz : Nat} : CtV l yX11_demands (wsU yX11_demands cX11_demands 3 none) (rmK 0) D G ad sz [.ref (ad 130), .int a1] st res := by
  refine Met.ofW (cc := cX11_demands) (maxL := 3) (ret := none) (by decide) rfl ?_
  intro p e s m args below meth c s₁ B hml hv
  obtain ⟨rfl, hsz, hP, hK, hSt⟩ := hv
  have hts := atoms_spec (ws := wsU yX11_demands cX11_demands 3 none) B.pre
  have C : Cx p s m _ meth c cX11_demands 3 wsL_law RX11 none D G ad := ⟨B.exec, B.bytes, hml, findClass_of_methodNamed B.named, fun w h => hts w (List.mem_cons_of_mem _ h), B.returns, B.notSynchronized, hK, had, hSt⟩
  subst hsz
  have hl := lv_entry ([.ref (ad 130), .int a1]) (n := 3) (Nat.le_of_ble_eq_true rfl)
  rw [lg_entry_eq]
  generalize (lg_sl ([.ref (ad 130), .int a1]) ++ List.replicate (3 - (lg_sl ([.ref (ad 130), .int a1])).length) Slot.unset).toArray = ls at hl ⊢
  exact wX11_demands_s0 C n  a1   st res hf s.heap [] ls (lv_sub hl [0, 1] rfl) hP va_S.rf
section
variable {p : Program} {l : Launch} {e : Env} {s : State} {m : MethodId} {args : Array Value} {below : List Frame} {meth : Method} {c : Code} {D : va_G} {G : G3} {ad : Nat → Nat}
def fX11_weeks_s24 (n : Nat)    (st : St) : Option (Int32 × St) := some ((-2), st)
set_option maxHeartbeats 4000000 in
set_option maxRecDepth 100000 in
theorem wX11_weeks_s24 (C : Cx p s m args meth c cX11_weeks 5 wsL_law RX11 (some .int) D G ad) (n : Nat)      (st : St) (res : (Int32 × St))  (hf : fX11_weeks_s24 n    st = some res) : At p l e (rmK 6) s m args below meth c D G ad (MQI D G ad below args s res) 5 st [] 24 [] := by
  obtain ⟨hx, hb, hml, hown, hts, hr, hlk, hK, had, hSt⟩ := id C
  intro H locs ls hl hP hS
  unfold fX11_weeks_s24 at hf
  refine lv_bipush (v := (-2)) hx hb dX11_weeks_24 (by decide) ?_
  exact g_iret hx hb hr hlk hP hS dX11_weeks_26 hf
def fX11_weeks_s81 (n : Nat)   (v3 : Int32) (st : St) : Option (Int32 × St) := some (v3, st)
set_option maxHeartbeats 4000000 in
set_option maxRecDepth 100000 in
theorem wX11_weeks_s81 (C : Cx p s m args meth c cX11_weeks 5 wsL_law RX11 (some .int) D G ad) (n : Nat)   (v3 : Int32)   (st : St) (res : (Int32 × St))  (hf : fX11_weeks_s81 n   v3 st = some res) : At p l e (rmK 6) s m args below meth c D G ad (MQI D G ad below args s res) 5 st [(3, .int v3)] 81 [] := by
  obtain ⟨hx, hb, hml, hown, hts, hr, hlk, hK, had, hSt⟩ := id C
  intro H locs ls hl hP hS
  unfold fX11_weeks_s81 at hf
  refine lv_iload_n hx hb dX11_weeks_81 rfl (lv_at hl 0 rfl) ?_
  exact g_iret hx hb hr hlk hP hS dX11_weeks_82 hf
def fX11_weeks_s73 (n : Nat) (K57 : Int32 → Int32 → Int32 → Int32 → St → Option (Int32 × St))  (v1 : Int32) (v2 : Int32) (v4 : Int32) (k0 : Int32) (k1 : Int32) (st : St) : Option (Int32 × St) := K57 v1 v2 (k0 + k1) (v4 + 1) st
set_option maxHeartbeats 4000000 in
set_option maxRecDepth 100000 in
theorem wX11_weeks_s73 (C : Cx p s m args meth c cX11_weeks 5 wsL_law RX11 (some .int) D G ad) (n : Nat) (K57 : Int32 → Int32 → Int32 → Int32 → St → Option (Int32 × St))  (v1 : Int32) (v2 : Int32) (v4 : Int32) (k0 : Int32) (k1 : Int32)   (st : St) (res : (Int32 × St)) (hK57 : ∀ (v1 : Int32) (v2 : Int32) (v3 : Int32) (v4 : Int32) (st : St), K57 v1 v2 v3 v4 st = some res → At p l e (rmK 6) s m args below meth c D G ad (MQI D G ad below args s res) 5 st [(0, .ref (ad 130)), (1, .int v1), (2, .int v2), (3, .int v3), (4, .int v4)] 57 []) (hf : fX11_weeks_s73 n K57  v1 v2 v4 k0 k1 st = some res) : At p l e (rmK 6) s m args below meth c D G ad (MQI D G ad below args s res) 5 st [(0, .ref (ad 130)), (1, .int v1), (2, .int v2), (4, .int v4)] 73 [.int k1, .int k0] := by
  obtain ⟨hx, hb, hml, hown, hts, hr, hlk, hK, had, hSt⟩ := id C
  intro H locs ls hl hP hS
  unfold fX11_weeks_s73 at hf
  refine lv_iadd hx hb dX11_weeks_73 ?_
  refine lv_istore_n (lv' := [(3, .int (k0 + k1)), (0, .ref (ad 130)), (1, .int v1), (2, .int v2), (4, .int v4)]) hx hb dX11_weeks_74 rfl hl (by decide) rfl (fun ls hl => ?_)
  refine lv_iinc (v := v4 + 1) (lv' := [(4, .int (v4 + 1)), (3, .int (k0 + k1)), (0, .ref (ad 130)), (1, .int v1), (2, .int v2)]) hx hb dX11_weeks_75 hl (k := 4) rfl rfl (by decide) rfl (fun ls hl => ?_)
  refine lv_goto (tgt := 57) hx hb dX11_weeks_78 (by decide) ?_
  exact hK57 v1 v2 (k0 + k1) (v4 + 1)  st hf H locs ls (lv_sub hl [2, 3, 4, 1, 0] rfl) hP hS
def fX11_weeks_s68 (n : Nat) (K57 : Int32 → Int32 → Int32 → Int32 → St → Option (Int32 × St))  (v1 : Int32) (v2 : Int32) (v3 : Int32) (v4 : Int32) (st : St) : Option (Int32 × St) := (fX11_goesBy n st).bind (fun q => fX11_weeks_s73 n K57 v1 v2 v4 v3 q.1 q.2)
set_option maxHeartbeats 4000000 in
set_option maxRecDepth 100000 in
theorem wX11_weeks_s68 (C : Cx p s m args meth c cX11_weeks 5 wsL_law RX11 (some .int) D G ad) (n : Nat) (K57 : Int32 → Int32 → Int32 → Int32 → St → Option (Int32 × St))  (v1 : Int32) (v2 : Int32) (v3 : Int32) (v4 : Int32)   (st : St) (res : (Int32 × St)) (hK57 : ∀ (v1 : Int32) (v2 : Int32) (v3 : Int32) (v4 : Int32) (st : St), K57 v1 v2 v3 v4 st = some res → At p l e (rmK 6) s m args below meth c D G ad (MQI D G ad below args s res) 5 st [(0, .ref (ad 130)), (1, .int v1), (2, .int v2), (3, .int v3), (4, .int v4)] 57 []) (hf : fX11_weeks_s68 n K57  v1 v2 v3 v4 st = some res) : At p l e (rmK 6) s m args below meth c D G ad (MQI D G ad below args s res) 5 st [(0, .ref (ad 130)), (1, .int v1), (2, .int v2), (3, .int v3), (4, .int v4)] 68 [] := by
  obtain ⟨hx, hb, hml, hown, hts, hr, hlk, hK, had, hSt⟩ := id C
  intro H locs ls hl hP hS
  unfold fX11_weeks_s68 at hf
  refine lv_iload_n hx hb dX11_weeks_68 rfl (lv_at hl 3 rfl) ?_
  refine lv_aload_n hx hb dX11_weeks_69 rfl (lv_at hl 0 rfl) ?_
  obtain ⟨q, hq, hf⟩ := bd hf
  refine gcV_i (k := 5) (o := 130) (As := []) (rest := [.int v3]) hx hb hml hown hts hK hSt hP hS hl.1 (goodV wm_22_19 wm_22_20 wm_22_21 wm_1_5 wm_22_22) okX11_goesBy ct_130 rfl rfl (Nat.le_of_ble_eq_true rfl) (Nat.le_of_ble_eq_true rfl) rfl rfl (Nat.le_of_ble_eq_true rfl) dX11_weeks_70 (kX11_goesBy l D G ad had n   st q hq) (fun H locs hP hS => ?_)
  exact wX11_weeks_s73 C n K57 v1 v2 v4 v3 q.1 q.2 res hK57 hf H locs ls (lv_sub hl [0, 1, 2, 4] rfl) hP hS
def fX11_weeks_s63 (n : Nat) (K57 : Int32 → Int32 → Int32 → Int32 → St → Option (Int32 × St))  (v1 : Int32) (v2 : Int32) (v3 : Int32) (v4 : Int32) (st : St) : Option (Int32 × St) := (fX11_demands n v2 st).bind (fun q => fX11_weeks_s68 n K57 v1 v2 v3 v4 q.2)
set_option maxHeartbeats 4000000 in
set_option maxRecDepth 100000 in
theorem wX11_weeks_s63 (C : Cx p s m args meth c cX11_weeks 5 wsL_law RX11 (some .int) D G ad) (n : Nat) (K57 : Int32 → Int32 → Int32 → Int32 → St → Option (Int32 × St))  (v1 : Int32) (v2 : Int32) (v3 : Int32) (v4 : Int32)   (st : St) (res : (Int32 × St)) (hK57 : ∀ (v1 : Int32) (v2 : Int32) (v3 : Int32) (v4 : Int32) (st : St), K57 v1 v2 v3 v4 st = some res → At p l e (rmK 6) s m args below meth c D G ad (MQI D G ad below args s res) 5 st [(0, .ref (ad 130)), (1, .int v1), (2, .int v2), (3, .int v3), (4, .int v4)] 57 []) (hf : fX11_weeks_s63 n K57  v1 v2 v3 v4 st = some res) : At p l e (rmK 6) s m args below meth c D G ad (MQI D G ad below args s res) 5 st [(0, .ref (ad 130)), (1, .int v1), (2, .int v2), (3, .int v3), (4, .int v4)] 63 [] := by
  obtain ⟨hx, hb, hml, hown, hts, hr, hlk, hK, had, hSt⟩ := id C
  intro H locs ls hl hP hS
  unfold fX11_weeks_s63 at hf
  refine lv_aload_n hx hb dX11_weeks_63 rfl (lv_at hl 0 rfl) ?_
  refine lv_iload_n hx hb dX11_weeks_64 rfl (lv_at hl 2 rfl) ?_
  obtain ⟨q, hq, hf⟩ := bd hf
  refine gcV_v (k := 0) (o := 130) (As := [.int v2]) (rest := []) hx hb hml hown hts hK hSt hP hS hl.1 (goodV wm_24_16 wm_24_17 wm_24_18 wm_1_5 wm_24_19) okX11_demands ct_130 rfl rfl (Nat.le_of_ble_eq_true rfl) (Nat.le_of_ble_eq_true rfl) rfl rfl (Nat.le_of_ble_eq_true rfl) dX11_weeks_65 (kX11_demands l D G ad had n  v2 st q hq) (fun H locs hP hS => ?_)
  exact wX11_weeks_s68 C n K57 v1 v2 v3 v4 q.2 res hK57 hf H locs ls (lv_sub hl [0, 1, 2, 3, 4] rfl) hP hS
def fX11_weeks_s57 (n : Nat) (K57 : Int32 → Int32 → Int32 → Int32 → St → Option (Int32 × St))  (v1 : Int32) (v2 : Int32) (v3 : Int32) (v4 : Int32) (st : St) : Option (Int32 × St) := if v1 ≤ v4 then fX11_weeks_s81 n v3 st else fX11_weeks_s63 n K57 v1 v2 v3 v4 st
set_option maxHeartbeats 4000000 in
set_option maxRecDepth 100000 in
theorem wX11_weeks_s57 (C : Cx p s m args meth c cX11_weeks 5 wsL_law RX11 (some .int) D G ad) (n : Nat) (K57 : Int32 → Int32 → Int32 → Int32 → St → Option (Int32 × St))  (v1 : Int32) (v2 : Int32) (v3 : Int32) (v4 : Int32)   (st : St) (res : (Int32 × St)) (hK57 : ∀ (v1 : Int32) (v2 : Int32) (v3 : Int32) (v4 : Int32) (st : St), K57 v1 v2 v3 v4 st = some res → At p l e (rmK 6) s m args below meth c D G ad (MQI D G ad below args s res) 5 st [(0, .ref (ad 130)), (1, .int v1), (2, .int v2), (3, .int v3), (4, .int v4)] 57 []) (hf : fX11_weeks_s57 n K57  v1 v2 v3 v4 st = some res) : At p l e (rmK 6) s m args below meth c D G ad (MQI D G ad below args s res) 5 st [(0, .ref (ad 130)), (1, .int v1), (2, .int v2), (3, .int v3), (4, .int v4)] 57 [] := by
  obtain ⟨hx, hb, hml, hown, hts, hr, hlk, hK, had, hSt⟩ := id C
  intro H locs ls hl hP hS
  unfold fX11_weeks_s57 at hf
  refine lv_iload hx hb dX11_weeks_57 (lv_at hl 4 rfl) ?_
  refine lv_iload_n hx hb dX11_weeks_59 rfl (lv_at hl 1 rfl) ?_
  refine lv_icmp_ge (tgt := 81) hx hb dX11_weeks_60 (by decide) (fun q => ?_) (fun q => ?_)
  · exact wX11_weeks_s81 C n v3 st res (it hf q) H locs ls (lv_sub hl [3] rfl) hP hS
  · exact wX11_weeks_s63 C n K57 v1 v2 v3 v4 st res hK57 (ie hf q) H locs ls (lv_sub hl [0, 1, 2, 3, 4] rfl) hP hS
def fX11_weeks_L57 (n : Nat)   : Nat → Int32 → Int32 → Int32 → Int32 → St → Option (Int32 × St)
  | 0, _, _, _, _, _ => none
  | k + 1, v1, v2, v3, v4, st => fX11_weeks_s57 n (fX11_weeks_L57 n k)  v1 v2 v3 v4 st
theorem wX11_weeks_L57 (C : Cx p s m args meth c cX11_weeks 5 wsL_law RX11 (some .int) D G ad) (n : Nat)    (res : (Int32 × St))  : ∀ (k : Nat) (v1 : Int32) (v2 : Int32) (v3 : Int32) (v4 : Int32)  (st : St), fX11_weeks_L57 n k v1 v2 v3 v4 st = some res → At p l e (rmK 6) s m args below meth c D G ad (MQI D G ad below args s res) 5 st [(0, .ref (ad 130)), (1, .int v1), (2, .int v2), (3, .int v3), (4, .int v4)] 57 [] := by
  intro k
  induction k with
  | zero => intro v1 v2 v3 v4  st h; exact absurd h (by intro q; cases q)
  | succ k ih => intro v1 v2 v3 v4  st h; exact wX11_weeks_s57 C n (fX11_weeks_L57 n k)  v1 v2 v3 v4   st res ih h
def fX11_weeks_s52 (n : Nat)   (v1 : Int32) (v2 : Int32) (st : St) : Option (Int32 × St) := fX11_weeks_L57 n n v1 v2 0 0 st
set_option maxHeartbeats 4000000 in
set_option maxRecDepth 100000 in
theorem wX11_weeks_s52 (C : Cx p s m args meth c cX11_weeks 5 wsL_law RX11 (some .int) D G ad) (n : Nat)   (v1 : Int32) (v2 : Int32)   (st : St) (res : (Int32 × St))  (hf : fX11_weeks_s52 n   v1 v2 st = some res) : At p l e (rmK 6) s m args below meth c D G ad (MQI D G ad below args s res) 5 st [(0, .ref (ad 130)), (1, .int v1), (2, .int v2)] 52 [] := by
  obtain ⟨hx, hb, hml, hown, hts, hr, hlk, hK, had, hSt⟩ := id C
  intro H locs ls hl hP hS
  unfold fX11_weeks_s52 at hf
  refine lv_iconst (v := 0) hx hb dX11_weeks_52 (by decide) ?_
  refine lv_istore_n (lv' := [(3, .int 0), (0, .ref (ad 130)), (1, .int v1), (2, .int v2)]) hx hb dX11_weeks_53 rfl hl (by decide) rfl (fun ls hl => ?_)
  refine lv_iconst (v := 0) hx hb dX11_weeks_54 (by decide) ?_
  refine lv_istore (lv' := [(4, .int 0), (3, .int 0), (0, .ref (ad 130)), (1, .int v1), (2, .int v2)]) hx hb dX11_weeks_55 hl (by decide) rfl (fun ls hl => ?_)
  exact wX11_weeks_L57 C n res n v1 v2 0 0 st hf H locs ls (lv_sub hl [2, 3, 4, 1, 0] rfl) hP hS
def fX11_weeks_s49 (n : Nat)    (st : St) : Option (Int32 × St) := some ((-4), st)
set_option maxHeartbeats 4000000 in
set_option maxRecDepth 100000 in
theorem wX11_weeks_s49 (C : Cx p s m args meth c cX11_weeks 5 wsL_law RX11 (some .int) D G ad) (n : Nat)      (st : St) (res : (Int32 × St))  (hf : fX11_weeks_s49 n    st = some res) : At p l e (rmK 6) s m args below meth c D G ad (MQI D G ad below args s res) 5 st [] 49 [] := by
  obtain ⟨hx, hb, hml, hown, hts, hr, hlk, hK, had, hSt⟩ := id C
  intro H locs ls hl hP hS
  unfold fX11_weeks_s49 at hf
  refine lv_bipush (v := (-4)) hx hb dX11_weeks_49 (by decide) ?_
  exact g_iret hx hb hr hlk hP hS dX11_weeks_51 hf
def fX11_weeks_s37 (n : Nat)   (v1 : Int32) (v2 : Int32) (st : St) : Option (Int32 × St) := if ((st.1 130 12) + v1) ≤ 400 then fX11_weeks_s52 n v1 v2 st else fX11_weeks_s49 n st
set_option maxHeartbeats 4000000 in
set_option maxRecDepth 100000 in
theorem wX11_weeks_s37 (C : Cx p s m args meth c cX11_weeks 5 wsL_law RX11 (some .int) D G ad) (n : Nat)   (v1 : Int32) (v2 : Int32)   (st : St) (res : (Int32 × St))  (hf : fX11_weeks_s37 n   v1 v2 st = some res) : At p l e (rmK 6) s m args below meth c D G ad (MQI D G ad below args s res) 5 st [(0, .ref (ad 130)), (1, .int v1), (2, .int v2)] 37 [] := by
  obtain ⟨hx, hb, hml, hown, hts, hr, hlk, hK, had, hSt⟩ := id C
  intro H locs ls hl hP hS
  unfold fX11_weeks_s37 at hf
  refine lv_aload_n hx hb dX11_weeks_37 rfl (lv_at hl 0 rfl) ?_
  refine g_getI hx hb hts inlX11 hown hK hP 130 ct_130 rfl 12 (by decide) (hts _ wm_10_15) rfl dX11_weeks_38 ?_
  refine lv_iload_n hx hb dX11_weeks_41 rfl (lv_at hl 1 rfl) ?_
  refine lv_iadd hx hb dX11_weeks_42 ?_
  refine lv_sipush (v := 400) hx hb dX11_weeks_43 (by decide) ?_
  refine lv_icmp_le (tgt := 52) hx hb dX11_weeks_46 (by decide) (fun q => ?_) (fun q => ?_)
  · exact wX11_weeks_s52 C n v1 v2 st res (it hf q) H locs ls (lv_sub hl [0, 1, 2] rfl) hP hS
  · exact wX11_weeks_s49 C n st res (ie hf q) H locs ls (lv_sub hl [] rfl) hP hS
def fX11_weeks_s34 (n : Nat)    (st : St) : Option (Int32 × St) := some ((-3), st)
set_option maxHeartbeats 4000000 in
set_option maxRecDepth 100000 in
theorem wX11_weeks_s34 (C : Cx p s m args meth c cX11_weeks 5 wsL_law RX11 (some .int) D G ad) (n : Nat)      (st : St) (res : (Int32 × St))  (hf : fX11_weeks_s34 n    st = some res) : At p l e (rmK 6) s m args below meth c D G ad (MQI D G ad below args s res) 5 st [] 34 [] := by
  obtain ⟨hx, hb, hml, hown, hts, hr, hlk, hK, had, hSt⟩ := id C
  intro H locs ls hl hP hS
  unfold fX11_weeks_s34 at hf
  refine lv_bipush (v := (-3)) hx hb dX11_weeks_34 (by decide) ?_
  exact g_iret hx hb hr hlk hP hS dX11_weeks_36 hf
def fX11_weeks_s27 (n : Nat)   (v1 : Int32) (v2 : Int32) (st : St) : Option (Int32 × St) := if (st.1 130 0) = 0 then fX11_weeks_s34 n st else fX11_weeks_s37 n v1 v2 st
set_option maxHeartbeats 4000000 in
set_option maxRecDepth 100000 in
theorem wX11_weeks_s27 (C : Cx p s m args meth c cX11_weeks 5 wsL_law RX11 (some .int) D G ad) (n : Nat)   (v1 : Int32) (v2 : Int32)   (st : St) (res : (Int32 × St))  (hf : fX11_weeks_s27 n   v1 v2 st = some res) : At p l e (rmK 6) s m args below meth c D G ad (MQI D G ad below args s res) 5 st [(0, .ref (ad 130)), (1, .int v1), (2, .int v2)] 27 [] := by
  obtain ⟨hx, hb, hml, hown, hts, hr, hlk, hK, had, hSt⟩ := id C
  intro H locs ls hl hP hS
  unfold fX11_weeks_s27 at hf
  refine lv_aload_n hx hb dX11_weeks_27 rfl (lv_at hl 0 rfl) ?_
  refine g_getI hx hb hts inlX11 hown hK hP 130 ct_130 rfl 0 (by decide) (hts _ wm_10_11) rfl dX11_weeks_28 ?_
  refine lv_if_ne (tgt := 37) hx hb dX11_weeks_31 (by decide) (fun q => ?_) (fun q => ?_)
  · exact wX11_weeks_s37 C n v1 v2 st res (ie hf q) H locs ls (lv_sub hl [0, 1, 2] rfl) hP hS
  · exact wX11_weeks_s34 C n st res (it hf q) H locs ls (lv_sub hl [] rfl) hP hS
def fX11_weeks_s21 (n : Nat)   (v1 : Int32) (v2 : Int32) (k0 : Int32) (st : St) : Option (Int32 × St) := if k0 = 0 then fX11_weeks_s24 n st else fX11_weeks_s27 n v1 v2 st
set_option maxHeartbeats 4000000 in
set_option maxRecDepth 100000 in
theorem wX11_weeks_s21 (C : Cx p s m args meth c cX11_weeks 5 wsL_law RX11 (some .int) D G ad) (n : Nat)   (v1 : Int32) (v2 : Int32) (k0 : Int32)   (st : St) (res : (Int32 × St))  (hf : fX11_weeks_s21 n   v1 v2 k0 st = some res) : At p l e (rmK 6) s m args below meth c D G ad (MQI D G ad below args s res) 5 st [(0, .ref (ad 130)), (1, .int v1), (2, .int v2)] 21 [.int k0] := by
  obtain ⟨hx, hb, hml, hown, hts, hr, hlk, hK, had, hSt⟩ := id C
  intro H locs ls hl hP hS
  unfold fX11_weeks_s21 at hf
  refine lv_if_ne (tgt := 27) hx hb dX11_weeks_21 (by decide) (fun q => ?_) (fun q => ?_)
  · exact wX11_weeks_s27 C n v1 v2 st res (ie hf q) H locs ls (lv_sub hl [0, 1, 2] rfl) hP hS
  · exact wX11_weeks_s24 C n st res (it hf q) H locs ls (lv_sub hl [] rfl) hP hS
def fX11_weeks_s12 (n : Nat)   (v1 : Int32) (v2 : Int32) (st : St) : Option (Int32 × St) := (fX11_in n v2.toInt64 0 999 st).bind (fun q => fX11_weeks_s21 n v1 v2 q.1 q.2)
set_option maxHeartbeats 4000000 in
set_option maxRecDepth 100000 in
theorem wX11_weeks_s12 (C : Cx p s m args meth c cX11_weeks 5 wsL_law RX11 (some .int) D G ad) (n : Nat)   (v1 : Int32) (v2 : Int32)   (st : St) (res : (Int32 × St))  (hf : fX11_weeks_s12 n   v1 v2 st = some res) : At p l e (rmK 6) s m args below meth c D G ad (MQI D G ad below args s res) 5 st [(0, .ref (ad 130)), (1, .int v1), (2, .int v2)] 12 [] := by
  obtain ⟨hx, hb, hml, hown, hts, hr, hlk, hK, had, hSt⟩ := id C
  intro H locs ls hl hP hS
  unfold fX11_weeks_s12 at hf
  refine lv_iload_n hx hb dX11_weeks_12 rfl (lv_at hl 2 rfl) ?_
  refine lv_i2l hx hb dX11_weeks_13 rfl ?_
  refine lv_lconst (v := 0) hx hb dX11_weeks_14 (by decide) ?_
  refine lv_ldc2 hx hb hown (hts _ wm_17_0) dX11_weeks_15 ?_
  obtain ⟨q, hq, hf⟩ := bd hf
  refine gcS_i (k := 0) (As := [.long v2.toInt64, .long 0, .long 999]) (rest := []) hx hb hml hown hts hK hSt hP hS hl.1 (goodS wm_10_21 wm_10_22 wm_1_5 wm_10_23) okX11_in (Nat.le_of_ble_eq_true rfl) (Nat.le_of_ble_eq_true rfl) rfl rfl (Nat.le_of_ble_eq_true rfl) dX11_weeks_18 (kX11_in l D G ad had n  v2.toInt64 0 999 st q hq) (fun H locs hP hS => ?_)
  exact wX11_weeks_s21 C n v1 v2 q.1 q.2 res hf H locs ls (lv_sub hl [0, 1, 2] rfl) hP hS
def fX11_weeks_s9 (n : Nat)   (v1 : Int32) (v2 : Int32) (k0 : Int32) (st : St) : Option (Int32 × St) := if k0 = 0 then fX11_weeks_s24 n st else fX11_weeks_s12 n v1 v2 st
set_option maxHeartbeats 4000000 in
set_option maxRecDepth 100000 in
theorem wX11_weeks_s9 (C : Cx p s m args meth c cX11_weeks 5 wsL_law RX11 (some .int) D G ad) (n : Nat)   (v1 : Int32) (v2 : Int32) (k0 : Int32)   (st : St) (res : (Int32 × St))  (hf : fX11_weeks_s9 n   v1 v2 k0 st = some res) : At p l e (rmK 6) s m args below meth c D G ad (MQI D G ad below args s res) 5 st [(0, .ref (ad 130)), (1, .int v1), (2, .int v2)] 9 [.int k0] := by
  obtain ⟨hx, hb, hml, hown, hts, hr, hlk, hK, had, hSt⟩ := id C
  intro H locs ls hl hP hS
  unfold fX11_weeks_s9 at hf
  refine lv_if_eq (tgt := 24) hx hb dX11_weeks_9 (by decide) (fun q => ?_) (fun q => ?_)
  · exact wX11_weeks_s24 C n st res (it hf q) H locs ls (lv_sub hl [] rfl) hP hS
  · exact wX11_weeks_s12 C n v1 v2 st res (ie hf q) H locs ls (lv_sub hl [0, 1, 2] rfl) hP hS
def fX11_weeks_s0 (n : Nat)   (v1 : Int32) (v2 : Int32) (st : St) : Option (Int32 × St) := (fX11_in n v1.toInt64 1 20 st).bind (fun q => fX11_weeks_s9 n v1 v2 q.1 q.2)
set_option maxHeartbeats 4000000 in
set_option maxRecDepth 100000 in
theorem wX11_weeks_s0 (C : Cx p s m args meth c cX11_weeks 5 wsL_law RX11 (some .int) D G ad) (n : Nat)   (v1 : Int32) (v2 : Int32)   (st : St) (res : (Int32 × St))  (hf : fX11_weeks_s0 n   v1 v2 st = some res) : At p l e (rmK 6) s m args below meth c D G ad (MQI D G ad below args s res) 5 st [(0, .ref (ad 130)), (1, .int v1), (2, .int v2)] 0 [] := by
  obtain ⟨hx, hb, hml, hown, hts, hr, hlk, hK, had, hSt⟩ := id C
  intro H locs ls hl hP hS
  unfold fX11_weeks_s0 at hf
  refine lv_iload_n hx hb dX11_weeks_0 rfl (lv_at hl 1 rfl) ?_
  refine lv_i2l hx hb dX11_weeks_1 rfl ?_
  refine lv_lconst (v := 1) hx hb dX11_weeks_2 (by decide) ?_
  refine lv_ldc2 hx hb hown (hts _ wm_24_15) dX11_weeks_3 ?_
  obtain ⟨q, hq, hf⟩ := bd hf
  refine gcS_i (k := 0) (As := [.long v1.toInt64, .long 1, .long 20]) (rest := []) hx hb hml hown hts hK hSt hP hS hl.1 (goodS wm_10_21 wm_10_22 wm_1_5 wm_10_23) okX11_in (Nat.le_of_ble_eq_true rfl) (Nat.le_of_ble_eq_true rfl) rfl rfl (Nat.le_of_ble_eq_true rfl) dX11_weeks_6 (kX11_in l D G ad had n  v1.toInt64 1 20 st q hq) (fun H locs hP hS => ?_)
  exact wX11_weeks_s9 C n v1 v2 q.1 q.2 res hf H locs ls (lv_sub hl [0, 1, 2] rfl) hP hS
def fX11_weeks (n : Nat)  (a1 : Int32) (a2 : Int32) (st : St) : Option (Int32 × St) := fX11_weeks_s0 n a1 a2 st
theorem okX11_weeks : okY yX11_weeks RX11 2 := by unfold okY; decide +kernel
end
set_option maxRecDepth 100000 in
theorem kX11_weeks (l : Launch) (D : va_G) (G : G3) (ad : Nat → Nat) (had : Adr ad) (n : Nat)   (a1 : Int32) (a2 : Int32) (st : St) (res : (Int32 × St)) (hf : fX11_weeks n  a1 a2 st = some res) {sz : Nat} : CtI l yX11_weeks (wsU yX11_weeks cX11_weeks 5 (some .int)) (rmK 6) D G ad sz [.ref (ad 130), .int a1, .int a2] st res := by
  refine Met.ofW (cc := cX11_weeks) (maxL := 5) (ret := (some .int)) (by decide) rfl ?_
  intro p e s m args below meth c s₁ B hml hv
  obtain ⟨rfl, hsz, hP, hK, hSt⟩ := hv
  have hts := atoms_spec (ws := wsU yX11_weeks cX11_weeks 5 (some .int)) B.pre
  have C : Cx p s m _ meth c cX11_weeks 5 wsL_law RX11 (some .int) D G ad := ⟨B.exec, B.bytes, hml, findClass_of_methodNamed B.named, fun w h => hts w (List.mem_cons_of_mem _ h), B.returns, B.notSynchronized, hK, had, hSt⟩
  subst hsz
  have hl := lv_entry ([.ref (ad 130), .int a1, .int a2]) (n := 5) (Nat.le_of_ble_eq_true rfl)
  rw [lg_entry_eq]
  generalize (lg_sl ([.ref (ad 130), .int a1, .int a2]) ++ List.replicate (5 - (lg_sl ([.ref (ad 130), .int a1, .int a2])).length) Slot.unset).toArray = ls at hl ⊢
  exact wX11_weeks_s0 C n  a1 a2   st res hf s.heap [] ls (lv_sub hl [0, 1, 2] rfl) hP va_S.rf
